/-! THE LAW'S LOOP (written by wip/gen/law.py) -/
theorem lw_ret {p : Program} {l : Launch} {e : Env} {s : State} {m : MethodId} {below : List Frame} {meth : Method} {c : Code} {b : Nat} (hx : p.tables.exec = Jvm.exec) (hb : c.code = code) (hr : meth.sig.returnType = ret) (hlocks : meth.locks = false) {pc : Nat} {H : Heap} {ls : Array Slot} (hdg : decode code pc = .ok (.ireturn, 1)) : W p l e room_1 s m #[Value.ref b] below meth c H [] 600000 7302250 (lw_Z below #[Value.ref b] s) (F0 m pc ls [.int 1]) := by
  intro T hT X
  obtain ⟨fs, hret, hrun, hended, hW, hframe⟩ := X.leave (v := some (.int 1)) (hlocks := hlocks) (fun h => by rw [hr] at h; cases h)
  have hmeth' : T.vm.method? m = some meth := X.method'
  refine ⟨T.setFrames fs, ?_, .returned (some (.int 1)), hrun, hended, rfl, ⟨_, rfl⟩, hW, hframe⟩
  jvm_step X.here [X.here.top, hx, hb, hdg, hmeth', hr, ret, narrow_b1]
  (try refine ⟨rfl, ?_⟩); (try refine ⟨rfl, ?_⟩)
  first | (intro acts; rw [hret _ acts rfl rfl rfl]) | rw [hret _ _ rfl rfl rfl]
  exact Steps.refl _
theorem idsOK.of {ids : List Nat} {S S2 : ns_S} (h : S2.2.2.2 = S.2.2.2) (ho : idsOK ids S) : idsOK ids S2 := by
  unfold idsOK; rw [h]; exact ho
section LWL
variable {p : Program} {l : Launch} {e : Env} {s : State} {m : MethodId} {below : List Frame} {meth : Method} {c : Code} {D : va_G} {sb L k : Nat} {xs : Nat → Int32} {S : ns_S} {b : Nat → Nat} {ids : List Nat} {H : Heap} {locs : List Loc} {ls : Array Slot} {cells slots pc : Nat} {rest : List Value} {Q : State → Prop}
abbrev lwC (p : Program) (s : State) (m : MethodId) (meth : Method) (c : Code) (D : va_G) (sb L : Nat) (xs : Nat → Int32) : Prop := ns_C p m c cL_law 4 s #[Value.ref sb] wsL_law RL D (fun q : Nat => s.heap.size ≤ q) ∧ va_X sb L xs s s.heap ∧ sb < s.heap.size ∧ L ≤ 3072 ∧ meth.sig.returnType = ret ∧ meth.locks = false ∧ cN s
abbrev lwV (sb : Nat) (b : Nat → Nat) (k : Nat) : List (Nat × Value) := [(0, .ref sb), (1, .ref (b 0)), (2, .ref (b 62)), (3, .int (nI (6 * k)))]
/-- at the loop's head, k calls made: what comes -/
def lwL (p : Program) (l : Launch) (e : Env) (s : State) (m : MethodId) (below : List Frame) (meth : Method) (c : Code) (D : va_G) (sb k : Nat) : Prop := ∀ (S : ns_S) (b : Nat → Nat) (ids : List Nat) (H : Heap) (locs : List Loc) (ls : Array Slot), cW D (fun q : Nat => s.heap.size ≤ q) s.heap (ns_wl D b S ids) H locs → idsOK ids S → Rel S (20 * k) → lv_has ls 4 (lwV sb b k) → W p l e room_1 s m #[Value.ref sb] below meth c H locs (200 + 33 * k) (8000 + 761 * k) (lw_Z below #[Value.ref sb] s) (F0 m 18 ls [])
theorem lw_next (C : lwC p s m meth c D sb L xs) (K : lwL p l e s m below meth c D sb (k + 1)) (w : cW D (fun q : Nat => s.heap.size ≤ q) s.heap (ns_wl D b S ids) H locs) (ho : idsOK ids S) (hR : Rel S (20 * k + 20)) (hl : lv_has ls 4 (lwV sb b k)) (h1 : cells ≤ 200 + 33 * (k + 1)) (h2 : slots ≤ 8000 + 761 * (k + 1)) : W p l e room_1 s m #[Value.ref sb] below meth c H locs cells slots (lw_Z below #[Value.ref sb] s) (F0 m 846 ls []) := by
  refine W.widen h1 h2 ?_
  refine lv_iinc (v := nI (6 * (k + 1))) (lv' := [(3, .int (nI (6 * (k + 1)))), (0, .ref sb), (1, .ref (b 0)), (2, .ref (b 62))]) C.1.1.1 C.1.1.2.1 dL_law_846 hl (k := 3) rfl (nI_add (6 * k) 6) (by decide) rfl (fun ls hl => ?_)
  refine lv_goto (tgt := 18) C.1.1.1 C.1.1.2.1 dL_law_849 (by decide) ?_
  exact K S b ids H locs ls w ho hR (lv_sub hl [1, 2, 3, 0] rfl)
theorem lw_arg (C : lwC p s m meth c D sb L xs) (j : Nat) {n : Int} (hin : 6 * k + j < L) (hS : va_S (fun q : Nat => s.heap.size ≤ q) s.heap H locs) (hl : lv_has ls 4 (lwV sb b k)) (hn : Int32.ofInt n = nI j) (h0 : decode cL_law pc = .ok (.aload_n 0, 1)) (h1 : decode cL_law (pc + 1) = .ok (.iload_n 3, 1)) (h2 : decode cL_law (pc + 2) = .ok (.iconst n, 1)) (h3 : decode cL_law (pc + 3) = .ok (.iadd, 1)) (h4 : decode cL_law (pc + 4) = .ok (.iaload, 1))
    (kk : W p l e room_1 s m #[Value.ref sb] below meth c H locs cells slots Q (F0 m (pc + 5) ls (.int (xs (6 * k + j)) :: rest))) : W p l e room_1 s m #[Value.ref sb] below meth c H locs cells slots Q (F0 m pc ls rest) := by
  obtain ⟨⟨⟨hx, hb, -⟩, -⟩, hX, hbl, hL, -⟩ := C
  refine lv_aload_n hx hb h0 rfl (lv_at hl 0 rfl) ?_
  refine lv_iload_n hx hb h1 rfl (lv_at hl 3 rfl) ?_
  refine lv_iconst (v := nI j) hx hb h2 hn ?_
  refine lv_iadd hx hb h3 ?_
  rw [nI_add]
  refine va_sld (A := fun q : Nat => s.heap.size ≤ q) hx hb hX hbl (Nat.not_le.mpr hbl) hS (vp_in_nI hin (by omega)) h4 ?_
  rw [nI_clamp (by omega)]
  exact kk
theorem lw_cs (hL : L ≤ 3072) (h6 : 6 * k + 6 ≤ L) : 200 + 33 * k + 33 ≤ room_1.cells ∧ 8000 + 761 * k + 761 ≤ room_1.slots := by
  show 200 + 33 * k + 33 ≤ 600000 ∧ 8000 + 761 * k + 761 ≤ 7302250
  omega
/-- the call of image that makes one -/
theorem lw_im {j : Nat} (C : lwC p s m meth c D sb L xs) (w : cW D (fun q : Nat => s.heap.size ≤ q) s.heap (ns_wl D b S ids) H locs) (hi : 0 ∈ ids) (hM : imM l D b ids S j) (hsize : ls.size = 4) (hroom : (rest.map fun v => v.category).sum ≤ 8) (hcs : cells + 33 ≤ room_1.cells ∧ slots + 761 ≤ room_1.slots) (hdg : decode cL_law pc = .ok (.invokevirtual 108, 3))
    (kk : ∀ (S1 : ns_S) (b' : Nat → Nat) (ids' : List Nat) (H1 : Heap) (locs1 : List Loc), (∀ i, i < 107 + 33 * j ∨ 107 + 33 * j + 33 ≤ i → S1.2.1 i = S.2.1 i) → (∀ u, u < 64 * (107 + 33 * j) ∨ 64 * (107 + 33 * j + 33) ≤ u → S1.1 u = S.1 u) → S1.2.2.2 = va_up S.2.2.2 j true → b' 0 = b 0 → b' 62 = b 62 → idsOK ids' S1 → cW D (fun q : Nat => s.heap.size ≤ q) s.heap (ns_wl D b' (cpD (107 + 33 * j) S1 (cpT S1 28 (107 + 33 * j))) ids') H1 locs1 → W p l e room_1 s m #[Value.ref sb] below meth c H1 locs1 (cells + 33) (slots + 761) Q (F0 m (pc + 3) ls (.int 1 :: rest))) : W p l e room_1 s m #[Value.ref sb] below meth c H locs cells slots Q (F0 m pc ls (.int (nI j) :: .ref (b 0) :: rest)) := by
  obtain ⟨C, -, -, -, -, -, hN⟩ := C
  obtain ⟨q0, -, he⟩ := ns_at D b S hi
  rw [ns_ce_o sh_0] at he
  have hA := ns_sub (lw_ns w)
  have hr := va_runV (e := e) (R := room_1) (below := below) (meth := meth) (locs := locs) (cells := cells) (slots := slots) (As := [.int (nI j)]) (rest := rest) (g := F0 m pc ls (.int (nI j) :: .ref (b 0) :: rest)) C.1 (hM H.size) (cwV 1 C.1.2.2.2.2 gL_law_X10_image rfl rfl rfl hdX10_image ⟨Nat.le_of_ble_eq_true rfl, Nat.le_of_ble_eq_true rfl⟩) ⟨fun a U g mk q => by
      obtain ⟨q0, q1, q2⟩ := q
      exact ⟨q0, (ns_blind (vals := [.ref (b 0), .int (nI j)]) a U g mk ⟨q0, q1⟩).2, q2.same (u := U) (U := U.calling g mk a) rfl⟩, va_recv C.2.1 w.1 (rfl : vwCl[10]? = some (RX10, TX10, 6)) he, fun U hU hW => ⟨rfl, (ns_pre (vals := [.ref (b 0), .int (nI j)]) C.2.1 C.2.2 (lw_ns w) U hU hW).2, hN.warm hW⟩⟩ rfl rfl hsize rfl (lv_room hroom) hdg hcs
  intro T hT X
  obtain ⟨v, st₀, t, T', Lc, h0, X', hL, e1, e2, ⟨⟨hv, S1, b', ids', g1, g2, g3, g4, g5, g6, g7, g8, g9⟩, hz, hk⟩, st⟩ := hr T hT X
  cases hv
  rw [h0] at hz hk
  obtain ⟨t2, a1, b1⟩ := kk S1 b' ids' T'.heap (locs ++ Lc) g1 g2 g3 g4 g5 g6 ⟨by rw [e1]; exact g7, ⟨g9.1, fun k q h => hA _ (g9.2 k q h)⟩, ⟨Nat.le_trans w.2.2.1.1 (by rw [e1]; exact hz), fun q h1 h2 => by
      rw [e1, hk q (Nat.lt_of_lt_of_le h1 w.2.2.1.1) (fun z => h2 (hA q z))]; exact w.2.2.1.2.1 q h1 h2, fun q hq => by
      rcases List.mem_append.mp hq with h | h
      · exact w.2.2.1.2.2 q h
      · exact hA _ (hL q h)⟩, w.2.2.2⟩ T' rfl X'
  exact ⟨t2, st t2 a1, b1⟩
theorem im_any (l : Launch) (D : va_G) (b : Nat → Nat) (ids : List Nat) (S : ns_S) (ho : idsOK ids S) {j : Nat} (hj : j < 3) : imM l D b ids S j := by
  match j, hj with
  | 0, _ => exact mX10_image_0 l D b ids 20000 S ho
  | 1, _ => exact mX10_image_1 l D b ids 20000 S ho
  | 2, _ => exact mX10_image_2 l D b ids 20000 S ho
theorem ag_any (l : Launch) (D : va_G) (b : Nat → Nat) (ids : List Nat) (S : ns_S) (ho : idsOK ids S) {j : Nat} (hj : j < 3) (x : Int32) (hx : x = nI j) (hf : S.2.2.2 j = true) : ns_M l yX10_again wsX10_again rmX10_again D b ids S [.ref (b 0), .int x] (some (.int 1)) (cpD 28 S (cpT S (107 + 33 * j) 28)) := by
  have hI : ∀ i, i < 107 → i ∈ ids := fun i h => (ho i).mpr (Or.inl h)
  have hJ : ∀ i, 107 + 33 * j ≤ i → i < 107 + 33 * j + 33 → i ∈ ids := fun i h1 h2 => (ho i).mpr (Or.inr ⟨j, hj, hf, h1, h2⟩)
  match j, hj with
  | 0, _ => exact mX10_again_0 l D b ids hI 20000 S (fun i h1 h2 => hJ i h1 h2) x hx hf
  | 1, _ => exact mX10_again_1 l D b ids hI 20000 S (fun i h1 h2 => hJ i h1 h2) x hx hf
  | 2, _ => exact mX10_again_2 l D b ids hI 20000 S (fun i h1 h2 => hJ i h1 h2) x hx hf
set_option maxHeartbeats 4000000 in
set_option maxRecDepth 100000 in
theorem law_feed (C : lwC p s m meth c D sb L xs) (K : lwL p l e s m below meth c D sb (k + 1)) (h6 : 6 * k + 6 ≤ L) (w : cW D (fun q : Nat => s.heap.size ≤ q) s.heap (ns_wl D b S ids) H locs) (ho : idsOK ids S) (hR : Rel S (20 * k)) (hl : lv_has ls 4 (lwV sb b k)) : W p l e room_1 s m #[Value.ref sb] below meth c H locs (200 + 33 * k) (8000 + 761 * k) (lw_Z below #[Value.ref sb] s) (F0 m 144 ls []) := by
  have hI : ∀ i, i < 107 → i ∈ ids := fun i h => (ho i).mpr (Or.inl h)
  have hL := C.2.2.2.1
  have hc3 := lw_cs hL h6
  have hcs : 200 + 33 * k ≤ room_1.cells ∧ 8000 + 761 * k ≤ room_1.slots := ⟨Nat.le_trans (Nat.le_add_right _ _) hc3.1, Nat.le_trans (Nat.le_add_right _ _) hc3.2⟩
  obtain ⟨r, S1, S2, h1, h2, hR2, hf⟩ := step_feed l D b ids hI (by omega) hR (xs (6 * k + 1)) (xs (6 * k + 2)) (xs (6 * k + 3)) (xs (6 * k + 4)) (xs (6 * k + 5))
  refine lv_aload_n C.1.1.1 C.1.1.2.1 dL_law_144 rfl (lv_at hl 1 rfl) ?_
  refine lw_arg C 1 (by omega) w.2.2.1 hl rfl dL_law_145 dL_law_146 dL_law_147 dL_law_148 dL_law_149 ?_
  refine lw_arg C 2 (by omega) w.2.2.1 hl rfl dL_law_150 dL_law_151 dL_law_152 dL_law_153 dL_law_154 ?_
  refine lw_arg C 3 (by omega) w.2.2.1 hl rfl dL_law_155 dL_law_156 dL_law_157 dL_law_158 dL_law_159 ?_
  refine lw_arg C 4 (by omega) w.2.2.1 hl rfl dL_law_160 dL_law_161 dL_law_162 dL_law_163 dL_law_164 ?_
  refine lw_arg C 5 (by omega) w.2.2.1 hl rfl dL_law_165 dL_law_166 dL_law_167 dL_law_168 dL_law_169 ?_
  refine lw_callV C.1 w 0 (hI 0 (by decide)) sh_0 (rfl : vwCl[10]? = some (RX10, TX10, 6)) [.int (xs (6 * k + 1)), .int (xs (6 * k + 2)), .int (xs (6 * k + 3)), .int (xs (6 * k + 4)), .int (xs (6 * k + 5))] h1 gL_law_X10_feed rfl rfl rfl hdX10_feed ⟨Nat.le_of_ble_eq_true rfl, Nat.le_of_ble_eq_true rfl⟩ rfl hl.1 rfl (Nat.le_of_ble_eq_true rfl) hcs dL_law_170 (fun H locs w => ?_)
  refine lv_aload_n C.1.1.1 C.1.1.2.1 dL_law_173 rfl (lv_at hl 2 rfl) ?_
  refine lw_arg C 1 (by omega) w.2.2.1 hl rfl dL_law_174 dL_law_175 dL_law_176 dL_law_177 dL_law_178 ?_
  refine lw_arg C 2 (by omega) w.2.2.1 hl rfl dL_law_179 dL_law_180 dL_law_181 dL_law_182 dL_law_183 ?_
  refine lw_arg C 3 (by omega) w.2.2.1 hl rfl dL_law_184 dL_law_185 dL_law_186 dL_law_187 dL_law_188 ?_
  refine lw_arg C 4 (by omega) w.2.2.1 hl rfl dL_law_189 dL_law_190 dL_law_191 dL_law_192 dL_law_193 ?_
  refine lw_arg C 5 (by omega) w.2.2.1 hl rfl dL_law_194 dL_law_195 dL_law_196 dL_law_197 dL_law_198 ?_
  refine lw_callV C.1 w 62 (hI 62 (by decide)) sh_62 (rfl : vwCl[11]? = some (RX11, TX11, 59)) [.int (xs (6 * k + 1)), .int (xs (6 * k + 2)), .int (xs (6 * k + 3)), .int (xs (6 * k + 4)), .int (xs (6 * k + 5))] h2 gL_law_X11_feed rfl rfl rfl hdX11_feed ⟨Nat.le_of_ble_eq_true rfl, Nat.le_of_ble_eq_true rfl⟩ rfl hl.1 rfl (Nat.le_of_ble_eq_true rfl) hcs dL_law_199 (fun H locs w => ?_)
  refine lv_icmp_eq (tgt := 846) C.1.1.1 C.1.1.2.1 dL_law_202 (by decide) (fun _ => ?_) (fun h => absurd rfl h)
  exact lw_next C K w (ho.of hf) hR2 hl (by omega) (by omega)
set_option maxHeartbeats 4000000 in
set_option maxRecDepth 100000 in
theorem law_end (C : lwC p s m meth c D sb L xs) (K : lwL p l e s m below meth c D sb (k + 1)) (h6 : 6 * k + 6 ≤ L) (w : cW D (fun q : Nat => s.heap.size ≤ q) s.heap (ns_wl D b S ids) H locs) (ho : idsOK ids S) (hR : Rel S (20 * k)) (hl : lv_has ls 4 (lwV sb b k)) : W p l e room_1 s m #[Value.ref sb] below meth c H locs (200 + 33 * k) (8000 + 761 * k) (lw_Z below #[Value.ref sb] s) (F0 m 207 ls []) := by
  have hI : ∀ i, i < 107 → i ∈ ids := fun i h => (ho i).mpr (Or.inl h)
  have hL := C.2.2.2.1
  have hc3 := lw_cs hL h6
  have hcs : 200 + 33 * k ≤ room_1.cells ∧ 8000 + 761 * k ≤ room_1.slots := ⟨Nat.le_trans (Nat.le_add_right _ _) hc3.1, Nat.le_trans (Nat.le_add_right _ _) hc3.2⟩
  obtain ⟨r, S1, S2, h1, h2, hR2, hf⟩ := step_end l D b ids hI (by omega) hR (xs (6 * k + 1))
  refine lv_aload_n C.1.1.1 C.1.1.2.1 dL_law_207 rfl (lv_at hl 1 rfl) ?_
  refine lw_arg C 1 (by omega) w.2.2.1 hl rfl dL_law_208 dL_law_209 dL_law_210 dL_law_211 dL_law_212 ?_
  refine lw_callV C.1 w 0 (hI 0 (by decide)) sh_0 (rfl : vwCl[10]? = some (RX10, TX10, 6)) [.int (xs (6 * k + 1))] h1 gL_law_X10_end rfl rfl rfl hdX10_end ⟨Nat.le_of_ble_eq_true rfl, Nat.le_of_ble_eq_true rfl⟩ rfl hl.1 rfl (Nat.le_of_ble_eq_true rfl) hcs dL_law_213 (fun H locs w => ?_)
  refine lv_aload_n C.1.1.1 C.1.1.2.1 dL_law_216 rfl (lv_at hl 2 rfl) ?_
  refine lw_arg C 1 (by omega) w.2.2.1 hl rfl dL_law_217 dL_law_218 dL_law_219 dL_law_220 dL_law_221 ?_
  refine lw_callV C.1 w 62 (hI 62 (by decide)) sh_62 (rfl : vwCl[11]? = some (RX11, TX11, 59)) [.int (xs (6 * k + 1))] h2 gL_law_X11_end rfl rfl rfl hdX11_end ⟨Nat.le_of_ble_eq_true rfl, Nat.le_of_ble_eq_true rfl⟩ rfl hl.1 rfl (Nat.le_of_ble_eq_true rfl) hcs dL_law_222 (fun H locs w => ?_)
  refine lv_icmp_eq (tgt := 846) C.1.1.1 C.1.1.2.1 dL_law_225 (by decide) (fun _ => ?_) (fun h => absurd rfl h)
  exact lw_next C K w (ho.of hf) hR2 hl (by omega) (by omega)
set_option maxHeartbeats 4000000 in
set_option maxRecDepth 100000 in
theorem law_fees (C : lwC p s m meth c D sb L xs) (K : lwL p l e s m below meth c D sb (k + 1)) (h6 : 6 * k + 6 ≤ L) (w : cW D (fun q : Nat => s.heap.size ≤ q) s.heap (ns_wl D b S ids) H locs) (ho : idsOK ids S) (hR : Rel S (20 * k)) (hl : lv_has ls 4 (lwV sb b k)) : W p l e room_1 s m #[Value.ref sb] below meth c H locs (200 + 33 * k) (8000 + 761 * k) (lw_Z below #[Value.ref sb] s) (F0 m 230 ls []) := by
  have hI : ∀ i, i < 107 → i ∈ ids := fun i h => (ho i).mpr (Or.inl h)
  have hL := C.2.2.2.1
  have hc3 := lw_cs hL h6
  have hcs : 200 + 33 * k ≤ room_1.cells ∧ 8000 + 761 * k ≤ room_1.slots := ⟨Nat.le_trans (Nat.le_add_right _ _) hc3.1, Nat.le_trans (Nat.le_add_right _ _) hc3.2⟩
  obtain ⟨r, S1, S2, h1, h2, hR2, hf⟩ := step_fees l D b ids hI (by omega) hR 
  refine lv_aload_n C.1.1.1 C.1.1.2.1 dL_law_230 rfl (lv_at hl 1 rfl) ?_
  refine lw_callV C.1 w 0 (hI 0 (by decide)) sh_0 (rfl : vwCl[10]? = some (RX10, TX10, 6)) [] h1 gL_law_X10_fees rfl rfl rfl hdX10_fees ⟨Nat.le_of_ble_eq_true rfl, Nat.le_of_ble_eq_true rfl⟩ rfl hl.1 rfl (Nat.le_of_ble_eq_true rfl) hcs dL_law_231 (fun H locs w => ?_)
  refine lv_aload_n C.1.1.1 C.1.1.2.1 dL_law_234 rfl (lv_at hl 2 rfl) ?_
  refine lw_callV C.1 w 62 (hI 62 (by decide)) sh_62 (rfl : vwCl[11]? = some (RX11, TX11, 59)) [] h2 gL_law_X11_fees rfl rfl rfl hdX11_fees ⟨Nat.le_of_ble_eq_true rfl, Nat.le_of_ble_eq_true rfl⟩ rfl hl.1 rfl (Nat.le_of_ble_eq_true rfl) hcs dL_law_235 (fun H locs w => ?_)
  refine lv_icmp_eq (tgt := 846) C.1.1.1 C.1.1.2.1 dL_law_238 (by decide) (fun _ => ?_) (fun h => absurd rfl h)
  exact lw_next C K w (ho.of hf) hR2 hl (by omega) (by omega)
set_option maxHeartbeats 4000000 in
set_option maxRecDepth 100000 in
theorem law_fault (C : lwC p s m meth c D sb L xs) (K : lwL p l e s m below meth c D sb (k + 1)) (h6 : 6 * k + 6 ≤ L) (w : cW D (fun q : Nat => s.heap.size ≤ q) s.heap (ns_wl D b S ids) H locs) (ho : idsOK ids S) (hR : Rel S (20 * k)) (hl : lv_has ls 4 (lwV sb b k)) : W p l e room_1 s m #[Value.ref sb] below meth c H locs (200 + 33 * k) (8000 + 761 * k) (lw_Z below #[Value.ref sb] s) (F0 m 243 ls []) := by
  have hI : ∀ i, i < 107 → i ∈ ids := fun i h => (ho i).mpr (Or.inl h)
  have hL := C.2.2.2.1
  have hc3 := lw_cs hL h6
  have hcs : 200 + 33 * k ≤ room_1.cells ∧ 8000 + 761 * k ≤ room_1.slots := ⟨Nat.le_trans (Nat.le_add_right _ _) hc3.1, Nat.le_trans (Nat.le_add_right _ _) hc3.2⟩
  obtain ⟨r, S1, S2, h1, h2, hR2, hf⟩ := step_fault l D b ids hI (by omega) hR (xs (6 * k + 1))
  refine lv_aload_n C.1.1.1 C.1.1.2.1 dL_law_243 rfl (lv_at hl 1 rfl) ?_
  refine lw_arg C 1 (by omega) w.2.2.1 hl rfl dL_law_244 dL_law_245 dL_law_246 dL_law_247 dL_law_248 ?_
  refine lw_callV C.1 w 0 (hI 0 (by decide)) sh_0 (rfl : vwCl[10]? = some (RX10, TX10, 6)) [.int (xs (6 * k + 1))] h1 gL_law_X10_fault rfl rfl rfl hdX10_fault ⟨Nat.le_of_ble_eq_true rfl, Nat.le_of_ble_eq_true rfl⟩ rfl hl.1 rfl (Nat.le_of_ble_eq_true rfl) hcs dL_law_249 (fun H locs w => ?_)
  refine lv_aload_n C.1.1.1 C.1.1.2.1 dL_law_252 rfl (lv_at hl 2 rfl) ?_
  refine lw_arg C 1 (by omega) w.2.2.1 hl rfl dL_law_253 dL_law_254 dL_law_255 dL_law_256 dL_law_257 ?_
  refine lw_callV C.1 w 62 (hI 62 (by decide)) sh_62 (rfl : vwCl[11]? = some (RX11, TX11, 59)) [.int (xs (6 * k + 1))] h2 gL_law_X11_fault rfl rfl rfl hdX11_fault ⟨Nat.le_of_ble_eq_true rfl, Nat.le_of_ble_eq_true rfl⟩ rfl hl.1 rfl (Nat.le_of_ble_eq_true rfl) hcs dL_law_258 (fun H locs w => ?_)
  refine lv_icmp_eq (tgt := 846) C.1.1.1 C.1.1.2.1 dL_law_261 (by decide) (fun _ => ?_) (fun h => absurd rfl h)
  exact lw_next C K w (ho.of hf) hR2 hl (by omega) (by omega)
set_option maxHeartbeats 4000000 in
set_option maxRecDepth 100000 in
theorem law_room (C : lwC p s m meth c D sb L xs) (K : lwL p l e s m below meth c D sb (k + 1)) (h6 : 6 * k + 6 ≤ L) (w : cW D (fun q : Nat => s.heap.size ≤ q) s.heap (ns_wl D b S ids) H locs) (ho : idsOK ids S) (hR : Rel S (20 * k)) (hl : lv_has ls 4 (lwV sb b k)) : W p l e room_1 s m #[Value.ref sb] below meth c H locs (200 + 33 * k) (8000 + 761 * k) (lw_Z below #[Value.ref sb] s) (F0 m 266 ls []) := by
  have hI : ∀ i, i < 107 → i ∈ ids := fun i h => (ho i).mpr (Or.inl h)
  have hL := C.2.2.2.1
  have hc3 := lw_cs hL h6
  have hcs : 200 + 33 * k ≤ room_1.cells ∧ 8000 + 761 * k ≤ room_1.slots := ⟨Nat.le_trans (Nat.le_add_right _ _) hc3.1, Nat.le_trans (Nat.le_add_right _ _) hc3.2⟩
  obtain ⟨r, S1, S2, h1, h2, hR2, hf⟩ := step_room l D b ids hI (by omega) hR (xs (6 * k + 1))
  refine lv_aload_n C.1.1.1 C.1.1.2.1 dL_law_266 rfl (lv_at hl 1 rfl) ?_
  refine lw_arg C 1 (by omega) w.2.2.1 hl rfl dL_law_267 dL_law_268 dL_law_269 dL_law_270 dL_law_271 ?_
  refine lw_callV C.1 w 0 (hI 0 (by decide)) sh_0 (rfl : vwCl[10]? = some (RX10, TX10, 6)) [.int (xs (6 * k + 1))] h1 gL_law_X10_room rfl rfl rfl hdX10_room ⟨Nat.le_of_ble_eq_true rfl, Nat.le_of_ble_eq_true rfl⟩ rfl hl.1 rfl (Nat.le_of_ble_eq_true rfl) hcs dL_law_272 (fun H locs w => ?_)
  refine lv_aload_n C.1.1.1 C.1.1.2.1 dL_law_275 rfl (lv_at hl 2 rfl) ?_
  refine lw_arg C 1 (by omega) w.2.2.1 hl rfl dL_law_276 dL_law_277 dL_law_278 dL_law_279 dL_law_280 ?_
  refine lw_callV C.1 w 62 (hI 62 (by decide)) sh_62 (rfl : vwCl[11]? = some (RX11, TX11, 59)) [.int (xs (6 * k + 1))] h2 gL_law_X11_room rfl rfl rfl hdX11_room ⟨Nat.le_of_ble_eq_true rfl, Nat.le_of_ble_eq_true rfl⟩ rfl hl.1 rfl (Nat.le_of_ble_eq_true rfl) hcs dL_law_281 (fun H locs w => ?_)
  refine lv_icmp_eq (tgt := 846) C.1.1.1 C.1.1.2.1 dL_law_284 (by decide) (fun _ => ?_) (fun h => absurd rfl h)
  exact lw_next C K w (ho.of hf) hR2 hl (by omega) (by omega)
set_option maxHeartbeats 4000000 in
set_option maxRecDepth 100000 in
theorem law_course (C : lwC p s m meth c D sb L xs) (K : lwL p l e s m below meth c D sb (k + 1)) (h6 : 6 * k + 6 ≤ L) (w : cW D (fun q : Nat => s.heap.size ≤ q) s.heap (ns_wl D b S ids) H locs) (ho : idsOK ids S) (hR : Rel S (20 * k)) (hl : lv_has ls 4 (lwV sb b k)) : W p l e room_1 s m #[Value.ref sb] below meth c H locs (200 + 33 * k) (8000 + 761 * k) (lw_Z below #[Value.ref sb] s) (F0 m 289 ls []) := by
  have hI : ∀ i, i < 107 → i ∈ ids := fun i h => (ho i).mpr (Or.inl h)
  have hL := C.2.2.2.1
  have hc3 := lw_cs hL h6
  have hcs : 200 + 33 * k ≤ room_1.cells ∧ 8000 + 761 * k ≤ room_1.slots := ⟨Nat.le_trans (Nat.le_add_right _ _) hc3.1, Nat.le_trans (Nat.le_add_right _ _) hc3.2⟩
  obtain ⟨r, S1, S2, h1, h2, hR2, hf⟩ := step_course l D b ids hI (by omega) hR (xs (6 * k + 1)) (xs (6 * k + 2)) (xs (6 * k + 3)) (xs (6 * k + 4)) (xs (6 * k + 5))
  refine lv_aload_n C.1.1.1 C.1.1.2.1 dL_law_289 rfl (lv_at hl 1 rfl) ?_
  refine lw_arg C 1 (by omega) w.2.2.1 hl rfl dL_law_290 dL_law_291 dL_law_292 dL_law_293 dL_law_294 ?_
  refine lw_arg C 2 (by omega) w.2.2.1 hl rfl dL_law_295 dL_law_296 dL_law_297 dL_law_298 dL_law_299 ?_
  refine lw_arg C 3 (by omega) w.2.2.1 hl rfl dL_law_300 dL_law_301 dL_law_302 dL_law_303 dL_law_304 ?_
  refine lw_arg C 4 (by omega) w.2.2.1 hl rfl dL_law_305 dL_law_306 dL_law_307 dL_law_308 dL_law_309 ?_
  refine lw_arg C 5 (by omega) w.2.2.1 hl rfl dL_law_310 dL_law_311 dL_law_312 dL_law_313 dL_law_314 ?_
  refine lw_callV C.1 w 0 (hI 0 (by decide)) sh_0 (rfl : vwCl[10]? = some (RX10, TX10, 6)) [.int (xs (6 * k + 1)), .int (xs (6 * k + 2)), .int (xs (6 * k + 3)), .int (xs (6 * k + 4)), .int (xs (6 * k + 5))] h1 gL_law_X10_course rfl rfl rfl hdX10_course ⟨Nat.le_of_ble_eq_true rfl, Nat.le_of_ble_eq_true rfl⟩ rfl hl.1 rfl (Nat.le_of_ble_eq_true rfl) hcs dL_law_315 (fun H locs w => ?_)
  refine lv_aload_n C.1.1.1 C.1.1.2.1 dL_law_318 rfl (lv_at hl 2 rfl) ?_
  refine lw_arg C 1 (by omega) w.2.2.1 hl rfl dL_law_319 dL_law_320 dL_law_321 dL_law_322 dL_law_323 ?_
  refine lw_arg C 2 (by omega) w.2.2.1 hl rfl dL_law_324 dL_law_325 dL_law_326 dL_law_327 dL_law_328 ?_
  refine lw_arg C 3 (by omega) w.2.2.1 hl rfl dL_law_329 dL_law_330 dL_law_331 dL_law_332 dL_law_333 ?_
  refine lw_arg C 4 (by omega) w.2.2.1 hl rfl dL_law_334 dL_law_335 dL_law_336 dL_law_337 dL_law_338 ?_
  refine lw_arg C 5 (by omega) w.2.2.1 hl rfl dL_law_339 dL_law_340 dL_law_341 dL_law_342 dL_law_343 ?_
  refine lw_callV C.1 w 62 (hI 62 (by decide)) sh_62 (rfl : vwCl[11]? = some (RX11, TX11, 59)) [.int (xs (6 * k + 1)), .int (xs (6 * k + 2)), .int (xs (6 * k + 3)), .int (xs (6 * k + 4)), .int (xs (6 * k + 5))] h2 gL_law_X11_course rfl rfl rfl hdX11_course ⟨Nat.le_of_ble_eq_true rfl, Nat.le_of_ble_eq_true rfl⟩ rfl hl.1 rfl (Nat.le_of_ble_eq_true rfl) hcs dL_law_344 (fun H locs w => ?_)
  refine lv_icmp_eq (tgt := 846) C.1.1.1 C.1.1.2.1 dL_law_347 (by decide) (fun _ => ?_) (fun h => absurd rfl h)
  exact lw_next C K w (ho.of hf) hR2 hl (by omega) (by omega)
set_option maxHeartbeats 4000000 in
set_option maxRecDepth 100000 in
theorem law_pupil (C : lwC p s m meth c D sb L xs) (K : lwL p l e s m below meth c D sb (k + 1)) (h6 : 6 * k + 6 ≤ L) (w : cW D (fun q : Nat => s.heap.size ≤ q) s.heap (ns_wl D b S ids) H locs) (ho : idsOK ids S) (hR : Rel S (20 * k)) (hl : lv_has ls 4 (lwV sb b k)) : W p l e room_1 s m #[Value.ref sb] below meth c H locs (200 + 33 * k) (8000 + 761 * k) (lw_Z below #[Value.ref sb] s) (F0 m 352 ls []) := by
  have hI : ∀ i, i < 107 → i ∈ ids := fun i h => (ho i).mpr (Or.inl h)
  have hL := C.2.2.2.1
  have hc3 := lw_cs hL h6
  have hcs : 200 + 33 * k ≤ room_1.cells ∧ 8000 + 761 * k ≤ room_1.slots := ⟨Nat.le_trans (Nat.le_add_right _ _) hc3.1, Nat.le_trans (Nat.le_add_right _ _) hc3.2⟩
  obtain ⟨r, S1, S2, h1, h2, hR2, hf⟩ := step_pupil l D b ids hI (by omega) hR (xs (6 * k + 1)) (xs (6 * k + 2)) (xs (6 * k + 3))
  refine lv_aload_n C.1.1.1 C.1.1.2.1 dL_law_352 rfl (lv_at hl 1 rfl) ?_
  refine lw_arg C 1 (by omega) w.2.2.1 hl rfl dL_law_353 dL_law_354 dL_law_355 dL_law_356 dL_law_357 ?_
  refine lw_arg C 2 (by omega) w.2.2.1 hl rfl dL_law_358 dL_law_359 dL_law_360 dL_law_361 dL_law_362 ?_
  refine lw_arg C 3 (by omega) w.2.2.1 hl rfl dL_law_363 dL_law_364 dL_law_365 dL_law_366 dL_law_367 ?_
  refine lw_callV C.1 w 0 (hI 0 (by decide)) sh_0 (rfl : vwCl[10]? = some (RX10, TX10, 6)) [.int (xs (6 * k + 1)), .int (xs (6 * k + 2)), .int (xs (6 * k + 3))] h1 gL_law_X10_pupil rfl rfl rfl hdX10_pupil ⟨Nat.le_of_ble_eq_true rfl, Nat.le_of_ble_eq_true rfl⟩ rfl hl.1 rfl (Nat.le_of_ble_eq_true rfl) hcs dL_law_368 (fun H locs w => ?_)
  refine lv_aload_n C.1.1.1 C.1.1.2.1 dL_law_371 rfl (lv_at hl 2 rfl) ?_
  refine lw_arg C 1 (by omega) w.2.2.1 hl rfl dL_law_372 dL_law_373 dL_law_374 dL_law_375 dL_law_376 ?_
  refine lw_arg C 2 (by omega) w.2.2.1 hl rfl dL_law_377 dL_law_378 dL_law_379 dL_law_380 dL_law_381 ?_
  refine lw_arg C 3 (by omega) w.2.2.1 hl rfl dL_law_382 dL_law_383 dL_law_384 dL_law_385 dL_law_386 ?_
  refine lw_callV C.1 w 62 (hI 62 (by decide)) sh_62 (rfl : vwCl[11]? = some (RX11, TX11, 59)) [.int (xs (6 * k + 1)), .int (xs (6 * k + 2)), .int (xs (6 * k + 3))] h2 gL_law_X11_pupil rfl rfl rfl hdX11_pupil ⟨Nat.le_of_ble_eq_true rfl, Nat.le_of_ble_eq_true rfl⟩ rfl hl.1 rfl (Nat.le_of_ble_eq_true rfl) hcs dL_law_387 (fun H locs w => ?_)
  refine lv_icmp_eq (tgt := 846) C.1.1.1 C.1.1.2.1 dL_law_390 (by decide) (fun _ => ?_) (fun h => absurd rfl h)
  exact lw_next C K w (ho.of hf) hR2 hl (by omega) (by omega)
set_option maxHeartbeats 4000000 in
set_option maxRecDepth 100000 in
theorem law_wish (C : lwC p s m meth c D sb L xs) (K : lwL p l e s m below meth c D sb (k + 1)) (h6 : 6 * k + 6 ≤ L) (w : cW D (fun q : Nat => s.heap.size ≤ q) s.heap (ns_wl D b S ids) H locs) (ho : idsOK ids S) (hR : Rel S (20 * k)) (hl : lv_has ls 4 (lwV sb b k)) : W p l e room_1 s m #[Value.ref sb] below meth c H locs (200 + 33 * k) (8000 + 761 * k) (lw_Z below #[Value.ref sb] s) (F0 m 395 ls []) := by
  have hI : ∀ i, i < 107 → i ∈ ids := fun i h => (ho i).mpr (Or.inl h)
  have hL := C.2.2.2.1
  have hc3 := lw_cs hL h6
  have hcs : 200 + 33 * k ≤ room_1.cells ∧ 8000 + 761 * k ≤ room_1.slots := ⟨Nat.le_trans (Nat.le_add_right _ _) hc3.1, Nat.le_trans (Nat.le_add_right _ _) hc3.2⟩
  obtain ⟨r, S1, S2, h1, h2, hR2, hf⟩ := step_wish l D b ids hI (by omega) hR (xs (6 * k + 1)) (xs (6 * k + 2))
  refine lv_aload_n C.1.1.1 C.1.1.2.1 dL_law_395 rfl (lv_at hl 1 rfl) ?_
  refine lw_arg C 1 (by omega) w.2.2.1 hl rfl dL_law_396 dL_law_397 dL_law_398 dL_law_399 dL_law_400 ?_
  refine lw_arg C 2 (by omega) w.2.2.1 hl rfl dL_law_401 dL_law_402 dL_law_403 dL_law_404 dL_law_405 ?_
  refine lw_callV C.1 w 0 (hI 0 (by decide)) sh_0 (rfl : vwCl[10]? = some (RX10, TX10, 6)) [.int (xs (6 * k + 1)), .int (xs (6 * k + 2))] h1 gL_law_X10_wish rfl rfl rfl hdX10_wish ⟨Nat.le_of_ble_eq_true rfl, Nat.le_of_ble_eq_true rfl⟩ rfl hl.1 rfl (Nat.le_of_ble_eq_true rfl) hcs dL_law_406 (fun H locs w => ?_)
  refine lv_aload_n C.1.1.1 C.1.1.2.1 dL_law_409 rfl (lv_at hl 2 rfl) ?_
  refine lw_arg C 1 (by omega) w.2.2.1 hl rfl dL_law_410 dL_law_411 dL_law_412 dL_law_413 dL_law_414 ?_
  refine lw_arg C 2 (by omega) w.2.2.1 hl rfl dL_law_415 dL_law_416 dL_law_417 dL_law_418 dL_law_419 ?_
  refine lw_callV C.1 w 62 (hI 62 (by decide)) sh_62 (rfl : vwCl[11]? = some (RX11, TX11, 59)) [.int (xs (6 * k + 1)), .int (xs (6 * k + 2))] h2 gL_law_X11_wish rfl rfl rfl hdX11_wish ⟨Nat.le_of_ble_eq_true rfl, Nat.le_of_ble_eq_true rfl⟩ rfl hl.1 rfl (Nat.le_of_ble_eq_true rfl) hcs dL_law_420 (fun H locs w => ?_)
  refine lv_icmp_eq (tgt := 846) C.1.1.1 C.1.1.2.1 dL_law_423 (by decide) (fun _ => ?_) (fun h => absurd rfl h)
  exact lw_next C K w (ho.of hf) hR2 hl (by omega) (by omega)
set_option maxHeartbeats 4000000 in
set_option maxRecDepth 100000 in
theorem law_canHold (C : lwC p s m meth c D sb L xs) (K : lwL p l e s m below meth c D sb (k + 1)) (h6 : 6 * k + 6 ≤ L) (w : cW D (fun q : Nat => s.heap.size ≤ q) s.heap (ns_wl D b S ids) H locs) (ho : idsOK ids S) (hR : Rel S (20 * k)) (hl : lv_has ls 4 (lwV sb b k)) : W p l e room_1 s m #[Value.ref sb] below meth c H locs (200 + 33 * k) (8000 + 761 * k) (lw_Z below #[Value.ref sb] s) (F0 m 428 ls []) := by
  have hI : ∀ i, i < 107 → i ∈ ids := fun i h => (ho i).mpr (Or.inl h)
  have hL := C.2.2.2.1
  have hc3 := lw_cs hL h6
  have hcs : 200 + 33 * k ≤ room_1.cells ∧ 8000 + 761 * k ≤ room_1.slots := ⟨Nat.le_trans (Nat.le_add_right _ _) hc3.1, Nat.le_trans (Nat.le_add_right _ _) hc3.2⟩
  obtain ⟨r, S1, S2, h1, h2, hR2, hf⟩ := step_canHold l D b ids hI (by omega) hR (xs (6 * k + 1))
  refine lv_aload_n C.1.1.1 C.1.1.2.1 dL_law_428 rfl (lv_at hl 1 rfl) ?_
  refine lw_arg C 1 (by omega) w.2.2.1 hl rfl dL_law_429 dL_law_430 dL_law_431 dL_law_432 dL_law_433 ?_
  refine lw_callV C.1 w 0 (hI 0 (by decide)) sh_0 (rfl : vwCl[10]? = some (RX10, TX10, 6)) [.int (xs (6 * k + 1))] h1 gL_law_X10_canHold rfl rfl rfl hdX10_canHold ⟨Nat.le_of_ble_eq_true rfl, Nat.le_of_ble_eq_true rfl⟩ rfl hl.1 rfl (Nat.le_of_ble_eq_true rfl) hcs dL_law_434 (fun H locs w => ?_)
  refine lv_aload_n C.1.1.1 C.1.1.2.1 dL_law_437 rfl (lv_at hl 2 rfl) ?_
  refine lw_arg C 1 (by omega) w.2.2.1 hl rfl dL_law_438 dL_law_439 dL_law_440 dL_law_441 dL_law_442 ?_
  refine lw_callV C.1 w 62 (hI 62 (by decide)) sh_62 (rfl : vwCl[11]? = some (RX11, TX11, 59)) [.int (xs (6 * k + 1))] h2 gL_law_X11_canHold rfl rfl rfl hdX11_canHold ⟨Nat.le_of_ble_eq_true rfl, Nat.le_of_ble_eq_true rfl⟩ rfl hl.1 rfl (Nat.le_of_ble_eq_true rfl) hcs dL_law_443 (fun H locs w => ?_)
  refine lv_icmp_eq (tgt := 846) C.1.1.1 C.1.1.2.1 dL_law_446 (by decide) (fun _ => ?_) (fun h => absurd rfl h)
  exact lw_next C K w (ho.of hf) hR2 hl (by omega) (by omega)
set_option maxHeartbeats 4000000 in
set_option maxRecDepth 100000 in
theorem law_points (C : lwC p s m meth c D sb L xs) (K : lwL p l e s m below meth c D sb (k + 1)) (h6 : 6 * k + 6 ≤ L) (w : cW D (fun q : Nat => s.heap.size ≤ q) s.heap (ns_wl D b S ids) H locs) (ho : idsOK ids S) (hR : Rel S (20 * k)) (hl : lv_has ls 4 (lwV sb b k)) : W p l e room_1 s m #[Value.ref sb] below meth c H locs (200 + 33 * k) (8000 + 761 * k) (lw_Z below #[Value.ref sb] s) (F0 m 451 ls []) := by
  have hI : ∀ i, i < 107 → i ∈ ids := fun i h => (ho i).mpr (Or.inl h)
  have hL := C.2.2.2.1
  have hc3 := lw_cs hL h6
  have hcs : 200 + 33 * k ≤ room_1.cells ∧ 8000 + 761 * k ≤ room_1.slots := ⟨Nat.le_trans (Nat.le_add_right _ _) hc3.1, Nat.le_trans (Nat.le_add_right _ _) hc3.2⟩
  obtain ⟨r, S1, S2, h1, h2, hR2, hf⟩ := step_points l D b ids hI (by omega) hR (xs (6 * k + 1))
  refine lv_aload_n C.1.1.1 C.1.1.2.1 dL_law_451 rfl (lv_at hl 1 rfl) ?_
  refine lw_arg C 1 (by omega) w.2.2.1 hl rfl dL_law_452 dL_law_453 dL_law_454 dL_law_455 dL_law_456 ?_
  refine lw_callV C.1 w 0 (hI 0 (by decide)) sh_0 (rfl : vwCl[10]? = some (RX10, TX10, 6)) [.int (xs (6 * k + 1))] h1 gL_law_X10_points rfl rfl rfl hdX10_points ⟨Nat.le_of_ble_eq_true rfl, Nat.le_of_ble_eq_true rfl⟩ rfl hl.1 rfl (Nat.le_of_ble_eq_true rfl) hcs dL_law_457 (fun H locs w => ?_)
  refine lv_aload_n C.1.1.1 C.1.1.2.1 dL_law_460 rfl (lv_at hl 2 rfl) ?_
  refine lw_arg C 1 (by omega) w.2.2.1 hl rfl dL_law_461 dL_law_462 dL_law_463 dL_law_464 dL_law_465 ?_
  refine lw_callV C.1 w 62 (hI 62 (by decide)) sh_62 (rfl : vwCl[11]? = some (RX11, TX11, 59)) [.int (xs (6 * k + 1))] h2 gL_law_X11_points rfl rfl rfl hdX11_points ⟨Nat.le_of_ble_eq_true rfl, Nat.le_of_ble_eq_true rfl⟩ rfl hl.1 rfl (Nat.le_of_ble_eq_true rfl) hcs dL_law_466 (fun H locs w => ?_)
  refine lv_icmp_eq (tgt := 846) C.1.1.1 C.1.1.2.1 dL_law_469 (by decide) (fun _ => ?_) (fun h => absurd rfl h)
  exact lw_next C K w (ho.of hf) hR2 hl (by omega) (by omega)
set_option maxHeartbeats 4000000 in
set_option maxRecDepth 100000 in
theorem law_open (C : lwC p s m meth c D sb L xs) (K : lwL p l e s m below meth c D sb (k + 1)) (h6 : 6 * k + 6 ≤ L) (w : cW D (fun q : Nat => s.heap.size ≤ q) s.heap (ns_wl D b S ids) H locs) (ho : idsOK ids S) (hR : Rel S (20 * k)) (hl : lv_has ls 4 (lwV sb b k)) : W p l e room_1 s m #[Value.ref sb] below meth c H locs (200 + 33 * k) (8000 + 761 * k) (lw_Z below #[Value.ref sb] s) (F0 m 474 ls []) := by
  have hI : ∀ i, i < 107 → i ∈ ids := fun i h => (ho i).mpr (Or.inl h)
  have hL := C.2.2.2.1
  have hc3 := lw_cs hL h6
  have hcs : 200 + 33 * k ≤ room_1.cells ∧ 8000 + 761 * k ≤ room_1.slots := ⟨Nat.le_trans (Nat.le_add_right _ _) hc3.1, Nat.le_trans (Nat.le_add_right _ _) hc3.2⟩
  obtain ⟨r, S1, S2, h1, h2, hR2, hf⟩ := step_open l D b ids hI (by omega) hR 
  refine lv_aload_n C.1.1.1 C.1.1.2.1 dL_law_474 rfl (lv_at hl 1 rfl) ?_
  refine lw_callV C.1 w 0 (hI 0 (by decide)) sh_0 (rfl : vwCl[10]? = some (RX10, TX10, 6)) [] h1 gL_law_X10_open rfl rfl rfl hdX10_open ⟨Nat.le_of_ble_eq_true rfl, Nat.le_of_ble_eq_true rfl⟩ rfl hl.1 rfl (Nat.le_of_ble_eq_true rfl) hcs dL_law_475 (fun H locs w => ?_)
  refine lv_aload_n C.1.1.1 C.1.1.2.1 dL_law_478 rfl (lv_at hl 2 rfl) ?_
  refine lw_callV C.1 w 62 (hI 62 (by decide)) sh_62 (rfl : vwCl[11]? = some (RX11, TX11, 59)) [] h2 gL_law_X11_open rfl rfl rfl hdX11_open ⟨Nat.le_of_ble_eq_true rfl, Nat.le_of_ble_eq_true rfl⟩ rfl hl.1 rfl (Nat.le_of_ble_eq_true rfl) hcs dL_law_479 (fun H locs w => ?_)
  refine lv_icmp_eq (tgt := 846) C.1.1.1 C.1.1.2.1 dL_law_482 (by decide) (fun _ => ?_) (fun h => absurd rfl h)
  exact lw_next C K w (ho.of hf) hR2 hl (by omega) (by omega)
set_option maxHeartbeats 4000000 in
set_option maxRecDepth 100000 in
theorem law_close (C : lwC p s m meth c D sb L xs) (K : lwL p l e s m below meth c D sb (k + 1)) (h6 : 6 * k + 6 ≤ L) (w : cW D (fun q : Nat => s.heap.size ≤ q) s.heap (ns_wl D b S ids) H locs) (ho : idsOK ids S) (hR : Rel S (20 * k)) (hl : lv_has ls 4 (lwV sb b k)) : W p l e room_1 s m #[Value.ref sb] below meth c H locs (200 + 33 * k) (8000 + 761 * k) (lw_Z below #[Value.ref sb] s) (F0 m 487 ls []) := by
  have hI : ∀ i, i < 107 → i ∈ ids := fun i h => (ho i).mpr (Or.inl h)
  have hL := C.2.2.2.1
  have hc3 := lw_cs hL h6
  have hcs : 200 + 33 * k ≤ room_1.cells ∧ 8000 + 761 * k ≤ room_1.slots := ⟨Nat.le_trans (Nat.le_add_right _ _) hc3.1, Nat.le_trans (Nat.le_add_right _ _) hc3.2⟩
  obtain ⟨r, S1, S2, h1, h2, hR2, hf⟩ := step_close l D b ids hI (by omega) hR 
  refine lv_aload_n C.1.1.1 C.1.1.2.1 dL_law_487 rfl (lv_at hl 1 rfl) ?_
  refine lw_callV C.1 w 0 (hI 0 (by decide)) sh_0 (rfl : vwCl[10]? = some (RX10, TX10, 6)) [] h1 gL_law_X10_close rfl rfl rfl hdX10_close ⟨Nat.le_of_ble_eq_true rfl, Nat.le_of_ble_eq_true rfl⟩ rfl hl.1 rfl (Nat.le_of_ble_eq_true rfl) hcs dL_law_488 (fun H locs w => ?_)
  refine lv_aload_n C.1.1.1 C.1.1.2.1 dL_law_491 rfl (lv_at hl 2 rfl) ?_
  refine lw_callV C.1 w 62 (hI 62 (by decide)) sh_62 (rfl : vwCl[11]? = some (RX11, TX11, 59)) [] h2 gL_law_X11_close rfl rfl rfl hdX11_close ⟨Nat.le_of_ble_eq_true rfl, Nat.le_of_ble_eq_true rfl⟩ rfl hl.1 rfl (Nat.le_of_ble_eq_true rfl) hcs dL_law_492 (fun H locs w => ?_)
  refine lv_icmp_eq (tgt := 846) C.1.1.1 C.1.1.2.1 dL_law_495 (by decide) (fun _ => ?_) (fun h => absurd rfl h)
  exact lw_next C K w (ho.of hf) hR2 hl (by omega) (by omega)
set_option maxHeartbeats 4000000 in
set_option maxRecDepth 100000 in
theorem law_weeks (C : lwC p s m meth c D sb L xs) (K : lwL p l e s m below meth c D sb (k + 1)) (h6 : 6 * k + 6 ≤ L) (w : cW D (fun q : Nat => s.heap.size ≤ q) s.heap (ns_wl D b S ids) H locs) (ho : idsOK ids S) (hR : Rel S (20 * k)) (hl : lv_has ls 4 (lwV sb b k)) : W p l e room_1 s m #[Value.ref sb] below meth c H locs (200 + 33 * k) (8000 + 761 * k) (lw_Z below #[Value.ref sb] s) (F0 m 500 ls []) := by
  have hI : ∀ i, i < 107 → i ∈ ids := fun i h => (ho i).mpr (Or.inl h)
  have hL := C.2.2.2.1
  have hc3 := lw_cs hL h6
  have hcs : 200 + 33 * k ≤ room_1.cells ∧ 8000 + 761 * k ≤ room_1.slots := ⟨Nat.le_trans (Nat.le_add_right _ _) hc3.1, Nat.le_trans (Nat.le_add_right _ _) hc3.2⟩
  obtain ⟨r, S1, S2, h1, h2, hR2, hf⟩ := step_weeks l D b ids hI (by omega) hR (xs (6 * k + 1))
  refine lv_aload_n C.1.1.1 C.1.1.2.1 dL_law_500 rfl (lv_at hl 1 rfl) ?_
  refine lw_arg C 1 (by omega) w.2.2.1 hl rfl dL_law_501 dL_law_502 dL_law_503 dL_law_504 dL_law_505 ?_
  refine lw_callV C.1 w 0 (hI 0 (by decide)) sh_0 (rfl : vwCl[10]? = some (RX10, TX10, 6)) [.int (xs (6 * k + 1))] h1 gL_law_X10_weeks rfl rfl rfl hdX10_weeks ⟨Nat.le_of_ble_eq_true rfl, Nat.le_of_ble_eq_true rfl⟩ rfl hl.1 rfl (Nat.le_of_ble_eq_true rfl) hcs dL_law_506 (fun H locs w => ?_)
  refine lv_aload_n C.1.1.1 C.1.1.2.1 dL_law_509 rfl (lv_at hl 2 rfl) ?_
  refine lw_arg C 1 (by omega) w.2.2.1 hl rfl dL_law_510 dL_law_511 dL_law_512 dL_law_513 dL_law_514 ?_
  refine lw_callV C.1 w 62 (hI 62 (by decide)) sh_62 (rfl : vwCl[11]? = some (RX11, TX11, 59)) [.int (xs (6 * k + 1))] h2 gL_law_X11_weeks rfl rfl rfl hdX11_weeks ⟨Nat.le_of_ble_eq_true rfl, Nat.le_of_ble_eq_true rfl⟩ rfl hl.1 rfl (Nat.le_of_ble_eq_true rfl) hcs dL_law_515 (fun H locs w => ?_)
  refine lv_icmp_eq (tgt := 846) C.1.1.1 C.1.1.2.1 dL_law_518 (by decide) (fun _ => ?_) (fun h => absurd rfl h)
  exact lw_next C K w (ho.of hf) hR2 hl (by omega) (by omega)
set_option maxHeartbeats 4000000 in
set_option maxRecDepth 100000 in
theorem law_quit (C : lwC p s m meth c D sb L xs) (K : lwL p l e s m below meth c D sb (k + 1)) (h6 : 6 * k + 6 ≤ L) (w : cW D (fun q : Nat => s.heap.size ≤ q) s.heap (ns_wl D b S ids) H locs) (ho : idsOK ids S) (hR : Rel S (20 * k)) (hl : lv_has ls 4 (lwV sb b k)) : W p l e room_1 s m #[Value.ref sb] below meth c H locs (200 + 33 * k) (8000 + 761 * k) (lw_Z below #[Value.ref sb] s) (F0 m 523 ls []) := by
  have hI : ∀ i, i < 107 → i ∈ ids := fun i h => (ho i).mpr (Or.inl h)
  have hL := C.2.2.2.1
  have hc3 := lw_cs hL h6
  have hcs : 200 + 33 * k ≤ room_1.cells ∧ 8000 + 761 * k ≤ room_1.slots := ⟨Nat.le_trans (Nat.le_add_right _ _) hc3.1, Nat.le_trans (Nat.le_add_right _ _) hc3.2⟩
  obtain ⟨r, S1, S2, h1, h2, hR2, hf⟩ := step_quit l D b ids hI (by omega) hR (xs (6 * k + 1)) (xs (6 * k + 2))
  refine lv_aload_n C.1.1.1 C.1.1.2.1 dL_law_523 rfl (lv_at hl 1 rfl) ?_
  refine lw_arg C 1 (by omega) w.2.2.1 hl rfl dL_law_524 dL_law_525 dL_law_526 dL_law_527 dL_law_528 ?_
  refine lw_arg C 2 (by omega) w.2.2.1 hl rfl dL_law_529 dL_law_530 dL_law_531 dL_law_532 dL_law_533 ?_
  refine lw_callV C.1 w 0 (hI 0 (by decide)) sh_0 (rfl : vwCl[10]? = some (RX10, TX10, 6)) [.int (xs (6 * k + 1)), .int (xs (6 * k + 2))] h1 gL_law_X10_quit rfl rfl rfl hdX10_quit ⟨Nat.le_of_ble_eq_true rfl, Nat.le_of_ble_eq_true rfl⟩ rfl hl.1 rfl (Nat.le_of_ble_eq_true rfl) hcs dL_law_534 (fun H locs w => ?_)
  refine lv_aload_n C.1.1.1 C.1.1.2.1 dL_law_537 rfl (lv_at hl 2 rfl) ?_
  refine lw_arg C 1 (by omega) w.2.2.1 hl rfl dL_law_538 dL_law_539 dL_law_540 dL_law_541 dL_law_542 ?_
  refine lw_arg C 2 (by omega) w.2.2.1 hl rfl dL_law_543 dL_law_544 dL_law_545 dL_law_546 dL_law_547 ?_
  refine lw_callV C.1 w 62 (hI 62 (by decide)) sh_62 (rfl : vwCl[11]? = some (RX11, TX11, 59)) [.int (xs (6 * k + 1)), .int (xs (6 * k + 2))] h2 gL_law_X11_quit rfl rfl rfl hdX11_quit ⟨Nat.le_of_ble_eq_true rfl, Nat.le_of_ble_eq_true rfl⟩ rfl hl.1 rfl (Nat.le_of_ble_eq_true rfl) hcs dL_law_548 (fun H locs w => ?_)
  refine lv_icmp_eq (tgt := 846) C.1.1.1 C.1.1.2.1 dL_law_551 (by decide) (fun _ => ?_) (fun h => absurd rfl h)
  exact lw_next C K w (ho.of hf) hR2 hl (by omega) (by omega)
set_option maxHeartbeats 4000000 in
set_option maxRecDepth 100000 in
theorem law_tell (C : lwC p s m meth c D sb L xs) (K : lwL p l e s m below meth c D sb (k + 1)) (h6 : 6 * k + 6 ≤ L) (w : cW D (fun q : Nat => s.heap.size ≤ q) s.heap (ns_wl D b S ids) H locs) (ho : idsOK ids S) (hR : Rel S (20 * k)) (hl : lv_has ls 4 (lwV sb b k)) : W p l e room_1 s m #[Value.ref sb] below meth c H locs (200 + 33 * k) (8000 + 761 * k) (lw_Z below #[Value.ref sb] s) (F0 m 556 ls []) := by
  have hI : ∀ i, i < 107 → i ∈ ids := fun i h => (ho i).mpr (Or.inl h)
  have hL := C.2.2.2.1
  have hc3 := lw_cs hL h6
  have hcs : 200 + 33 * k ≤ room_1.cells ∧ 8000 + 761 * k ≤ room_1.slots := ⟨Nat.le_trans (Nat.le_add_right _ _) hc3.1, Nat.le_trans (Nat.le_add_right _ _) hc3.2⟩
  obtain ⟨r, S1, S2, h1, h2, hR2, hf⟩ := step_tell l D b ids hI (by omega) hR (xs (6 * k + 1)) (xs (6 * k + 2))
  refine lv_aload_n C.1.1.1 C.1.1.2.1 dL_law_556 rfl (lv_at hl 1 rfl) ?_
  refine lw_arg C 1 (by omega) w.2.2.1 hl rfl dL_law_557 dL_law_558 dL_law_559 dL_law_560 dL_law_561 ?_
  refine lw_arg C 2 (by omega) w.2.2.1 hl rfl dL_law_562 dL_law_563 dL_law_564 dL_law_565 dL_law_566 ?_
  refine lw_callV C.1 w 0 (hI 0 (by decide)) sh_0 (rfl : vwCl[10]? = some (RX10, TX10, 6)) [.int (xs (6 * k + 1)), .int (xs (6 * k + 2))] h1 gL_law_X10_tell rfl rfl rfl hdX10_tell ⟨Nat.le_of_ble_eq_true rfl, Nat.le_of_ble_eq_true rfl⟩ rfl hl.1 rfl (Nat.le_of_ble_eq_true rfl) hcs dL_law_567 (fun H locs w => ?_)
  refine lv_aload_n C.1.1.1 C.1.1.2.1 dL_law_570 rfl (lv_at hl 2 rfl) ?_
  refine lw_arg C 1 (by omega) w.2.2.1 hl rfl dL_law_571 dL_law_572 dL_law_573 dL_law_574 dL_law_575 ?_
  refine lw_arg C 2 (by omega) w.2.2.1 hl rfl dL_law_576 dL_law_577 dL_law_578 dL_law_579 dL_law_580 ?_
  refine lw_callV C.1 w 62 (hI 62 (by decide)) sh_62 (rfl : vwCl[11]? = some (RX11, TX11, 59)) [.int (xs (6 * k + 1)), .int (xs (6 * k + 2))] h2 gL_law_X11_tell rfl rfl rfl hdX11_tell ⟨Nat.le_of_ble_eq_true rfl, Nat.le_of_ble_eq_true rfl⟩ rfl hl.1 rfl (Nat.le_of_ble_eq_true rfl) hcs dL_law_581 (fun H locs w => ?_)
  refine lv_icmp_eq (tgt := 846) C.1.1.1 C.1.1.2.1 dL_law_584 (by decide) (fun _ => ?_) (fun h => absurd rfl h)
  exact lw_next C K w (ho.of hf) hR2 hl (by omega) (by omega)
set_option maxHeartbeats 4000000 in
set_option maxRecDepth 100000 in
theorem law_person (C : lwC p s m meth c D sb L xs) (K : lwL p l e s m below meth c D sb (k + 1)) (h6 : 6 * k + 6 ≤ L) (w : cW D (fun q : Nat => s.heap.size ≤ q) s.heap (ns_wl D b S ids) H locs) (ho : idsOK ids S) (hR : Rel S (20 * k)) (hl : lv_has ls 4 (lwV sb b k)) : W p l e room_1 s m #[Value.ref sb] below meth c H locs (200 + 33 * k) (8000 + 761 * k) (lw_Z below #[Value.ref sb] s) (F0 m 589 ls []) := by
  have hI : ∀ i, i < 107 → i ∈ ids := fun i h => (ho i).mpr (Or.inl h)
  have hL := C.2.2.2.1
  have hc3 := lw_cs hL h6
  have hcs : 200 + 33 * k ≤ room_1.cells ∧ 8000 + 761 * k ≤ room_1.slots := ⟨Nat.le_trans (Nat.le_add_right _ _) hc3.1, Nat.le_trans (Nat.le_add_right _ _) hc3.2⟩
  obtain ⟨r, S1, S2, h1, h2, hR2, hf⟩ := step_person l D b ids hI (by omega) hR (xs (6 * k + 1)) (xs (6 * k + 2))
  refine lv_aload_n C.1.1.1 C.1.1.2.1 dL_law_589 rfl (lv_at hl 1 rfl) ?_
  refine lw_arg C 1 (by omega) w.2.2.1 hl rfl dL_law_590 dL_law_591 dL_law_592 dL_law_593 dL_law_594 ?_
  refine lw_arg C 2 (by omega) w.2.2.1 hl rfl dL_law_595 dL_law_596 dL_law_597 dL_law_598 dL_law_599 ?_
  refine lw_callV C.1 w 0 (hI 0 (by decide)) sh_0 (rfl : vwCl[10]? = some (RX10, TX10, 6)) [.int (xs (6 * k + 1)), .int (xs (6 * k + 2))] h1 gL_law_X10_person rfl rfl rfl hdX10_person ⟨Nat.le_of_ble_eq_true rfl, Nat.le_of_ble_eq_true rfl⟩ rfl hl.1 rfl (Nat.le_of_ble_eq_true rfl) hcs dL_law_600 (fun H locs w => ?_)
  refine lv_aload_n C.1.1.1 C.1.1.2.1 dL_law_603 rfl (lv_at hl 2 rfl) ?_
  refine lw_arg C 1 (by omega) w.2.2.1 hl rfl dL_law_604 dL_law_605 dL_law_606 dL_law_607 dL_law_608 ?_
  refine lw_arg C 2 (by omega) w.2.2.1 hl rfl dL_law_609 dL_law_610 dL_law_611 dL_law_612 dL_law_613 ?_
  refine lw_callV C.1 w 62 (hI 62 (by decide)) sh_62 (rfl : vwCl[11]? = some (RX11, TX11, 59)) [.int (xs (6 * k + 1)), .int (xs (6 * k + 2))] h2 gL_law_X11_person rfl rfl rfl hdX11_person ⟨Nat.le_of_ble_eq_true rfl, Nat.le_of_ble_eq_true rfl⟩ rfl hl.1 rfl (Nat.le_of_ble_eq_true rfl) hcs dL_law_614 (fun H locs w => ?_)
  refine lv_icmp_eq (tgt := 846) C.1.1.1 C.1.1.2.1 dL_law_617 (by decide) (fun _ => ?_) (fun h => absurd rfl h)
  exact lw_next C K w (ho.of hf) hR2 hl (by omega) (by omega)
set_option maxHeartbeats 4000000 in
set_option maxRecDepth 100000 in
theorem law_why (C : lwC p s m meth c D sb L xs) (K : lwL p l e s m below meth c D sb (k + 1)) (h6 : 6 * k + 6 ≤ L) (w : cW D (fun q : Nat => s.heap.size ≤ q) s.heap (ns_wl D b S ids) H locs) (ho : idsOK ids S) (hR : Rel S (20 * k)) (hl : lv_has ls 4 (lwV sb b k)) : W p l e room_1 s m #[Value.ref sb] below meth c H locs (200 + 33 * k) (8000 + 761 * k) (lw_Z below #[Value.ref sb] s) (F0 m 622 ls []) := by
  have hI : ∀ i, i < 107 → i ∈ ids := fun i h => (ho i).mpr (Or.inl h)
  have hL := C.2.2.2.1
  have hc3 := lw_cs hL h6
  have hcs : 200 + 33 * k ≤ room_1.cells ∧ 8000 + 761 * k ≤ room_1.slots := ⟨Nat.le_trans (Nat.le_add_right _ _) hc3.1, Nat.le_trans (Nat.le_add_right _ _) hc3.2⟩
  obtain ⟨r, S1, S2, h1, h2, hR2, hf⟩ := step_why l D b ids hI (by omega) hR (xs (6 * k + 1)) (xs (6 * k + 2))
  refine lv_aload_n C.1.1.1 C.1.1.2.1 dL_law_622 rfl (lv_at hl 1 rfl) ?_
  refine lw_arg C 1 (by omega) w.2.2.1 hl rfl dL_law_623 dL_law_624 dL_law_625 dL_law_626 dL_law_627 ?_
  refine lw_arg C 2 (by omega) w.2.2.1 hl rfl dL_law_628 dL_law_629 dL_law_630 dL_law_631 dL_law_632 ?_
  refine lw_callV C.1 w 0 (hI 0 (by decide)) sh_0 (rfl : vwCl[10]? = some (RX10, TX10, 6)) [.int (xs (6 * k + 1)), .int (xs (6 * k + 2))] h1 gL_law_X10_why rfl rfl rfl hdX10_why ⟨Nat.le_of_ble_eq_true rfl, Nat.le_of_ble_eq_true rfl⟩ rfl hl.1 rfl (Nat.le_of_ble_eq_true rfl) hcs dL_law_633 (fun H locs w => ?_)
  refine lv_aload_n C.1.1.1 C.1.1.2.1 dL_law_636 rfl (lv_at hl 2 rfl) ?_
  refine lw_arg C 1 (by omega) w.2.2.1 hl rfl dL_law_637 dL_law_638 dL_law_639 dL_law_640 dL_law_641 ?_
  refine lw_arg C 2 (by omega) w.2.2.1 hl rfl dL_law_642 dL_law_643 dL_law_644 dL_law_645 dL_law_646 ?_
  refine lw_callV C.1 w 62 (hI 62 (by decide)) sh_62 (rfl : vwCl[11]? = some (RX11, TX11, 59)) [.int (xs (6 * k + 1)), .int (xs (6 * k + 2))] h2 gL_law_X11_why rfl rfl rfl hdX11_why ⟨Nat.le_of_ble_eq_true rfl, Nat.le_of_ble_eq_true rfl⟩ rfl hl.1 rfl (Nat.le_of_ble_eq_true rfl) hcs dL_law_647 (fun H locs w => ?_)
  refine lv_icmp_eq (tgt := 846) C.1.1.1 C.1.1.2.1 dL_law_650 (by decide) (fun _ => ?_) (fun h => absurd rfl h)
  exact lw_next C K w (ho.of hf) hR2 hl (by omega) (by omega)
set_option maxHeartbeats 4000000 in
set_option maxRecDepth 100000 in
theorem law_hours (C : lwC p s m meth c D sb L xs) (K : lwL p l e s m below meth c D sb (k + 1)) (h6 : 6 * k + 6 ≤ L) (w : cW D (fun q : Nat => s.heap.size ≤ q) s.heap (ns_wl D b S ids) H locs) (ho : idsOK ids S) (hR : Rel S (20 * k)) (hl : lv_has ls 4 (lwV sb b k)) : W p l e room_1 s m #[Value.ref sb] below meth c H locs (200 + 33 * k) (8000 + 761 * k) (lw_Z below #[Value.ref sb] s) (F0 m 655 ls []) := by
  have hI : ∀ i, i < 107 → i ∈ ids := fun i h => (ho i).mpr (Or.inl h)
  have hL := C.2.2.2.1
  have hc3 := lw_cs hL h6
  have hcs : 200 + 33 * k ≤ room_1.cells ∧ 8000 + 761 * k ≤ room_1.slots := ⟨Nat.le_trans (Nat.le_add_right _ _) hc3.1, Nat.le_trans (Nat.le_add_right _ _) hc3.2⟩
  obtain ⟨r, S1, S2, h1, h2, hR2, hf⟩ := step_hours l D b ids hI (by omega) hR (xs (6 * k + 1)) (xs (6 * k + 2))
  refine lv_aload_n C.1.1.1 C.1.1.2.1 dL_law_655 rfl (lv_at hl 1 rfl) ?_
  refine lw_arg C 1 (by omega) w.2.2.1 hl rfl dL_law_656 dL_law_657 dL_law_658 dL_law_659 dL_law_660 ?_
  refine lw_arg C 2 (by omega) w.2.2.1 hl rfl dL_law_661 dL_law_662 dL_law_663 dL_law_664 dL_law_665 ?_
  refine lw_callV C.1 w 0 (hI 0 (by decide)) sh_0 (rfl : vwCl[10]? = some (RX10, TX10, 6)) [.int (xs (6 * k + 1)), .int (xs (6 * k + 2))] h1 gL_law_X10_hours rfl rfl rfl hdX10_hours ⟨Nat.le_of_ble_eq_true rfl, Nat.le_of_ble_eq_true rfl⟩ rfl hl.1 rfl (Nat.le_of_ble_eq_true rfl) hcs dL_law_666 (fun H locs w => ?_)
  refine lv_aload_n C.1.1.1 C.1.1.2.1 dL_law_669 rfl (lv_at hl 2 rfl) ?_
  refine lw_arg C 1 (by omega) w.2.2.1 hl rfl dL_law_670 dL_law_671 dL_law_672 dL_law_673 dL_law_674 ?_
  refine lw_arg C 2 (by omega) w.2.2.1 hl rfl dL_law_675 dL_law_676 dL_law_677 dL_law_678 dL_law_679 ?_
  refine lw_callV C.1 w 62 (hI 62 (by decide)) sh_62 (rfl : vwCl[11]? = some (RX11, TX11, 59)) [.int (xs (6 * k + 1)), .int (xs (6 * k + 2))] h2 gL_law_X11_hours rfl rfl rfl hdX11_hours ⟨Nat.le_of_ble_eq_true rfl, Nat.le_of_ble_eq_true rfl⟩ rfl hl.1 rfl (Nat.le_of_ble_eq_true rfl) hcs dL_law_680 (fun H locs w => ?_)
  refine lv_icmp_eq (tgt := 846) C.1.1.1 C.1.1.2.1 dL_law_683 (by decide) (fun _ => ?_) (fun h => absurd rfl h)
  exact lw_next C K w (ho.of hf) hR2 hl (by omega) (by omega)
set_option maxHeartbeats 4000000 in
set_option maxRecDepth 100000 in
theorem law_bill (C : lwC p s m meth c D sb L xs) (K : lwL p l e s m below meth c D sb (k + 1)) (h6 : 6 * k + 6 ≤ L) (w : cW D (fun q : Nat => s.heap.size ≤ q) s.heap (ns_wl D b S ids) H locs) (ho : idsOK ids S) (hR : Rel S (20 * k)) (hl : lv_has ls 4 (lwV sb b k)) : W p l e room_1 s m #[Value.ref sb] below meth c H locs (200 + 33 * k) (8000 + 761 * k) (lw_Z below #[Value.ref sb] s) (F0 m 688 ls []) := by
  have hI : ∀ i, i < 107 → i ∈ ids := fun i h => (ho i).mpr (Or.inl h)
  have hL := C.2.2.2.1
  have hc3 := lw_cs hL h6
  have hcs : 200 + 33 * k ≤ room_1.cells ∧ 8000 + 761 * k ≤ room_1.slots := ⟨Nat.le_trans (Nat.le_add_right _ _) hc3.1, Nat.le_trans (Nat.le_add_right _ _) hc3.2⟩
  obtain ⟨r, S1, S2, h1, h2, hR2, hf⟩ := step_bill l D b ids hI (by omega) hR (xs (6 * k + 1))
  refine lv_aload_n C.1.1.1 C.1.1.2.1 dL_law_688 rfl (lv_at hl 1 rfl) ?_
  refine lw_arg C 1 (by omega) w.2.2.1 hl rfl dL_law_689 dL_law_690 dL_law_691 dL_law_692 dL_law_693 ?_
  refine lw_callV C.1 w 0 (hI 0 (by decide)) sh_0 (rfl : vwCl[10]? = some (RX10, TX10, 6)) [.int (xs (6 * k + 1))] h1 gL_law_X10_bill rfl rfl rfl hdX10_bill ⟨Nat.le_of_ble_eq_true rfl, Nat.le_of_ble_eq_true rfl⟩ rfl hl.1 rfl (Nat.le_of_ble_eq_true rfl) hcs dL_law_694 (fun H locs w => ?_)
  refine lv_aload_n C.1.1.1 C.1.1.2.1 dL_law_697 rfl (lv_at hl 2 rfl) ?_
  refine lw_arg C 1 (by omega) w.2.2.1 hl rfl dL_law_698 dL_law_699 dL_law_700 dL_law_701 dL_law_702 ?_
  refine lw_callV C.1 w 62 (hI 62 (by decide)) sh_62 (rfl : vwCl[11]? = some (RX11, TX11, 59)) [.int (xs (6 * k + 1))] h2 gL_law_X11_bill rfl rfl rfl hdX11_bill ⟨Nat.le_of_ble_eq_true rfl, Nat.le_of_ble_eq_true rfl⟩ rfl hl.1 rfl (Nat.le_of_ble_eq_true rfl) hcs dL_law_703 (fun H locs w => ?_)
  refine lv_icmp_eq (tgt := 846) C.1.1.1 C.1.1.2.1 dL_law_706 (by decide) (fun _ => ?_) (fun h => absurd rfl h)
  exact lw_next C K w (ho.of hf) hR2 hl (by omega) (by omega)
set_option maxHeartbeats 4000000 in
set_option maxRecDepth 100000 in
theorem law_line (C : lwC p s m meth c D sb L xs) (K : lwL p l e s m below meth c D sb (k + 1)) (h6 : 6 * k + 6 ≤ L) (w : cW D (fun q : Nat => s.heap.size ≤ q) s.heap (ns_wl D b S ids) H locs) (ho : idsOK ids S) (hR : Rel S (20 * k)) (hl : lv_has ls 4 (lwV sb b k)) : W p l e room_1 s m #[Value.ref sb] below meth c H locs (200 + 33 * k) (8000 + 761 * k) (lw_Z below #[Value.ref sb] s) (F0 m 711 ls []) := by
  have hI : ∀ i, i < 107 → i ∈ ids := fun i h => (ho i).mpr (Or.inl h)
  have hL := C.2.2.2.1
  have hc3 := lw_cs hL h6
  have hcs : 200 + 33 * k ≤ room_1.cells ∧ 8000 + 761 * k ≤ room_1.slots := ⟨Nat.le_trans (Nat.le_add_right _ _) hc3.1, Nat.le_trans (Nat.le_add_right _ _) hc3.2⟩
  obtain ⟨r, S1, S2, h1, h2, hR2, hf⟩ := step_line l D b ids hI (by omega) hR (xs (6 * k + 1)) (xs (6 * k + 2))
  refine lv_aload_n C.1.1.1 C.1.1.2.1 dL_law_711 rfl (lv_at hl 1 rfl) ?_
  refine lw_arg C 1 (by omega) w.2.2.1 hl rfl dL_law_712 dL_law_713 dL_law_714 dL_law_715 dL_law_716 ?_
  refine lw_arg C 2 (by omega) w.2.2.1 hl rfl dL_law_717 dL_law_718 dL_law_719 dL_law_720 dL_law_721 ?_
  refine lw_callV C.1 w 0 (hI 0 (by decide)) sh_0 (rfl : vwCl[10]? = some (RX10, TX10, 6)) [.int (xs (6 * k + 1)), .int (xs (6 * k + 2))] h1 gL_law_X10_line rfl rfl rfl hdX10_line ⟨Nat.le_of_ble_eq_true rfl, Nat.le_of_ble_eq_true rfl⟩ rfl hl.1 rfl (Nat.le_of_ble_eq_true rfl) hcs dL_law_722 (fun H locs w => ?_)
  refine lv_aload_n C.1.1.1 C.1.1.2.1 dL_law_725 rfl (lv_at hl 2 rfl) ?_
  refine lw_arg C 1 (by omega) w.2.2.1 hl rfl dL_law_726 dL_law_727 dL_law_728 dL_law_729 dL_law_730 ?_
  refine lw_arg C 2 (by omega) w.2.2.1 hl rfl dL_law_731 dL_law_732 dL_law_733 dL_law_734 dL_law_735 ?_
  refine lw_callV C.1 w 62 (hI 62 (by decide)) sh_62 (rfl : vwCl[11]? = some (RX11, TX11, 59)) [.int (xs (6 * k + 1)), .int (xs (6 * k + 2))] h2 gL_law_X11_line rfl rfl rfl hdX11_line ⟨Nat.le_of_ble_eq_true rfl, Nat.le_of_ble_eq_true rfl⟩ rfl hl.1 rfl (Nat.le_of_ble_eq_true rfl) hcs dL_law_736 (fun H locs w => ?_)
  refine lv_icmp_eq (tgt := 846) C.1.1.1 C.1.1.2.1 dL_law_739 (by decide) (fun _ => ?_) (fun h => absurd rfl h)
  exact lw_next C K w (ho.of hf) hR2 hl (by omega) (by omega)
set_option maxHeartbeats 4000000 in
set_option maxRecDepth 100000 in
theorem law_count (C : lwC p s m meth c D sb L xs) (K : lwL p l e s m below meth c D sb (k + 1)) (h6 : 6 * k + 6 ≤ L) (w : cW D (fun q : Nat => s.heap.size ≤ q) s.heap (ns_wl D b S ids) H locs) (ho : idsOK ids S) (hR : Rel S (20 * k)) (hl : lv_has ls 4 (lwV sb b k)) : W p l e room_1 s m #[Value.ref sb] below meth c H locs (200 + 33 * k) (8000 + 761 * k) (lw_Z below #[Value.ref sb] s) (F0 m 744 ls []) := by
  have hI : ∀ i, i < 107 → i ∈ ids := fun i h => (ho i).mpr (Or.inl h)
  have hL := C.2.2.2.1
  have hc3 := lw_cs hL h6
  have hcs : 200 + 33 * k ≤ room_1.cells ∧ 8000 + 761 * k ≤ room_1.slots := ⟨Nat.le_trans (Nat.le_add_right _ _) hc3.1, Nat.le_trans (Nat.le_add_right _ _) hc3.2⟩
  obtain ⟨r, S1, S2, h1, h2, hR2, hf⟩ := step_count l D b ids hI (by omega) hR (xs (6 * k + 1))
  refine lv_aload_n C.1.1.1 C.1.1.2.1 dL_law_744 rfl (lv_at hl 1 rfl) ?_
  refine lw_arg C 1 (by omega) w.2.2.1 hl rfl dL_law_745 dL_law_746 dL_law_747 dL_law_748 dL_law_749 ?_
  refine lw_callV C.1 w 0 (hI 0 (by decide)) sh_0 (rfl : vwCl[10]? = some (RX10, TX10, 6)) [.int (xs (6 * k + 1))] h1 gL_law_X10_count rfl rfl rfl hdX10_count ⟨Nat.le_of_ble_eq_true rfl, Nat.le_of_ble_eq_true rfl⟩ rfl hl.1 rfl (Nat.le_of_ble_eq_true rfl) hcs dL_law_750 (fun H locs w => ?_)
  refine lv_aload_n C.1.1.1 C.1.1.2.1 dL_law_753 rfl (lv_at hl 2 rfl) ?_
  refine lw_arg C 1 (by omega) w.2.2.1 hl rfl dL_law_754 dL_law_755 dL_law_756 dL_law_757 dL_law_758 ?_
  refine lw_callV C.1 w 62 (hI 62 (by decide)) sh_62 (rfl : vwCl[11]? = some (RX11, TX11, 59)) [.int (xs (6 * k + 1))] h2 gL_law_X11_count rfl rfl rfl hdX11_count ⟨Nat.le_of_ble_eq_true rfl, Nat.le_of_ble_eq_true rfl⟩ rfl hl.1 rfl (Nat.le_of_ble_eq_true rfl) hcs dL_law_759 (fun H locs w => ?_)
  refine lv_icmp_eq (tgt := 846) C.1.1.1 C.1.1.2.1 dL_law_762 (by decide) (fun _ => ?_) (fun h => absurd rfl h)
  exact lw_next C K w (ho.of hf) hR2 hl (by omega) (by omega)
set_option maxHeartbeats 4000000 in
set_option maxRecDepth 100000 in
theorem law_waits (C : lwC p s m meth c D sb L xs) (K : lwL p l e s m below meth c D sb (k + 1)) (h6 : 6 * k + 6 ≤ L) (w : cW D (fun q : Nat => s.heap.size ≤ q) s.heap (ns_wl D b S ids) H locs) (ho : idsOK ids S) (hR : Rel S (20 * k)) (hl : lv_has ls 4 (lwV sb b k)) : W p l e room_1 s m #[Value.ref sb] below meth c H locs (200 + 33 * k) (8000 + 761 * k) (lw_Z below #[Value.ref sb] s) (F0 m 767 ls []) := by
  have hI : ∀ i, i < 107 → i ∈ ids := fun i h => (ho i).mpr (Or.inl h)
  have hL := C.2.2.2.1
  have hc3 := lw_cs hL h6
  have hcs : 200 + 33 * k ≤ room_1.cells ∧ 8000 + 761 * k ≤ room_1.slots := ⟨Nat.le_trans (Nat.le_add_right _ _) hc3.1, Nat.le_trans (Nat.le_add_right _ _) hc3.2⟩
  obtain ⟨r, S1, S2, h1, h2, hR2, hf⟩ := step_waits l D b ids hI (by omega) hR (xs (6 * k + 1)) (xs (6 * k + 2))
  refine lv_aload_n C.1.1.1 C.1.1.2.1 dL_law_767 rfl (lv_at hl 1 rfl) ?_
  refine lw_arg C 1 (by omega) w.2.2.1 hl rfl dL_law_768 dL_law_769 dL_law_770 dL_law_771 dL_law_772 ?_
  refine lw_arg C 2 (by omega) w.2.2.1 hl rfl dL_law_773 dL_law_774 dL_law_775 dL_law_776 dL_law_777 ?_
  refine lw_callV C.1 w 0 (hI 0 (by decide)) sh_0 (rfl : vwCl[10]? = some (RX10, TX10, 6)) [.int (xs (6 * k + 1)), .int (xs (6 * k + 2))] h1 gL_law_X10_waits rfl rfl rfl hdX10_waits ⟨Nat.le_of_ble_eq_true rfl, Nat.le_of_ble_eq_true rfl⟩ rfl hl.1 rfl (Nat.le_of_ble_eq_true rfl) hcs dL_law_778 (fun H locs w => ?_)
  refine lv_aload_n C.1.1.1 C.1.1.2.1 dL_law_781 rfl (lv_at hl 2 rfl) ?_
  refine lw_arg C 1 (by omega) w.2.2.1 hl rfl dL_law_782 dL_law_783 dL_law_784 dL_law_785 dL_law_786 ?_
  refine lw_arg C 2 (by omega) w.2.2.1 hl rfl dL_law_787 dL_law_788 dL_law_789 dL_law_790 dL_law_791 ?_
  refine lw_callV C.1 w 62 (hI 62 (by decide)) sh_62 (rfl : vwCl[11]? = some (RX11, TX11, 59)) [.int (xs (6 * k + 1)), .int (xs (6 * k + 2))] h2 gL_law_X11_waits rfl rfl rfl hdX11_waits ⟨Nat.le_of_ble_eq_true rfl, Nat.le_of_ble_eq_true rfl⟩ rfl hl.1 rfl (Nat.le_of_ble_eq_true rfl) hcs dL_law_792 (fun H locs w => ?_)
  refine lv_icmp_eq (tgt := 846) C.1.1.1 C.1.1.2.1 dL_law_795 (by decide) (fun _ => ?_) (fun h => absurd rfl h)
  exact lw_next C K w (ho.of hf) hR2 hl (by omega) (by omega)
set_option maxHeartbeats 4000000 in
set_option maxRecDepth 100000 in
theorem law_image (C : lwC p s m meth c D sb L xs) (K : lwL p l e s m below meth c D sb (k + 1)) (h6 : 6 * k + 6 ≤ L) (w : cW D (fun q : Nat => s.heap.size ≤ q) s.heap (ns_wl D b S ids) H locs) (ho : idsOK ids S) (hR : Rel S (20 * k)) (hl : lv_has ls 4 (lwV sb b k)) : W p l e room_1 s m #[Value.ref sb] below meth c H locs (200 + 33 * k) (8000 + 761 * k) (lw_Z below #[Value.ref sb] s) (F0 m 800 ls []) := by
  have hI : ∀ i, i < 107 → i ∈ ids := fun i h => (ho i).mpr (Or.inl h)
  have hL := C.2.2.2.1
  have hc3 := lw_cs hL h6
  have hcs : 200 + 33 * k ≤ room_1.cells ∧ 8000 + 761 * k ≤ room_1.slots := ⟨Nat.le_trans (Nat.le_add_right _ _) hc3.1, Nat.le_trans (Nat.le_add_right _ _) hc3.2⟩
  refine lv_aload_n C.1.1.1 C.1.1.2.1 dL_law_800 rfl (lv_at hl 1 rfl) ?_
  refine lw_arg C 1 (by omega) w.2.2.1 hl rfl dL_law_801 dL_law_802 dL_law_803 dL_law_804 dL_law_805 ?_
  generalize hxe : xs (6 * k + 1) = x
  have arg2 : ∀ (b : Nat → Nat) (H : Heap) (locs : List Loc) (cells slots : Nat) (Q : State → Prop) (rest : List Value), va_S (fun q : Nat => s.heap.size ≤ q) s.heap H locs → lv_has ls 4 (lwV sb b k) → W p l e room_1 s m #[Value.ref sb] below meth c H locs cells slots Q (F0 m 815 ls (.int x :: .ref (b 62) :: rest)) → W p l e room_1 s m #[Value.ref sb] below meth c H locs cells slots Q (F0 m 809 ls rest) := by
    intro b H locs cells slots Q rest hS hl kk
    refine lv_aload_n C.1.1.1 C.1.1.2.1 dL_law_809 rfl (lv_at hl 2 rfl) ?_
    refine lw_arg C 1 (by omega) hS hl rfl dL_law_810 dL_law_811 dL_law_812 dL_law_813 dL_law_814 ?_
    rw [hxe]
    exact kk
  rcases in2 (N := 20000) x (lo := 0) (hi := 2) (by decide) (by decide) with ⟨j, -, hj, hx, ha, hb⟩ | ⟨ha, hb, hno⟩
  · have hj : j < 3 := by omega
    subst hx
    refine lw_im C w (hI 0 (by decide)) (im_any l D b ids S ho hj) hl.1 (Nat.le_of_ble_eq_true rfl) hc3 dL_law_806 (fun S1 b' ids' H locs g1 g2 g3 g4 g5 g6 w => ?_)
    rw [show lwV sb b k = lwV sb b' k from by unfold lwV; rw [g4, g5]] at hl
    have hI' : ∀ i, i < 107 → i ∈ ids' := fun i h => (g6 i).mpr (Or.inl h)
    obtain ⟨o2, e1, e2, hR2⟩ := image_rel (N := 20000) (Nat.le_refl _) hR hj g1 g2 g3
    have hm := mX11_image_62 l D b' ids' hI' 20000 _ (nI j) e1
    rw [e2] at hm
    refine arg2 b' _ _ _ _ _ _ w.2.2.1 hl ?_
    refine lw_callV C.1 w 62 (hI' 62 (by decide)) sh_62 (rfl : vwCl[11]? = some (RX11, TX11, 59)) [.int (nI j)] hm gL_law_X11_image rfl rfl rfl hdX11_image ⟨Nat.le_of_ble_eq_true rfl, Nat.le_of_ble_eq_true rfl⟩ rfl hl.1 rfl (Nat.le_of_ble_eq_true rfl) hc3 dL_law_815 (fun H locs w => ?_)
    refine lv_icmp_eq (tgt := 846) C.1.1.1 C.1.1.2.1 dL_law_818 (by decide) (fun _ => ?_) (fun h => absurd rfl h)
    exact lw_next C K w (idsOK.of rfl g6) (hR2.mono (by omega)) hl (by omega) (by omega)
  · have h1 := mX10_image_no l D b ids hI 20000 S x ha
    refine lw_callV C.1 w 0 (hI 0 (by decide)) sh_0 (rfl : vwCl[10]? = some (RX10, TX10, 6)) [.int x] h1 gL_law_X10_image rfl rfl rfl hdX10_image ⟨Nat.le_of_ble_eq_true rfl, Nat.le_of_ble_eq_true rfl⟩ rfl hl.1 rfl (Nat.le_of_ble_eq_true rfl) hcs dL_law_806 (fun H locs w => ?_)
    obtain ⟨o2, e1, e2, hR2⟩ := image_no (N := 20000) hR hb
    have hm := mX11_image_62 l D b ids hI 20000 S x e1
    rw [e2] at hm
    refine arg2 b _ _ _ _ _ _ w.2.2.1 hl ?_
    refine lw_callV C.1 w 62 (hI 62 (by decide)) sh_62 (rfl : vwCl[11]? = some (RX11, TX11, 59)) [.int x] hm gL_law_X11_image rfl rfl rfl hdX11_image ⟨Nat.le_of_ble_eq_true rfl, Nat.le_of_ble_eq_true rfl⟩ rfl hl.1 rfl (Nat.le_of_ble_eq_true rfl) hcs dL_law_815 (fun H locs w => ?_)
    refine lv_icmp_eq (tgt := 846) C.1.1.1 C.1.1.2.1 dL_law_818 (by decide) (fun _ => ?_) (fun h => absurd rfl h)
    exact lw_next C K w (idsOK.of rfl ho) (hR2.mono (by omega)) hl (by omega) (by omega)
set_option maxHeartbeats 4000000 in
set_option maxRecDepth 100000 in
theorem law_again (C : lwC p s m meth c D sb L xs) (K : lwL p l e s m below meth c D sb (k + 1)) (h6 : 6 * k + 6 ≤ L) (w : cW D (fun q : Nat => s.heap.size ≤ q) s.heap (ns_wl D b S ids) H locs) (ho : idsOK ids S) (hR : Rel S (20 * k)) (hl : lv_has ls 4 (lwV sb b k)) : W p l e room_1 s m #[Value.ref sb] below meth c H locs (200 + 33 * k) (8000 + 761 * k) (lw_Z below #[Value.ref sb] s) (F0 m 823 ls []) := by
  have hI : ∀ i, i < 107 → i ∈ ids := fun i h => (ho i).mpr (Or.inl h)
  have hL := C.2.2.2.1
  have hc3 := lw_cs hL h6
  have hcs : 200 + 33 * k ≤ room_1.cells ∧ 8000 + 761 * k ≤ room_1.slots := ⟨Nat.le_trans (Nat.le_add_right _ _) hc3.1, Nat.le_trans (Nat.le_add_right _ _) hc3.2⟩
  refine lv_aload_n C.1.1.1 C.1.1.2.1 dL_law_823 rfl (lv_at hl 1 rfl) ?_
  refine lw_arg C 1 (by omega) w.2.2.1 hl rfl dL_law_824 dL_law_825 dL_law_826 dL_law_827 dL_law_828 ?_
  generalize hxe : xs (6 * k + 1) = x
  have arg2 : ∀ (b : Nat → Nat) (H : Heap) (locs : List Loc) (cells slots : Nat) (Q : State → Prop) (rest : List Value), va_S (fun q : Nat => s.heap.size ≤ q) s.heap H locs → lv_has ls 4 (lwV sb b k) → W p l e room_1 s m #[Value.ref sb] below meth c H locs cells slots Q (F0 m 838 ls (.int x :: .ref (b 62) :: rest)) → W p l e room_1 s m #[Value.ref sb] below meth c H locs cells slots Q (F0 m 832 ls rest) := by
    intro b H locs cells slots Q rest hS hl kk
    refine lv_aload_n C.1.1.1 C.1.1.2.1 dL_law_832 rfl (lv_at hl 2 rfl) ?_
    refine lw_arg C 1 (by omega) hS hl rfl dL_law_833 dL_law_834 dL_law_835 dL_law_836 dL_law_837 ?_
    rw [hxe]
    exact kk
  have no : ns_M l yX10_again wsX10_again rmX10_again D b ids S [.ref (b 0), .int x] (some (.int 0)) S → (fX11_in 20000 x 0 2 = some 0 ∨ ∃ k, k < 3 ∧ x = nI k ∧ S.2.2.2 k = false) → W p l e room_1 s m #[Value.ref sb] below meth c H locs (200 + 33 * k) (8000 + 761 * k) (lw_Z below #[Value.ref sb] s) (F0 m 829 ls (.int x :: .ref (b 0) :: [])) := by
    intro h1 hno
    obtain ⟨o2, e1, e2, hR2⟩ := again_no (N := 20000) hR hno
    refine lw_callV C.1 w 0 (hI 0 (by decide)) sh_0 (rfl : vwCl[10]? = some (RX10, TX10, 6)) [.int x] h1 gL_law_X10_again rfl rfl rfl hdX10_again ⟨Nat.le_of_ble_eq_true rfl, Nat.le_of_ble_eq_true rfl⟩ rfl hl.1 rfl (Nat.le_of_ble_eq_true rfl) hcs dL_law_829 (fun H locs w => ?_)
    have hm := mX11_again_62 l D b ids hI 20000 S x e1
    rw [e2] at hm
    refine arg2 b _ _ _ _ _ _ w.2.2.1 hl ?_
    refine lw_callV C.1 w 62 (hI 62 (by decide)) sh_62 (rfl : vwCl[11]? = some (RX11, TX11, 59)) [.int x] hm gL_law_X11_again rfl rfl rfl hdX11_again ⟨Nat.le_of_ble_eq_true rfl, Nat.le_of_ble_eq_true rfl⟩ rfl hl.1 rfl (Nat.le_of_ble_eq_true rfl) hcs dL_law_838 (fun H locs w => ?_)
    refine lv_icmp_eq (tgt := 846) C.1.1.1 C.1.1.2.1 dL_law_841 (by decide) (fun _ => ?_) (fun h => absurd rfl h)
    exact lw_next C K w (idsOK.of rfl ho) (hR2.mono (by omega)) hl (by omega) (by omega)
  rcases in2 (N := 20000) x (lo := 0) (hi := 2) (by decide) (by decide) with ⟨j, -, hj, hx, ha, hb⟩ | ⟨ha, hb, -⟩
  · have hj : j < 3 := by omega
    cases hf : S.2.2.2 j with
    | false => exact no (mX10_again_null l D b ids hI 20000 S x j hj hx hf) (Or.inr ⟨j, hj, hx, hf⟩)
    | true =>
      have h1 := ag_any l D b ids S ho hj x hx hf
      refine lw_callV C.1 w 0 (hI 0 (by decide)) sh_0 (rfl : vwCl[10]? = some (RX10, TX10, 6)) [.int x] h1 gL_law_X10_again rfl rfl rfl hdX10_again ⟨Nat.le_of_ble_eq_true rfl, Nat.le_of_ble_eq_true rfl⟩ rfl hl.1 rfl (Nat.le_of_ble_eq_true rfl) hcs dL_law_829 (fun H locs w => ?_)
      obtain ⟨o2, e1, e2, hR2⟩ := again_rel (N := 20000) (Nat.le_refl _) hR hj hf
      rw [← hx] at e1
      have hm := mX11_again_62 l D b ids hI 20000 _ x e1
      rw [e2] at hm
      refine arg2 b _ _ _ _ _ _ w.2.2.1 hl ?_
      refine lw_callV C.1 w 62 (hI 62 (by decide)) sh_62 (rfl : vwCl[11]? = some (RX11, TX11, 59)) [.int x] hm gL_law_X11_again rfl rfl rfl hdX11_again ⟨Nat.le_of_ble_eq_true rfl, Nat.le_of_ble_eq_true rfl⟩ rfl hl.1 rfl (Nat.le_of_ble_eq_true rfl) hcs dL_law_838 (fun H locs w => ?_)
      refine lv_icmp_eq (tgt := 846) C.1.1.1 C.1.1.2.1 dL_law_841 (by decide) (fun _ => ?_) (fun h => absurd rfl h)
      exact lw_next C K w (idsOK.of rfl ho) (hR2.mono (by omega)) hl (by omega) (by omega)
  · exact no (mX10_again_no l D b ids hI 20000 S x ha) (Or.inl hb)
set_option maxHeartbeats 4000000 in
set_option maxRecDepth 100000 in
theorem lw_head (C : lwC p s m meth c D sb L xs) (h60 : 6 * k ≤ L) (K : 6 * k + 6 ≤ L → lwL p l e s m below meth c D sb (k + 1)) : lwL p l e s m below meth c D sb k := by
  intro S b ids H locs ls w ho hR hl
  obtain ⟨⟨⟨hx, hb, hml, hown, hts⟩, hK, hst⟩, hX, hbl, hL, hr, hlk, hN⟩ := id C
  have hbA : ¬ (fun q : Nat => s.heap.size ≤ q) sb := Nat.not_le.mpr hbl
  refine lv_iload_n hx hb dL_law_18 rfl (lv_at hl 3 rfl) ?_
  refine lv_aload_n hx hb dL_law_19 rfl (lv_at hl 0 rfl) ?_
  refine va_slen hx hb hX hbl hbA w.2.2.1 dL_law_20 ?_
  refine lv_bipush (v := 6) hx hb dL_law_21 (by decide) ?_
  refine lv_isub hx hb dL_law_23 ?_
  refine lv_icmp_gt (tgt := 852) hx hb dL_law_24 (by decide) (fun h => ?_) (fun h => ?_)
  · refine lv_iconst (v := 1) hx hb dL_law_852 (by decide) ?_
    refine va_forget (fun q hq => w.2.2.1.2.2 q hq) ?_
    refine W.widen (k := 600000) (n := 7302250) (by omega) (by omega) ?_
    exact lw_ret hx hb hr hlk dL_law_853
  · have h6 : 6 * k + 6 ≤ L := by
      rcases Nat.lt_or_ge L (6 * k + 6) with q | q
      · refine absurd ?_ h
        show nI L - nI 6 < nI (6 * k)
        rw [Int32.lt_iff_toInt_lt, pk_sub_toInt (by omega) (by decide), nI_toInt (by omega)]
        omega
      · exact q
    have K := K h6
    have hn : 6 * k < L := by omega
    refine lv_aload_n hx hb dL_law_27 rfl (lv_at hl 0 rfl) ?_
    refine lv_iload_n hx hb dL_law_28 rfl (lv_at hl 3 rfl) ?_
    refine va_sld hx hb hX hbl hbA w.2.2.1 (vp_in_nI hn (by omega)) dL_law_29 ?_
    refine lv_bipush (v := 31) hx hb dL_law_30 (by decide) ?_
    refine lv_iand hx hb dL_law_32 ?_
    generalize xs (nI (6 * k)).toNatClampNeg &&& 31 = z
    by_cases hz : z.toInt < 0 ∨ 23 < z.toInt
    · refine lv_tableOut (tgt := 846) hx hb dL_law_33 hz (by decide) ?_
      exact lw_next C K w ho (hR.mono (by omega)) hl (by omega) (by omega)
    · obtain ⟨j, hj, ej⟩ : ∃ j : Nat, j < 24 ∧ z.toInt = (j : Int) := ⟨z.toInt.toNat, by omega, by omega⟩
      match j, hj, ej with
      | 0, _, ej => exact lv_tableIn (off := 111) (tgt := 144) hx hb dL_law_33 (by rw [ej]; decide) (by rw [ej]; decide) (by rw [ej]; rfl) (by decide) (law_feed C K h6 w ho hR hl)
      | 1, _, ej => exact lv_tableIn (off := 174) (tgt := 207) hx hb dL_law_33 (by rw [ej]; decide) (by rw [ej]; decide) (by rw [ej]; rfl) (by decide) (law_end C K h6 w ho hR hl)
      | 2, _, ej => exact lv_tableIn (off := 197) (tgt := 230) hx hb dL_law_33 (by rw [ej]; decide) (by rw [ej]; decide) (by rw [ej]; rfl) (by decide) (law_fees C K h6 w ho hR hl)
      | 3, _, ej => exact lv_tableIn (off := 210) (tgt := 243) hx hb dL_law_33 (by rw [ej]; decide) (by rw [ej]; decide) (by rw [ej]; rfl) (by decide) (law_fault C K h6 w ho hR hl)
      | 4, _, ej => exact lv_tableIn (off := 233) (tgt := 266) hx hb dL_law_33 (by rw [ej]; decide) (by rw [ej]; decide) (by rw [ej]; rfl) (by decide) (law_room C K h6 w ho hR hl)
      | 5, _, ej => exact lv_tableIn (off := 256) (tgt := 289) hx hb dL_law_33 (by rw [ej]; decide) (by rw [ej]; decide) (by rw [ej]; rfl) (by decide) (law_course C K h6 w ho hR hl)
      | 6, _, ej => exact lv_tableIn (off := 319) (tgt := 352) hx hb dL_law_33 (by rw [ej]; decide) (by rw [ej]; decide) (by rw [ej]; rfl) (by decide) (law_pupil C K h6 w ho hR hl)
      | 7, _, ej => exact lv_tableIn (off := 362) (tgt := 395) hx hb dL_law_33 (by rw [ej]; decide) (by rw [ej]; decide) (by rw [ej]; rfl) (by decide) (law_wish C K h6 w ho hR hl)
      | 8, _, ej => exact lv_tableIn (off := 395) (tgt := 428) hx hb dL_law_33 (by rw [ej]; decide) (by rw [ej]; decide) (by rw [ej]; rfl) (by decide) (law_canHold C K h6 w ho hR hl)
      | 9, _, ej => exact lv_tableIn (off := 418) (tgt := 451) hx hb dL_law_33 (by rw [ej]; decide) (by rw [ej]; decide) (by rw [ej]; rfl) (by decide) (law_points C K h6 w ho hR hl)
      | 10, _, ej => exact lv_tableIn (off := 441) (tgt := 474) hx hb dL_law_33 (by rw [ej]; decide) (by rw [ej]; decide) (by rw [ej]; rfl) (by decide) (law_open C K h6 w ho hR hl)
      | 11, _, ej => exact lv_tableIn (off := 454) (tgt := 487) hx hb dL_law_33 (by rw [ej]; decide) (by rw [ej]; decide) (by rw [ej]; rfl) (by decide) (law_close C K h6 w ho hR hl)
      | 12, _, ej => exact lv_tableIn (off := 467) (tgt := 500) hx hb dL_law_33 (by rw [ej]; decide) (by rw [ej]; decide) (by rw [ej]; rfl) (by decide) (law_weeks C K h6 w ho hR hl)
      | 13, _, ej => exact lv_tableIn (off := 490) (tgt := 523) hx hb dL_law_33 (by rw [ej]; decide) (by rw [ej]; decide) (by rw [ej]; rfl) (by decide) (law_quit C K h6 w ho hR hl)
      | 14, _, ej => exact lv_tableIn (off := 523) (tgt := 556) hx hb dL_law_33 (by rw [ej]; decide) (by rw [ej]; decide) (by rw [ej]; rfl) (by decide) (law_tell C K h6 w ho hR hl)
      | 15, _, ej => exact lv_tableIn (off := 556) (tgt := 589) hx hb dL_law_33 (by rw [ej]; decide) (by rw [ej]; decide) (by rw [ej]; rfl) (by decide) (law_person C K h6 w ho hR hl)
      | 16, _, ej => exact lv_tableIn (off := 589) (tgt := 622) hx hb dL_law_33 (by rw [ej]; decide) (by rw [ej]; decide) (by rw [ej]; rfl) (by decide) (law_why C K h6 w ho hR hl)
      | 17, _, ej => exact lv_tableIn (off := 622) (tgt := 655) hx hb dL_law_33 (by rw [ej]; decide) (by rw [ej]; decide) (by rw [ej]; rfl) (by decide) (law_hours C K h6 w ho hR hl)
      | 18, _, ej => exact lv_tableIn (off := 655) (tgt := 688) hx hb dL_law_33 (by rw [ej]; decide) (by rw [ej]; decide) (by rw [ej]; rfl) (by decide) (law_bill C K h6 w ho hR hl)
      | 19, _, ej => exact lv_tableIn (off := 678) (tgt := 711) hx hb dL_law_33 (by rw [ej]; decide) (by rw [ej]; decide) (by rw [ej]; rfl) (by decide) (law_line C K h6 w ho hR hl)
      | 20, _, ej => exact lv_tableIn (off := 711) (tgt := 744) hx hb dL_law_33 (by rw [ej]; decide) (by rw [ej]; decide) (by rw [ej]; rfl) (by decide) (law_count C K h6 w ho hR hl)
      | 21, _, ej => exact lv_tableIn (off := 734) (tgt := 767) hx hb dL_law_33 (by rw [ej]; decide) (by rw [ej]; decide) (by rw [ej]; rfl) (by decide) (law_waits C K h6 w ho hR hl)
      | 22, _, ej => exact lv_tableIn (off := 767) (tgt := 800) hx hb dL_law_33 (by rw [ej]; decide) (by rw [ej]; decide) (by rw [ej]; rfl) (by decide) (law_image C K h6 w ho hR hl)
      | 23, _, ej => exact lv_tableIn (off := 790) (tgt := 823) hx hb dL_law_33 (by rw [ej]; decide) (by rw [ej]; decide) (by rw [ej]; rfl) (by decide) (law_again C K h6 w ho hR hl)
      | j + 24, hj, _ => exact absurd hj (by omega)
theorem lw_all (C : lwC p s m meth c D sb L xs) : ∀ (d k : Nat), 6 * k ≤ L → L < 6 * k + 6 * d → lwL p l e s m below meth c D sb k := by
  intro d
  induction d with
  | zero => exact fun k h1 h2 => lw_head C h1 (fun h => absurd h (by omega))
  | succ d ih => exact fun k h1 h2 => lw_head C h1 (fun h => ih (k + 1) (by omega) (by omega))
end LWL
set_option maxHeartbeats 4000000 in
set_option maxRecDepth 100000 in
theorem whole_start {p : Program} {e : Env} {s : State} {m : MethodId} {below : List Frame} {meth : Method} {c : Code} (l : Launch) {b L : Nat} {xs : Nat → Int32} (hL : L ≤ 3072) (C0 : lw_At p s m meth c b L xs) : W p l e room_1 s m #[Value.ref b] below meth c s.heap [] 0 0 (lw_Z below #[Value.ref b] s) (entryFrame m ([Value.ref b] : List Value).toArray 4) := by
  obtain ⟨D, hK, hst, hN⟩ := law_known C0
  obtain ⟨hx, hb, hr, hml, hown, hts, hX, hbl, hlocks, hgv⟩ := id C0
  have C : ns_C p m c cL_law 4 s #[Value.ref b] wsL_law RL D (fun q : Nat => s.heap.size ≤ q) := ⟨⟨hx, hb, hml, hown, fun w h => hts w (wsL_law_in w h)⟩, hK, hst⟩
  have hl := lv_entry ([.ref b]) (n := 4) (Nat.le_of_ble_eq_true rfl)
  rw [lg_entry_eq]
  generalize (lg_sl ([.ref b]) ++ List.replicate (4 - (lg_sl ([.ref b])).length) Slot.unset).toArray = ls at hl ⊢
  have hl : lv_has ls 4 [(0, .ref b)] := hl
  have w : cW D (fun q : Nat => s.heap.size ≤ q) s.heap [] s.heap [] := ⟨fun k q h => by simp at h, ⟨fun i j p q h => by simp at h, fun k q h => by simp at h⟩, va_S.rf, fun _ h => h⟩
  refine cn_new (fs := [.null, .int 0, .null, .null, .null, .null]) C.1 hK w inlX10 tyX10_ok (rfl : vwCl[10]? = some (RX10, TX10, 6)) (List.mem_of_getElem? (i := 0) rfl) (List.mem_of_getElem? (i := 1) rfl) (List.mem_of_getElem? (i := 2) rfl) hfX10 (cells' := 1) (slots' := 6) rfl rfl (Nat.le_of_ble_eq_true rfl) (Nat.le_of_ble_eq_true rfl) dL_law_0 (fun q0 H w => ?_)
  refine lv_dup hx hb dL_law_3 rfl ?_
  refine cn_callI (wr := []) (h0 := q0) (WK := WX10 D) C.1 hK hN w (iX10 l D q0) gL_law_X10_init rfl rfl rfl (List.mem_of_getElem? (i := 2) rfl) (List.mem_of_getElem? (i := 6) rfl) (List.mem_of_getElem? (i := 7) rfl) rfl hdX10_init ⟨Nat.le_of_ble_eq_true rfl, Nat.le_of_ble_eq_true rfl⟩ hl.1 (Nat.le_of_ble_eq_true rfl) (cells' := 62) (slots' := 3211) rfl rfl (Nat.le_of_ble_eq_true rfl) (Nat.le_of_ble_eq_true rfl) dL_law_4 (fun u H locs hu w => ?_)
  have w : cW D (fun q : Nat => s.heap.size ≤ q) s.heap (WX10 D u) H locs := w
  refine lv_astore_n (lv' := [(1, .ref q0), (0, .ref b)]) hx hb dL_law_7 rfl hl (by decide) rfl (fun ls hl => ?_)
  refine cn_new (fs := [.int 0, .null, .int 0, .null, .null, .null, .null, .null, .null, .null, .null, .null, .null, .null, .null, .null, .null, .null, .null, .null, .null, .null, .null, .null, .null, .null, .null, .null, .null, .null, .null, .null, .null, .null, .null, .int 0, .int 0, .int 0, .int 0, .int 0, .int 0, .int 0, .int 0, .int 0, .int 0, .int 0, .null, .null, .null, .null, .null, .null, .null, .null, .null, .null, .long 0, .int 0, .null]) C.1 hK w inlX11 tyX11_ok (rfl : vwCl[11]? = some (RX11, TX11, 59)) (List.mem_of_getElem? (i := 3) rfl) (List.mem_of_getElem? (i := 4) rfl) (List.mem_of_getElem? (i := 5) rfl) hfX11 (cells' := 63) (slots' := 3270) rfl rfl (Nat.le_of_ble_eq_true rfl) (Nat.le_of_ble_eq_true rfl) dL_law_8 (fun q1 H w => ?_)
  refine lv_dup hx hb dL_law_11 rfl ?_
  refine cn_callI (wr := WX10 D u) (h0 := q1) (WK := WX11 D) C.1 hK hN w (iX11 l D q1) gL_law_X11_init rfl rfl rfl (List.mem_of_getElem? (i := 5) rfl) (List.mem_of_getElem? (i := 135) rfl) (List.mem_of_getElem? (i := 136) rfl) rfl hdX11_init ⟨Nat.le_of_ble_eq_true rfl, Nat.le_of_ble_eq_true rfl⟩ hl.1 (Nat.le_of_ble_eq_true rfl) (cells' := 107) (slots' := 6970) rfl rfl (Nat.le_of_ble_eq_true rfl) (Nat.le_of_ble_eq_true rfl) dL_law_12 (fun u2 H locs hu2 w => ?_)
  have wF : cW D (fun q : Nat => s.heap.size ≤ q) s.heap (ns_wl D (fun i => if i < 62 then u i else u2 (i - 62)) st0 ids0) H locs := by rw [← st0_C]; exact w
  refine lv_astore_n (lv' := [(2, .ref q1), (1, .ref q0), (0, .ref b)]) hx hb dL_law_15 rfl hl (by decide) rfl (fun ls hl => ?_)
  refine lv_iconst (v := nI (6 * 0)) hx hb dL_law_16 (by decide) ?_
  refine lv_istore_n (lv' := [(3, .int (nI (6 * 0))), (2, .ref q1), (1, .ref q0), (0, .ref b)]) hx hb dL_law_17 rfl hl (by decide) rfl (fun ls hl => ?_)
  refine W.widen (k := 200 + 33 * 0) (n := 8000 + 761 * 0) (by decide) (by decide) ?_
  subst hu hu2
  exact lw_all ⟨C, hX, hbl, hL, hr, hlocks, hN⟩ (L + 1) 0 (Nat.zero_le _) (by omega) st0 (fun i => if i < 62 then u i else u2 (i - 62)) ids0 _ _ _ wF ids0_ok rel_0 (lv_sub hl [3, 2, 1, 0] rfl)
