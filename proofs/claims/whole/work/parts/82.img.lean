/-! calls over the system's world; images on the machine (written by wip/gen/img.py) -/
section LW
variable {p : Program} {l : Launch} {e : Env} {R : Room} {s : State} {m : MethodId} {args : Array Value} {below : List Frame} {meth : Method} {c : Code} {H : Heap} {locs : List Loc} {cells slots : Nat} {Q : State → Prop}
variable {cc : ByteArray} {pc nL : Nat} {ls : Array Slot} {rest : List Value} {own : String} {Ts : List Cond} {D : va_G} {b : Nat → Nat} {ids : List Nat} {A : Nat → Prop} {S : ns_S}
theorem lw_ns (w : cW D A s.heap (ns_wl D b S ids) H locs) : ns_W D b ids A s.heap [] S S H locs := ⟨w.1, w.2.1, ⟨w.2.2.1, w.2.2.2⟩, ns_ag.rf⟩
theorem lw_go {ret : Option Value} {S1 : ns_S} {a : Array Value} {st0 : List Value} (w : cW D A s.heap (ns_wl D b S ids) H locs) (hr : va_Run p l e R s m args below meth c H locs cells slots 0 0 (F0 m pc ls st0) rest (ns_Q D b ids S1 ret (va_A (ns_wl D b S ids) H.size) a) (va_A (ns_wl D b S ids) H.size))
    (kk : ∀ (H1 : Heap) (locs1 : List Loc), cW D A s.heap (ns_wl D b S1 ids) H1 locs1 → W p l e R s m args below meth c H1 locs1 cells slots Q (F0 m (pc + 3) ls (ret.toList ++ rest))) : W p l e R s m args below meth c H locs cells slots Q (F0 m pc ls st0) := by
  obtain ⟨wP, wD, wS, wA⟩ := w
  have hA : ∀ q, va_A (ns_wl D b S ids) H.size q → A q := by
    intro q h
    rcases h with ⟨k, e, hk⟩ | h
    · exact wD.2 k (q, e) hk
    · exact wA q (Nat.le_trans wS.1 h)
  intro T hT X
  obtain ⟨v, st₀, t, T', L, h0, X', hL, e1, e2, ⟨⟨hv, hP1, hK1⟩, hz, hk⟩, st⟩ := hr T hT X
  cases hv
  rw [h0] at hz hk
  obtain ⟨t2, a1, b1⟩ := kk T'.heap (locs ++ L) ⟨by rw [e1]; exact hP1, ns_D wD, ⟨Nat.le_trans wS.1 (by rw [e1]; exact hz), fun q h1 h2 => by
      rw [e1, hk q (Nat.lt_of_lt_of_le h1 wS.1) (fun z => h2 (hA q z))]; exact wS.2.1 q h1 h2, fun q hq => by
      rcases List.mem_append.mp hq with h | h
      · exact wS.2.2 q h
      · exact hA _ (hL q h)⟩, wA⟩ T' rfl X'
  exact ⟨t2, st t2 a1, b1⟩
theorem lw_callV (C : ns_C p m c cc nL s args Ts own D A) (w : cW D A s.heap (ns_wl D b S ids) H locs) (i : Nat) (hi : i ∈ ids) {ci : Nat} {fs : List ns_F} (hsh : ns_shp i = .inr (ci, fs)) {CN : String} {T : u_T} {N : Nat} (hc : vwCl[ci]? = some (CN, T, N)) {y : MethodName} {ws ws' : List Cond} {rm : Room} {bytes : ByteArray} {maxL : Nat} {rt : Option FieldType} (As : List Value) {ret : Option Value} {S1 : ns_S} (hM : ns_M l y ws rm D b ids S (.ref (b i) :: As) ret S1) {index n : Nat} (hT : GoodIn Ts (wsV own index CN y ws)) (hw : ws = Cond.code y bytes maxL rt :: ws') (hrc : rm.cells = 0) (hrs : rm.slots = 0) (hd : y.cls = CN ∧ y.cls ≠ "java/lang/invoke/MethodHandle" ∧ y.cls ≠ "java/lang/invoke/VarHandle" ∧ (parseMethodDescriptor y.desc).map (fun d => d.parameters.length) = some n) (hR : rm.frames + 1 ≤ R.frames ∧ 8 + (maxL + 11) + rm.locals ≤ R.locals) (hn : As.length = n) (hsize : ls.size = nL) {st : List Value} (hst : st = As.reverse ++ .ref (b i) :: rest) (hroom : (rest.map fun v => v.category).sum ≤ 8) (hcs : cells ≤ R.cells ∧ slots ≤ R.slots) (hdg : decode cc pc = .ok (.invokevirtual index, 3))
    (kk : ∀ (H1 : Heap) (locs1 : List Loc), cW D A s.heap (ns_wl D b S1 ids) H1 locs1 → W p l e R s m args below meth c H1 locs1 cells slots Q (F0 m (pc + 3) ls (ret.toList ++ rest))) : W p l e R s m args below meth c H locs cells slots Q (F0 m pc ls st) := by
  obtain ⟨q0, -, he⟩ := ns_at D b S hi
  rw [ns_ce_o hsh] at he
  exact lw_go w (va_runV C.1 (hM H.size) (cwV n C.1.2.2.2.2 hT hw hrc hrs hd hR) ⟨ns_blind, va_recv C.2.1 w.1 hc he, ns_pre C.2.1 C.2.2 (lw_ns w)⟩ rfl hn hsize hst (lv_room hroom) hdg hcs) kk
theorem lw_callS (C : ns_C p m c cc nL s args Ts own D A) (w : cW D A s.heap (ns_wl D b S ids) H locs) {y : MethodName} {ws ws' : List Cond} {rm : Room} {bytes : ByteArray} {maxL : Nat} {rt : Option FieldType} (As : List Value) {ret : Option Value} {S1 : ns_S} (hM : ns_M l y ws rm D b ids S As ret S1) {index n : Nat} (hT : GoodIn Ts (va_wsS own index y ws)) (hw : ws = Cond.code y bytes maxL rt :: ws') (hrc : rm.cells = 0) (hrs : rm.slots = 0) (hd : y.cls ≠ "java/lang/invoke/MethodHandle" ∧ y.cls ≠ "java/lang/invoke/VarHandle" ∧ (parseMethodDescriptor y.desc).map (fun d => d.parameters.length) = some n) (hR : rm.frames + 1 ≤ R.frames ∧ 8 + (maxL + 11) + rm.locals ≤ R.locals) (hn : As.length = n) (hsize : ls.size = nL) {st : List Value} (hst : st = As.reverse ++ rest) (hroom : (rest.map fun v => v.category).sum ≤ 8) (hcs : cells ≤ R.cells ∧ slots ≤ R.slots) (hdg : decode cc pc = .ok (.invokestatic index, 3))
    (kk : ∀ (H1 : Heap) (locs1 : List Loc), cW D A s.heap (ns_wl D b S1 ids) H1 locs1 → W p l e R s m args below meth c H1 locs1 cells slots Q (F0 m (pc + 3) ls (ret.toList ++ rest))) : W p l e R s m args below meth c H locs cells slots Q (F0 m pc ls st) :=
  lw_go w (va_runS C.1 (hM H.size) (va_cwS n C.1.2.2.2.2 hT hw hrc hrs hd hR) ⟨ns_blind, ns_pre C.2.1 C.2.2 (lw_ns w)⟩ rfl hn hsize hst (lv_room hroom) hdg hcs) kk
theorem lw_rt (C : ns_C p m c cc nL s args Ts own D A) (w : cW D A s.heap (ns_wl D b S ids) H locs) {ty : FieldType} (hr : meth.sig.returnType = some ty) (hlk : meth.locks = false) {v : Int32} (hn : narrow ty (.int v) = .int v) (hdg : decode cc pc = .ok (.ireturn, 1)) : W p l e R s m args below meth c H locs cells slots (MQ below (ns_Q D b ids S (some (.int v)) A) args s cells slots A) (F0 m pc ls [.int v]) :=
  W.zret C.1.1 C.1.2.1 hr hn (fun t ht hW => ⟨⟨rfl, by rw [ht]; exact w.1, va_K.moved hW.alike C.2.1⟩, w.2.2.1.F ht⟩) w.2.2.1.2.2 hdg hlk
def imF (b : Nat → Nat) (S : ns_S) (j : Nat) : Option Nat := if S.2.2.2 j = true then some (b (ns_img j)) else none
theorem ce_61 : ns_ce D b S 61 = .inl (D.1 104, 3, .inr (.inr (.inr (.inr (imF b S))))) := by
  unfold ns_ce; rw [sh_61]; rfl
theorem lw_aald (C : ns_C p m c cc nL s args Ts own D A) (w : cW D A s.heap (ns_wl D b S ids) H locs) (hi : 61 ∈ ids) {k : Nat} (hk : k < 3) {v : Value} (hv : va_rf (imF b S k) = v) {x : Int32} (hxk : x = nI k) (hdg : decode cc pc = .ok (.aaload, 1))
    (kk : W p l e R s m args below meth c H locs cells slots Q (F0 m (pc + 1) ls (v :: rest))) : W p l e R s m args below meth c H locs cells slots Q (F0 m pc ls (.int x :: .ref (b 61) :: rest)) := by
  subst hxk
  obtain ⟨q0, -, he⟩ := ns_at D b S hi
  rw [ce_61] at he
  refine va_aldq C.1.1 C.1.2.1 C.2.1 w.1 q0 4 he rfl (vp_in_nI hk (by decide)) hdg ?_
  rw [nI_clamp (by omega), hv]
  exact kk
end LW
/-- which cells there are: the two objects', and those of the images that were made -/
def idsOK (ids : List Nat) (S : ns_S) : Prop := ∀ i, i ∈ ids ↔ (i < 107 ∨ ∃ k, k < 3 ∧ S.2.2.2 k = true ∧ 107 + 33 * k ≤ i ∧ i < 107 + 33 * k + 33)
theorem ce_cong {D : va_G} {b b' : Nat → Nat} {S S' : ns_S} {i : Nat} (h61 : i ≠ 61) (hF : ∀ u, u / 64 = i → S'.1 u = S.1 u) (hA : S'.2.1 i = S.2.1 i) (hL : S'.2.2.1 = S.2.2.1) (hb : ∀ (ci : Nat) (fs : List ns_F) (k j : Nat), ns_shp i = .inr (ci, fs) → fs[k]? = some (.inr (.inl j)) → b' j = b j) (h4 : ∀ n, ns_shp i ≠ .inl (4, n)) : ns_ce D b' S' i = ns_ce D b S i := by
  unfold ns_ce
  cases hs : ns_shp i with
  | inl x =>
    obtain ⟨k, n⟩ := x
    show (if k = 2 then _ else if k = 4 then _ else _) = (if k = 2 then _ else if k = 4 then _ else _)
    have n4 : k ≠ 4 := fun e => h4 n (by rw [hs, e])
    rw [if_neg n4, if_neg n4, hA]
  | inr x =>
    obtain ⟨ci, fs⟩ := x
    show Sum.inr (ci, fs.map (ns_fv b' S')) = Sum.inr (ci, fs.map (ns_fv b S))
    have e : fs.map (ns_fv b' S') = fs.map (ns_fv b S) := by
      refine List.map_congr_left fun g hg => ?_
      obtain ⟨k, hk⟩ := List.getElem?_of_mem hg
      obtain ⟨g1, g2, g3⟩ := ns_okt hs hk
      cases g with
      | inl u =>
        show Value.int (S'.1 u) = Value.int (S.1 u)
        have := g2 u rfl
        rw [hF u (by omega)]
      | inr g =>
        cases g with
        | inl j =>
          show Value.ref (b' j) = Value.ref (b j)
          rw [hb ci fs k j hs hk]
        | inr u =>
          show Value.long (S'.2.2.1 u) = Value.long (S.2.2.1 u)
          rw [hL]
    rw [e]
/-- refs of the table stay within an image, or out of it; rows of references: cell 61 alone -/
def rfB (B : Nat) : Bool := ns_tab.zipIdx.all fun q => match q.1 with
  | .inl (k, _) => k != 4 || q.2 == 61
  | .inr (_, fs) => fs.all fun f => match f with
    | .inr (.inl j) => decide (B ≤ q.2 ∧ q.2 < B + 33) == decide (B ≤ j ∧ j < B + 33)
    | _ => true
theorem rfB_ok : ∀ k, k < 3 → rfB (107 + 33 * k) = true := by decide +kernel
theorem rf_at {B i : Nat} (h : rfB B = true) : (∀ n, i ≠ 61 → ns_shp i ≠ .inl (4, n)) ∧ ∀ (ci : Nat) (fs : List ns_F) (k j : Nat), ns_shp i = .inr (ci, fs) → fs[k]? = some (.inr (.inl j)) → (¬ (B ≤ i ∧ i < B + 33)) → ¬ (B ≤ j ∧ j < B + 33) := by
  have hat : ∀ x, ns_shp i = x → x ≠ .inl (9, 0) → ns_tab[i]? = some x := fun x hx hn => by
    unfold ns_shp at hx
    rw [List.getD_eq_getElem?_getD] at hx
    cases e : ns_tab[i]? with
    | none => rw [e] at hx; exact absurd hx.symm hn
    | some y => rw [e] at hx; rw [← hx]; rfl
  refine ⟨fun n h61 hs => ?_, fun ci fs k j hs hk hi => ?_⟩
  · have h2 := List.all_eq_true.mp h (.inl (4, n), i) (List.mem_of_getElem? (i := i) (by rw [List.getElem?_zipIdx, hat _ hs (by simp)]; simp))
    simp at h2
    exact h61 h2
  · have h2 := List.all_eq_true.mp h (.inr (ci, fs), i) (List.mem_of_getElem? (i := i) (by rw [List.getElem?_zipIdx, hat _ hs (by simp)]; simp))
    have h3 := List.all_eq_true.mp h2 _ (List.mem_of_getElem? hk)
    have h4 : (decide (B ≤ i ∧ i < B + 33) == decide (B ≤ j ∧ j < B + 33)) = true := h3
    rw [decide_eq_false hi] at h4
    intro hj
    rw [decide_eq_true hj] at h4
    cases h4
/-- the state with a school that was just made at the image's cells -/
def nwS (B k : Nat) (S : ns_S) : ns_S := (fun u => if 64 * B ≤ u ∧ u < 64 * (B + 33) then (if u = 64 * (B + 20) then -1 else 0) else S.1 u, fun i => if B ≤ i ∧ i < B + 33 then (if i = B + 16 then fun _ => -1 else fun _ => 0) else S.2.1 i, S.2.2.1, va_up S.2.2.2 k true)
theorem nwS_row {B k i : Nat} {S : ns_S} (h : i < B ∨ B + 33 ≤ i) : (nwS B k S).2.1 i = S.2.1 i := by
  show (if B ≤ i ∧ i < B + 33 then _ else _) = _
  rw [if_neg (by omega)]
theorem nwS_fld {B k u : Nat} {S : ns_S} (h : u < 64 * B ∨ 64 * (B + 33) ≤ u) : (nwS B k S).1 u = S.1 u := by
  show (if 64 * B ≤ u ∧ u < 64 * (B + 33) then _ else _) = _
  rw [if_neg (by omega)]
def nwb (B : Nat) (u b : Nat → Nat) : Nat → Nat := fun i => if B ≤ i ∧ i < B + 33 then u (i - B) else b i
theorem nw_old {D : va_G} {b u : Nat → Nat} {S : ns_S} {ids : List Nat} {k q0 : Nat} {A : Nat → Prop} (hk : k < 3) (ho : idsOK ids S) (hf : S.2.2.2 k = false) (hD : va_D A (ns_wl D b S ids)) (hq : ids[q0]? = some 61) : (ns_wl D b S ids).set q0 (b 61, .inl (D.1 104, 3, .inr (.inr (.inr (.inr (va_up (imF b S) k (some (u 0)))))))) = ns_wl D (nwb (107 + 33 * k) u b) (nwS (107 + 33 * k) k S) ids := by
  have out : ∀ i, i ∈ ids → ¬ (107 + 33 * k ≤ i ∧ i < 107 + 33 * k + 33) := fun i hi hz => by
    rcases (ho i).mp hi with h | ⟨m, m1, m2, m3, m4⟩
    · omega
    · have : m = k := by omega
      subst this
      rw [hf] at m2; cases m2
  have eb : ∀ i, ¬ (107 + 33 * k ≤ i ∧ i < 107 + 33 * k + 33) → nwb (107 + 33 * k) u b i = b i := fun i h => if_neg h
  refine List.ext_getElem? fun n => ?_
  rw [List.getElem?_set]
  by_cases hn : q0 = n
  · subst hn
    have hl : q0 < ids.length := (List.getElem?_eq_some_iff.mp hq).1
    rw [if_pos rfl, if_pos (by simpa [ns_wl] using hl)]
    have e61 : ns_ce D (nwb (107 + 33 * k) u b) (nwS (107 + 33 * k) k S) 61 = .inl (D.1 104, 3, .inr (.inr (.inr (.inr (va_up (imF b S) k (some (u 0))))))) := by
      rw [ce_61]
      have ef : imF (nwb (107 + 33 * k) u b) (nwS (107 + 33 * k) k S) = va_up (imF b S) k (some (u 0)) := by
        funext j
        show (if va_up S.2.2.2 k true j = true then some (nwb (107 + 33 * k) u b (ns_img j)) else none) = _
        by_cases e : j = k
        · subst e
          rw [va_up_self, va_up_self, if_pos rfl]
          unfold nwb ns_img
          rw [if_pos ⟨Nat.le_refl _, by omega⟩, Nat.sub_self]
        · rw [va_up_ne _ _ e, va_up_ne _ _ e]
          unfold imF
          rw [eb _ (by unfold ns_img; omega)]
      rw [ef]
    simp [ns_wl, hq, e61, eb 61 (by omega)]
  · rw [if_neg hn]
    cases e : ids[n]? with
    | none => simp [ns_wl, e]
    | some i =>
      have hi : i ∈ ids := List.mem_of_getElem? e
      have ho2 := out i hi
      have hj : i ≠ 61 := fun q => hn (hD.1 q0 n (b 61, ns_ce D b S 61) (b i, ns_ce D b S i) (by simp [ns_wl, hq]) (by simp [ns_wl, e]) (by rw [q]))
      obtain ⟨r1, r2⟩ := rf_at (i := i) (rfB_ok k hk)
      have ec : ns_ce D (nwb (107 + 33 * k) u b) (nwS (107 + 33 * k) k S) i = ns_ce D b S i := ce_cong hj (fun v hv => if_neg (by omega)) (if_neg ho2) rfl (fun ci fs z j a c => eb j (r2 ci fs z j a c ho2)) (fun z => r1 z hj)
      simp [ns_wl, e, ec, eb i ho2]
theorem nw_new0 (D : va_G) (u b : Nat → Nat) (S : ns_S) : WX6 D u = ns_wl D (nwb 107 u b) (nwS 107 0 S) [107, 108, 109, 110, 111, 112, 113, 114, 115, 116, 117, 118, 119, 120, 121, 122, 123, 124, 125, 126, 127, 128, 129, 130, 131, 132, 133, 134, 135, 136, 137, 138, 139] := rfl
theorem nw_new1 (D : va_G) (u b : Nat → Nat) (S : ns_S) : WX6 D u = ns_wl D (nwb 140 u b) (nwS 140 1 S) [140, 141, 142, 143, 144, 145, 146, 147, 148, 149, 150, 151, 152, 153, 154, 155, 156, 157, 158, 159, 160, 161, 162, 163, 164, 165, 166, 167, 168, 169, 170, 171, 172] := rfl
theorem nw_new2 (D : va_G) (u b : Nat → Nat) (S : ns_S) : WX6 D u = ns_wl D (nwb 173 u b) (nwS 173 2 S) [173, 174, 175, 176, 177, 178, 179, 180, 181, 182, 183, 184, 185, 186, 187, 188, 189, 190, 191, 192, 193, 194, 195, 196, 197, 198, 199, 200, 201, 202, 203, 204, 205] := rfl
abbrev rmX10_again : Room := { frames := 3, cells := 0, slots := 0, locals := 90 }
abbrev rmX10_image : Room := { frames := 3, cells := 33, slots := 761, locals := 90 }
theorem hdX10_again : yX10_again.cls = RX10 ∧ yX10_again.cls ≠ "java/lang/invoke/MethodHandle" ∧ yX10_again.cls ≠ "java/lang/invoke/VarHandle" ∧ (parseMethodDescriptor yX10_again.desc).map (fun d => d.parameters.length) = some 1 := by decide +kernel
theorem hdX10_image : yX10_image.cls = RX10 ∧ yX10_image.cls ≠ "java/lang/invoke/MethodHandle" ∧ yX10_image.cls ≠ "java/lang/invoke/VarHandle" ∧ (parseMethodDescriptor yX10_image.desc).map (fun d => d.parameters.length) = some 1 := by decide +kernel
set_option maxHeartbeats 4000000 in
set_option maxRecDepth 100000 in
theorem mX10_again_no (l : Launch) (D : va_G) (b : Nat → Nat) (ids : List Nat) (hI : ∀ i, i < 107 → i ∈ ids) (N : Nat) (S : ns_S) (x : Int32) (hx : fX10_isWithin N x 0 2 = some 0) : ns_M l yX10_again wsX10_again rmX10_again D b ids S [.ref (b 0), .int x] (some (.int 0)) S := by
  refine ns_start (Wr := []) (by decide) rfl (Nat.le_of_ble_eq_true rfl) ?_
  intro p e s m below meth c A ls C hr hlk w hl
  have hl : lv_has ls 2 [(0, .ref (b 0)), (1, .int x)] := hl
  have w : cW D A s.heap (ns_wl D b S ids) s.heap [] := ⟨w.1, w.2.1, w.2.2.1.1, w.2.2.1.2⟩
  refine lv_iload_n C.1.1 C.1.2.1 dX10_again_0 rfl (lv_at hl 1 rfl) ?_
  refine lv_iconst (v := 0) C.1.1 C.1.2.1 dX10_again_1 (by decide) ?_
  refine lv_iconst (v := 2) C.1.1 C.1.2.1 dX10_again_2 (by decide) ?_
  refine lw_callS C w [.int x, .int 0, .int 2] (mX10_isWithin l D b ids hI N S x 0 2 hx) gX10_again_X10_isWithin rfl rfl rfl hdX10_isWithin ⟨Nat.le_of_ble_eq_true rfl, Nat.le_of_ble_eq_true rfl⟩ rfl hl.1 rfl (Nat.le_of_ble_eq_true rfl) ⟨Nat.le_of_ble_eq_true rfl, Nat.le_of_ble_eq_true rfl⟩ dX10_again_3 (fun H locs w => ?_)
  refine lv_if_eq (tgt := 18) C.1.1 C.1.2.1 dX10_again_6 (by decide) (fun _ => ?_) (fun h => absurd rfl h)
  refine lv_iconst (v := 0) C.1.1 C.1.2.1 dX10_again_18 (by decide) ?_
  exact lw_rt C w hr hlk rfl dX10_again_19
set_option maxHeartbeats 4000000 in
set_option maxRecDepth 100000 in
theorem mX10_again_null (l : Launch) (D : va_G) (b : Nat → Nat) (ids : List Nat) (hI : ∀ i, i < 107 → i ∈ ids) (N : Nat) (S : ns_S) (x : Int32) (k : Nat) (hk : k < 3) (hxk : x = nI k) (hf : S.2.2.2 k = false) : ns_M l yX10_again wsX10_again rmX10_again D b ids S [.ref (b 0), .int x] (some (.int 0)) S := by
  have hx : fX10_isWithin N x 0 2 = some 1 := by
    rw [hxk]
    rcases in2 (N := N) (nI k) (lo := 0) (hi := 2) (by decide) (by decide) with ⟨k2, -, -, -, h, -⟩ | ⟨-, -, h⟩
    · exact h
    · exact absurd rfl (h k (Nat.zero_le _) (by omega))
  refine ns_start (Wr := []) (by decide) rfl (Nat.le_of_ble_eq_true rfl) ?_
  intro p e s m below meth c A ls C hr hlk w hl
  have hl : lv_has ls 2 [(0, .ref (b 0)), (1, .int x)] := hl
  have w : cW D A s.heap (ns_wl D b S ids) s.heap [] := ⟨w.1, w.2.1, w.2.2.1.1, w.2.2.1.2⟩
  refine lv_iload_n C.1.1 C.1.2.1 dX10_again_0 rfl (lv_at hl 1 rfl) ?_
  refine lv_iconst (v := 0) C.1.1 C.1.2.1 dX10_again_1 (by decide) ?_
  refine lv_iconst (v := 2) C.1.1 C.1.2.1 dX10_again_2 (by decide) ?_
  refine lw_callS C w [.int x, .int 0, .int 2] (mX10_isWithin l D b ids hI N S x 0 2 hx) gX10_again_X10_isWithin rfl rfl rfl hdX10_isWithin ⟨Nat.le_of_ble_eq_true rfl, Nat.le_of_ble_eq_true rfl⟩ rfl hl.1 rfl (Nat.le_of_ble_eq_true rfl) ⟨Nat.le_of_ble_eq_true rfl, Nat.le_of_ble_eq_true rfl⟩ dX10_again_3 (fun H locs w => ?_)
  refine lv_if_eq (tgt := 18) C.1.1 C.1.2.1 dX10_again_6 (by decide) (fun h => absurd h (by decide)) (fun _ => ?_)
  refine lv_aload_n C.1.1 C.1.2.1 dX10_again_9 rfl (lv_at hl 0 rfl) ?_
  refine ns_getr C (lw_ns w) 0 (hI 0 (by decide)) sh_0 (rfl : vwCl[10]? = some (RX10, TX10, 6)) (fun _ h => List.mem_cons_of_mem _ (List.mem_append_left _ (List.mem_append_left _ (List.mem_append_left _ (List.mem_append_left _ (List.mem_append_left _ (List.mem_append_left _ (List.mem_append_left _ (List.mem_append_right _ h))))))))) 5 (by decide) rfl (List.mem_of_getElem? (i := 1) rfl) dX10_again_10 ?_
  refine lv_iload_n C.1.1 C.1.2.1 dX10_again_13 rfl (lv_at hl 1 rfl) ?_
  refine lw_aald (v := .null) C w (hI 61 (by decide)) hk (by unfold imF; rw [if_neg (by rw [hf]; decide)]; rfl) hxk dX10_again_14 ?_
  refine lv_ifnonnullN C.1.1 C.1.2.1 dX10_again_15 ?_
  refine lv_iconst (v := 0) C.1.1 C.1.2.1 dX10_again_18 (by decide) ?_
  exact lw_rt C w hr hlk rfl dX10_again_19
set_option maxHeartbeats 4000000 in
set_option maxRecDepth 100000 in
theorem mX10_again_0 (l : Launch) (D : va_G) (b : Nat → Nat) (ids : List Nat) (hI : ∀ i, i < 107 → i ∈ ids) (N : Nat) (S : ns_S) (hJ : ∀ i, 107 ≤ i → i < 140 → i ∈ ids) (x : Int32) (hxk : x = nI 0) (hf : S.2.2.2 0 = true) : ns_M l yX10_again wsX10_again rmX10_again D b ids S [.ref (b 0), .int x] (some (.int 1)) (cpD 28 S (cpT S 107 28)) := by
  have hk : 0 < 3 := by decide
  have hx : fX10_isWithin N x 0 2 = some 1 := by
    rw [hxk]
    rcases in2 (N := N) (nI 0) (lo := 0) (hi := 2) (by decide) (by decide) with ⟨k2, -, -, -, h, -⟩ | ⟨-, -, h⟩
    · exact h
    · exact absurd rfl (h 0 (Nat.zero_le _) (by omega))
  refine ns_start (Wr := []) (by decide) rfl (Nat.le_of_ble_eq_true rfl) ?_
  intro p e s m below meth c A ls C hr hlk w hl
  have hl : lv_has ls 2 [(0, .ref (b 0)), (1, .int x)] := hl
  have w : cW D A s.heap (ns_wl D b S ids) s.heap [] := ⟨w.1, w.2.1, w.2.2.1.1, w.2.2.1.2⟩
  refine lv_iload_n C.1.1 C.1.2.1 dX10_again_0 rfl (lv_at hl 1 rfl) ?_
  refine lv_iconst (v := 0) C.1.1 C.1.2.1 dX10_again_1 (by decide) ?_
  refine lv_iconst (v := 2) C.1.1 C.1.2.1 dX10_again_2 (by decide) ?_
  refine lw_callS C w [.int x, .int 0, .int 2] (mX10_isWithin l D b ids hI N S x 0 2 hx) gX10_again_X10_isWithin rfl rfl rfl hdX10_isWithin ⟨Nat.le_of_ble_eq_true rfl, Nat.le_of_ble_eq_true rfl⟩ rfl hl.1 rfl (Nat.le_of_ble_eq_true rfl) ⟨Nat.le_of_ble_eq_true rfl, Nat.le_of_ble_eq_true rfl⟩ dX10_again_3 (fun H locs w => ?_)
  refine lv_if_eq (tgt := 18) C.1.1 C.1.2.1 dX10_again_6 (by decide) (fun h => absurd h (by decide)) (fun _ => ?_)
  refine lv_aload_n C.1.1 C.1.2.1 dX10_again_9 rfl (lv_at hl 0 rfl) ?_
  refine ns_getr C (lw_ns w) 0 (hI 0 (by decide)) sh_0 (rfl : vwCl[10]? = some (RX10, TX10, 6)) (fun _ h => List.mem_cons_of_mem _ (List.mem_append_left _ (List.mem_append_left _ (List.mem_append_left _ (List.mem_append_left _ (List.mem_append_left _ (List.mem_append_left _ (List.mem_append_left _ (List.mem_append_right _ h))))))))) 5 (by decide) rfl (List.mem_of_getElem? (i := 1) rfl) dX10_again_10 ?_
  refine lv_iload_n C.1.1 C.1.2.1 dX10_again_13 rfl (lv_at hl 1 rfl) ?_
  have hv : va_rf (imF b S 0) = .ref (b 107) := by unfold imF; rw [if_pos hf]; rfl
  refine lw_aald (k := 0) (v := .ref (b 107)) C w (hI 61 (by decide)) hk hv hxk dX10_again_14 ?_
  refine lv_ifnonnull (tgt := 20) C.1.1 C.1.2.1 dX10_again_15 (by decide) ?_
  refine lv_aload_n C.1.1 C.1.2.1 dX10_again_20 rfl (lv_at hl 0 rfl) ?_
  refine ns_getr C (lw_ns w) 0 (hI 0 (by decide)) sh_0 (rfl : vwCl[10]? = some (RX10, TX10, 6)) (fun _ h => List.mem_cons_of_mem _ (List.mem_append_left _ (List.mem_append_left _ (List.mem_append_left _ (List.mem_append_left _ (List.mem_append_left _ (List.mem_append_left _ (List.mem_append_left _ (List.mem_append_right _ h))))))))) 4 (by decide) rfl (List.mem_of_getElem? (i := 2) rfl) dX10_again_21 ?_
  refine lv_aload_n C.1.1 C.1.2.1 dX10_again_24 rfl (lv_at hl 0 rfl) ?_
  refine ns_getr C (lw_ns w) 0 (hI 0 (by decide)) sh_0 (rfl : vwCl[10]? = some (RX10, TX10, 6)) (fun _ h => List.mem_cons_of_mem _ (List.mem_append_left _ (List.mem_append_left _ (List.mem_append_left _ (List.mem_append_left _ (List.mem_append_left _ (List.mem_append_left _ (List.mem_append_left _ (List.mem_append_right _ h))))))))) 5 (by decide) rfl (List.mem_of_getElem? (i := 1) rfl) dX10_again_25 ?_
  refine lv_iload_n C.1.1 C.1.2.1 dX10_again_28 rfl (lv_at hl 1 rfl) ?_
  refine lw_aald (k := 0) (v := .ref (b 107)) C w (hI 61 (by decide)) hk hv hxk dX10_again_29 ?_
  refine lw_callV C w 28 (hI 28 (by decide)) sh_28 (rfl : vwCl[6]? = some (RX6, TX6, 6)) [.ref (b 107)] (S1 := cpD 28 S (cpT S 107 28)) (mX6_copyFrom_28_107 l D b ids hI hJ N S (cpF_eq N S 107 28)) gX10_again_X6_copyFrom rfl rfl rfl hdX6_copyFrom ⟨Nat.le_of_ble_eq_true rfl, Nat.le_of_ble_eq_true rfl⟩ rfl hl.1 rfl (Nat.le_of_ble_eq_true rfl) ⟨Nat.le_of_ble_eq_true rfl, Nat.le_of_ble_eq_true rfl⟩ dX10_again_30 (fun H locs w => ?_)
  refine lv_iconst (v := 1) C.1.1 C.1.2.1 dX10_again_33 (by decide) ?_
  exact lw_rt C w hr hlk rfl dX10_again_34
set_option maxHeartbeats 4000000 in
set_option maxRecDepth 100000 in
theorem mX10_again_1 (l : Launch) (D : va_G) (b : Nat → Nat) (ids : List Nat) (hI : ∀ i, i < 107 → i ∈ ids) (N : Nat) (S : ns_S) (hJ : ∀ i, 140 ≤ i → i < 173 → i ∈ ids) (x : Int32) (hxk : x = nI 1) (hf : S.2.2.2 1 = true) : ns_M l yX10_again wsX10_again rmX10_again D b ids S [.ref (b 0), .int x] (some (.int 1)) (cpD 28 S (cpT S 140 28)) := by
  have hk : 1 < 3 := by decide
  have hx : fX10_isWithin N x 0 2 = some 1 := by
    rw [hxk]
    rcases in2 (N := N) (nI 1) (lo := 0) (hi := 2) (by decide) (by decide) with ⟨k2, -, -, -, h, -⟩ | ⟨-, -, h⟩
    · exact h
    · exact absurd rfl (h 1 (Nat.zero_le _) (by omega))
  refine ns_start (Wr := []) (by decide) rfl (Nat.le_of_ble_eq_true rfl) ?_
  intro p e s m below meth c A ls C hr hlk w hl
  have hl : lv_has ls 2 [(0, .ref (b 0)), (1, .int x)] := hl
  have w : cW D A s.heap (ns_wl D b S ids) s.heap [] := ⟨w.1, w.2.1, w.2.2.1.1, w.2.2.1.2⟩
  refine lv_iload_n C.1.1 C.1.2.1 dX10_again_0 rfl (lv_at hl 1 rfl) ?_
  refine lv_iconst (v := 0) C.1.1 C.1.2.1 dX10_again_1 (by decide) ?_
  refine lv_iconst (v := 2) C.1.1 C.1.2.1 dX10_again_2 (by decide) ?_
  refine lw_callS C w [.int x, .int 0, .int 2] (mX10_isWithin l D b ids hI N S x 0 2 hx) gX10_again_X10_isWithin rfl rfl rfl hdX10_isWithin ⟨Nat.le_of_ble_eq_true rfl, Nat.le_of_ble_eq_true rfl⟩ rfl hl.1 rfl (Nat.le_of_ble_eq_true rfl) ⟨Nat.le_of_ble_eq_true rfl, Nat.le_of_ble_eq_true rfl⟩ dX10_again_3 (fun H locs w => ?_)
  refine lv_if_eq (tgt := 18) C.1.1 C.1.2.1 dX10_again_6 (by decide) (fun h => absurd h (by decide)) (fun _ => ?_)
  refine lv_aload_n C.1.1 C.1.2.1 dX10_again_9 rfl (lv_at hl 0 rfl) ?_
  refine ns_getr C (lw_ns w) 0 (hI 0 (by decide)) sh_0 (rfl : vwCl[10]? = some (RX10, TX10, 6)) (fun _ h => List.mem_cons_of_mem _ (List.mem_append_left _ (List.mem_append_left _ (List.mem_append_left _ (List.mem_append_left _ (List.mem_append_left _ (List.mem_append_left _ (List.mem_append_left _ (List.mem_append_right _ h))))))))) 5 (by decide) rfl (List.mem_of_getElem? (i := 1) rfl) dX10_again_10 ?_
  refine lv_iload_n C.1.1 C.1.2.1 dX10_again_13 rfl (lv_at hl 1 rfl) ?_
  have hv : va_rf (imF b S 1) = .ref (b 140) := by unfold imF; rw [if_pos hf]; rfl
  refine lw_aald (k := 1) (v := .ref (b 140)) C w (hI 61 (by decide)) hk hv hxk dX10_again_14 ?_
  refine lv_ifnonnull (tgt := 20) C.1.1 C.1.2.1 dX10_again_15 (by decide) ?_
  refine lv_aload_n C.1.1 C.1.2.1 dX10_again_20 rfl (lv_at hl 0 rfl) ?_
  refine ns_getr C (lw_ns w) 0 (hI 0 (by decide)) sh_0 (rfl : vwCl[10]? = some (RX10, TX10, 6)) (fun _ h => List.mem_cons_of_mem _ (List.mem_append_left _ (List.mem_append_left _ (List.mem_append_left _ (List.mem_append_left _ (List.mem_append_left _ (List.mem_append_left _ (List.mem_append_left _ (List.mem_append_right _ h))))))))) 4 (by decide) rfl (List.mem_of_getElem? (i := 2) rfl) dX10_again_21 ?_
  refine lv_aload_n C.1.1 C.1.2.1 dX10_again_24 rfl (lv_at hl 0 rfl) ?_
  refine ns_getr C (lw_ns w) 0 (hI 0 (by decide)) sh_0 (rfl : vwCl[10]? = some (RX10, TX10, 6)) (fun _ h => List.mem_cons_of_mem _ (List.mem_append_left _ (List.mem_append_left _ (List.mem_append_left _ (List.mem_append_left _ (List.mem_append_left _ (List.mem_append_left _ (List.mem_append_left _ (List.mem_append_right _ h))))))))) 5 (by decide) rfl (List.mem_of_getElem? (i := 1) rfl) dX10_again_25 ?_
  refine lv_iload_n C.1.1 C.1.2.1 dX10_again_28 rfl (lv_at hl 1 rfl) ?_
  refine lw_aald (k := 1) (v := .ref (b 140)) C w (hI 61 (by decide)) hk hv hxk dX10_again_29 ?_
  refine lw_callV C w 28 (hI 28 (by decide)) sh_28 (rfl : vwCl[6]? = some (RX6, TX6, 6)) [.ref (b 140)] (S1 := cpD 28 S (cpT S 140 28)) (mX6_copyFrom_28_140 l D b ids hI hJ N S (cpF_eq N S 140 28)) gX10_again_X6_copyFrom rfl rfl rfl hdX6_copyFrom ⟨Nat.le_of_ble_eq_true rfl, Nat.le_of_ble_eq_true rfl⟩ rfl hl.1 rfl (Nat.le_of_ble_eq_true rfl) ⟨Nat.le_of_ble_eq_true rfl, Nat.le_of_ble_eq_true rfl⟩ dX10_again_30 (fun H locs w => ?_)
  refine lv_iconst (v := 1) C.1.1 C.1.2.1 dX10_again_33 (by decide) ?_
  exact lw_rt C w hr hlk rfl dX10_again_34
set_option maxHeartbeats 4000000 in
set_option maxRecDepth 100000 in
theorem mX10_again_2 (l : Launch) (D : va_G) (b : Nat → Nat) (ids : List Nat) (hI : ∀ i, i < 107 → i ∈ ids) (N : Nat) (S : ns_S) (hJ : ∀ i, 173 ≤ i → i < 206 → i ∈ ids) (x : Int32) (hxk : x = nI 2) (hf : S.2.2.2 2 = true) : ns_M l yX10_again wsX10_again rmX10_again D b ids S [.ref (b 0), .int x] (some (.int 1)) (cpD 28 S (cpT S 173 28)) := by
  have hk : 2 < 3 := by decide
  have hx : fX10_isWithin N x 0 2 = some 1 := by
    rw [hxk]
    rcases in2 (N := N) (nI 2) (lo := 0) (hi := 2) (by decide) (by decide) with ⟨k2, -, -, -, h, -⟩ | ⟨-, -, h⟩
    · exact h
    · exact absurd rfl (h 2 (Nat.zero_le _) (by omega))
  refine ns_start (Wr := []) (by decide) rfl (Nat.le_of_ble_eq_true rfl) ?_
  intro p e s m below meth c A ls C hr hlk w hl
  have hl : lv_has ls 2 [(0, .ref (b 0)), (1, .int x)] := hl
  have w : cW D A s.heap (ns_wl D b S ids) s.heap [] := ⟨w.1, w.2.1, w.2.2.1.1, w.2.2.1.2⟩
  refine lv_iload_n C.1.1 C.1.2.1 dX10_again_0 rfl (lv_at hl 1 rfl) ?_
  refine lv_iconst (v := 0) C.1.1 C.1.2.1 dX10_again_1 (by decide) ?_
  refine lv_iconst (v := 2) C.1.1 C.1.2.1 dX10_again_2 (by decide) ?_
  refine lw_callS C w [.int x, .int 0, .int 2] (mX10_isWithin l D b ids hI N S x 0 2 hx) gX10_again_X10_isWithin rfl rfl rfl hdX10_isWithin ⟨Nat.le_of_ble_eq_true rfl, Nat.le_of_ble_eq_true rfl⟩ rfl hl.1 rfl (Nat.le_of_ble_eq_true rfl) ⟨Nat.le_of_ble_eq_true rfl, Nat.le_of_ble_eq_true rfl⟩ dX10_again_3 (fun H locs w => ?_)
  refine lv_if_eq (tgt := 18) C.1.1 C.1.2.1 dX10_again_6 (by decide) (fun h => absurd h (by decide)) (fun _ => ?_)
  refine lv_aload_n C.1.1 C.1.2.1 dX10_again_9 rfl (lv_at hl 0 rfl) ?_
  refine ns_getr C (lw_ns w) 0 (hI 0 (by decide)) sh_0 (rfl : vwCl[10]? = some (RX10, TX10, 6)) (fun _ h => List.mem_cons_of_mem _ (List.mem_append_left _ (List.mem_append_left _ (List.mem_append_left _ (List.mem_append_left _ (List.mem_append_left _ (List.mem_append_left _ (List.mem_append_left _ (List.mem_append_right _ h))))))))) 5 (by decide) rfl (List.mem_of_getElem? (i := 1) rfl) dX10_again_10 ?_
  refine lv_iload_n C.1.1 C.1.2.1 dX10_again_13 rfl (lv_at hl 1 rfl) ?_
  have hv : va_rf (imF b S 2) = .ref (b 173) := by unfold imF; rw [if_pos hf]; rfl
  refine lw_aald (k := 2) (v := .ref (b 173)) C w (hI 61 (by decide)) hk hv hxk dX10_again_14 ?_
  refine lv_ifnonnull (tgt := 20) C.1.1 C.1.2.1 dX10_again_15 (by decide) ?_
  refine lv_aload_n C.1.1 C.1.2.1 dX10_again_20 rfl (lv_at hl 0 rfl) ?_
  refine ns_getr C (lw_ns w) 0 (hI 0 (by decide)) sh_0 (rfl : vwCl[10]? = some (RX10, TX10, 6)) (fun _ h => List.mem_cons_of_mem _ (List.mem_append_left _ (List.mem_append_left _ (List.mem_append_left _ (List.mem_append_left _ (List.mem_append_left _ (List.mem_append_left _ (List.mem_append_left _ (List.mem_append_right _ h))))))))) 4 (by decide) rfl (List.mem_of_getElem? (i := 2) rfl) dX10_again_21 ?_
  refine lv_aload_n C.1.1 C.1.2.1 dX10_again_24 rfl (lv_at hl 0 rfl) ?_
  refine ns_getr C (lw_ns w) 0 (hI 0 (by decide)) sh_0 (rfl : vwCl[10]? = some (RX10, TX10, 6)) (fun _ h => List.mem_cons_of_mem _ (List.mem_append_left _ (List.mem_append_left _ (List.mem_append_left _ (List.mem_append_left _ (List.mem_append_left _ (List.mem_append_left _ (List.mem_append_left _ (List.mem_append_right _ h))))))))) 5 (by decide) rfl (List.mem_of_getElem? (i := 1) rfl) dX10_again_25 ?_
  refine lv_iload_n C.1.1 C.1.2.1 dX10_again_28 rfl (lv_at hl 1 rfl) ?_
  refine lw_aald (k := 2) (v := .ref (b 173)) C w (hI 61 (by decide)) hk hv hxk dX10_again_29 ?_
  refine lw_callV C w 28 (hI 28 (by decide)) sh_28 (rfl : vwCl[6]? = some (RX6, TX6, 6)) [.ref (b 173)] (S1 := cpD 28 S (cpT S 173 28)) (mX6_copyFrom_28_173 l D b ids hI hJ N S (cpF_eq N S 173 28)) gX10_again_X6_copyFrom rfl rfl rfl hdX6_copyFrom ⟨Nat.le_of_ble_eq_true rfl, Nat.le_of_ble_eq_true rfl⟩ rfl hl.1 rfl (Nat.le_of_ble_eq_true rfl) ⟨Nat.le_of_ble_eq_true rfl, Nat.le_of_ble_eq_true rfl⟩ dX10_again_30 (fun H locs w => ?_)
  refine lv_iconst (v := 1) C.1.1 C.1.2.1 dX10_again_33 (by decide) ?_
  exact lw_rt C w hr hlk rfl dX10_again_34
set_option maxHeartbeats 4000000 in
set_option maxRecDepth 100000 in
theorem mX10_image_no (l : Launch) (D : va_G) (b : Nat → Nat) (ids : List Nat) (hI : ∀ i, i < 107 → i ∈ ids) (N : Nat) (S : ns_S) (x : Int32) (hx : fX10_isWithin N x 0 2 = some 0) : ns_M l yX10_image wsX10_image { frames := 3, cells := 0, slots := 0, locals := 90 } D b ids S [.ref (b 0), .int x] (some (.int 0)) S := by
  refine ns_start (Wr := []) (by decide) rfl (Nat.le_of_ble_eq_true rfl) ?_
  intro p e s m below meth c A ls C hr hlk w hl
  have hl : lv_has ls 2 [(0, .ref (b 0)), (1, .int x)] := hl
  have w : cW D A s.heap (ns_wl D b S ids) s.heap [] := ⟨w.1, w.2.1, w.2.2.1.1, w.2.2.1.2⟩
  refine lv_iload_n C.1.1 C.1.2.1 dX10_image_0 rfl (lv_at hl 1 rfl) ?_
  refine lv_iconst (v := 0) C.1.1 C.1.2.1 dX10_image_1 (by decide) ?_
  refine lv_iconst (v := 2) C.1.1 C.1.2.1 dX10_image_2 (by decide) ?_
  refine lw_callS C w [.int x, .int 0, .int 2] (mX10_isWithin l D b ids hI N S x 0 2 hx) gX10_image_X10_isWithin rfl rfl rfl hdX10_isWithin ⟨Nat.le_of_ble_eq_true rfl, Nat.le_of_ble_eq_true rfl⟩ rfl hl.1 rfl (Nat.le_of_ble_eq_true rfl) ⟨Nat.le_of_ble_eq_true rfl, Nat.le_of_ble_eq_true rfl⟩ dX10_image_3 (fun H locs w => ?_)
  refine lv_if_ne (tgt := 11) C.1.1 C.1.2.1 dX10_image_6 (by decide) (fun h => absurd rfl h) (fun _ => ?_)
  refine lv_iconst (v := 0) C.1.1 C.1.2.1 dX10_image_9 (by decide) ?_
  exact lw_rt C w hr hlk rfl dX10_image_10
/-- what image leaves: a state S1 that differs from S in the image's cells alone, copied over them -/
def imP (D : va_G) (b : Nat → Nat) (S : ns_S) (k : Nat) (A : Nat → Prop) (t : State) : Prop := ∃ (S1 : ns_S) (b' : Nat → Nat) (ids' : List Nat), (∀ i, i < 107 + 33 * k ∨ 107 + 33 * k + 33 ≤ i → S1.2.1 i = S.2.1 i) ∧ (∀ u, u < 64 * (107 + 33 * k) ∨ 64 * (107 + 33 * k + 33) ≤ u → S1.1 u = S.1 u) ∧ S1.2.2.2 = va_up S.2.2.2 k true ∧ b' 0 = b 0 ∧ b' 62 = b 62 ∧ idsOK ids' S1 ∧ va_P D vwCl (ns_wl D b' (cpD (107 + 33 * k) S1 (cpT S1 28 (107 + 33 * k))) ids') t.heap ∧ va_K D vwCl (ns_ty D) t ∧ va_D A (ns_wl D b' (cpD (107 + 33 * k) S1 (cpT S1 28 (107 + 33 * k))) ids')
def imM (l : Launch) (D : va_G) (b : Nat → Nat) (ids : List Nat) (S : ns_S) (k : Nat) : Prop := ∀ sz : Nat, Met l yX10_image wsX10_image rmX10_image (va_Pc [.ref (b 0), .int (nI k)] (fun U => ns_P D b ids S sz U ∧ cN U)) (fun _ st o t => (o = .returned (some (.int 1)) ∧ imP D b S k (va_A (ns_wl D b S ids) sz) t) ∧ va_F (va_A (ns_wl D b S ids) sz) st t) 33 761 (va_A (ns_wl D b S ids) sz)
set_option maxHeartbeats 4000000 in
set_option maxRecDepth 100000 in
theorem mX10_image_0 (l : Launch) (D : va_G) (b : Nat → Nat) (ids : List Nat) (N : Nat) (S : ns_S) (ho : idsOK ids S) : imM l D b ids S 0 := by
  have hk : 0 < 3 := by decide
  have hI : ∀ i, i < 107 → i ∈ ids := fun i h => (ho i).mpr (Or.inl h)
  have hx : fX10_isWithin N (nI 0) 0 2 = some 1 := by
    rcases in2 (N := N) (nI 0) (lo := 0) (hi := 2) (by decide) (by decide) with ⟨k2, -, -, -, h, -⟩ | ⟨-, -, h⟩
    · exact h
    · exact absurd rfl (h 0 (Nat.zero_le _) (by omega))
  intro sz
  refine Met.ofW (cc := cX10_image) (maxL := 2) (ret := some .boolean) (by decide) rfl ?_
  intro p e s m args below meth c s₁ B0 hml hv
  obtain ⟨rfl, ⟨hsz, hP, hK, hD, hst⟩, hN⟩ := hv
  have hts := atoms_spec (ws := wsX10_image) B0.pre
  have hown : s.vm.findClass yX10_image.cls = some m.cls := findClass_of_methodNamed B0.named
  have hl := lv_entry ([.ref (b 0), .int (nI 0)]) (n := 2) (Nat.le_of_ble_eq_true rfl)
  rw [lg_entry_eq]
  generalize (lg_sl ([.ref (b 0), .int (nI 0)]) ++ List.replicate (2 - (lg_sl ([.ref (b 0), .int (nI 0)])).length) Slot.unset).toArray = ls at hl ⊢
  have hl : lv_has ls 2 [(0, .ref (b 0)), (1, .int (nI 0))] := hl
  subst hsz
  have hr := B0.returns
  have hlk := B0.notSynchronized
  have w : cW D (va_A (ns_wl D b S ids) s.heap.size) s.heap (ns_wl D b S ids) s.heap [] := ⟨hP, hD.self, va_S.rf, fun q h => Or.inr h⟩
  generalize va_A (ns_wl D b S ids) s.heap.size = A at w hst ⊢
  have C : ns_C p m c cX10_image 2 s [.ref (b 0), .int (nI 0)].toArray wsX10_image RX10 D A := ⟨⟨B0.exec, B0.bytes, hml, hown, hts⟩, hK, hst⟩
  have tail : ∀ (S1 : ns_S) (b' : Nat → Nat) (ids' : List Nat) (H : Heap) (locs : List Loc) (cl sl : Nat), cl ≤ 33 → sl ≤ 761 → b' 0 = b 0 → b' 62 = b 62 → (∀ i, i < 107 + 33 * 0 ∨ 107 + 33 * 0 + 33 ≤ i → S1.2.1 i = S.2.1 i) → (∀ u, u < 64 * (107 + 33 * 0) ∨ 64 * (107 + 33 * 0 + 33) ≤ u → S1.1 u = S.1 u) → S1.2.2.2 = va_up S.2.2.2 0 true → idsOK ids' S1 → cW D A s.heap (ns_wl D b' S1 ids') H locs → W p l e rmX10_image s m [Value.ref (b 0), .int (nI 0)].toArray below meth c H locs cl sl (MQ below (fun _ st o t => (o = .returned (some (.int 1)) ∧ imP D b S 0 A t) ∧ va_F A st t) [Value.ref (b 0), .int (nI 0)].toArray s 33 761 A) (F0 m 33 ls []) := by
    intro S1 b' ids' H locs cl sl g1 g2 g3 g4 g5 g6 g7 g8 w
    have hI' : ∀ i, i < 107 → i ∈ ids' := fun i h => (g8 i).mpr (Or.inl h)
    have hJ' : ∀ i, 107 ≤ i → i < 140 → i ∈ ids' := fun i h1 h2 => (g8 i).mpr (Or.inr ⟨0, hk, by rw [g7, va_up_self], h1, h2⟩)
    have hv : va_rf (imF b' S1 0) = .ref (b' 107) := by unfold imF; rw [if_pos (by rw [g7, va_up_self])]; rfl
    rw [← g3] at hl
    refine W.widen (k := 33) (n := 761) g1 g2 ?_
    refine lv_aload_n C.1.1 C.1.2.1 dX10_image_33 rfl (lv_at hl 0 rfl) ?_
    refine ns_getr C (lw_ns w) 0 (hI' 0 (by decide)) sh_0 (rfl : vwCl[10]? = some (RX10, TX10, 6)) (fun _ h => List.mem_cons_of_mem _ (List.mem_append_left _ (List.mem_append_left _ (List.mem_append_left _ (List.mem_append_left _ (List.mem_append_left _ (List.mem_append_left _ (List.mem_append_left _ (List.mem_append_right _ h))))))))) 5 (by decide) rfl (List.mem_of_getElem? (i := 1) rfl) dX10_image_34 ?_
    refine lv_iload_n C.1.1 C.1.2.1 dX10_image_37 rfl (lv_at hl 1 rfl) ?_
    refine lw_aald (k := 0) (v := .ref (b' 107)) C w (hI' 61 (by decide)) hk hv rfl dX10_image_38 ?_
    refine lv_aload_n C.1.1 C.1.2.1 dX10_image_39 rfl (lv_at hl 0 rfl) ?_
    refine ns_getr C (lw_ns w) 0 (hI' 0 (by decide)) sh_0 (rfl : vwCl[10]? = some (RX10, TX10, 6)) (fun _ h => List.mem_cons_of_mem _ (List.mem_append_left _ (List.mem_append_left _ (List.mem_append_left _ (List.mem_append_left _ (List.mem_append_left _ (List.mem_append_left _ (List.mem_append_left _ (List.mem_append_right _ h))))))))) 4 (by decide) rfl (List.mem_of_getElem? (i := 5) rfl) dX10_image_40 ?_
    refine lw_callV C w 107 (hJ' 107 (by decide) (by decide)) sh_107 (rfl : vwCl[6]? = some (RX6, TX6, 6)) [.ref (b' 28)] (S1 := cpD 107 S1 (cpT S1 28 107)) (mX6_copyFrom_107_28 l D b' ids' hI' hJ' N S1 (cpF_eq N S1 28 107)) gX10_image_X6_copyFrom rfl rfl rfl hdX6_copyFrom ⟨Nat.le_of_ble_eq_true rfl, Nat.le_of_ble_eq_true rfl⟩ rfl hl.1 rfl (Nat.le_of_ble_eq_true rfl) ⟨Nat.le_of_ble_eq_true rfl, Nat.le_of_ble_eq_true rfl⟩ dX10_image_43 (fun H locs w => ?_)
    refine lv_iconst (v := 1) C.1.1 C.1.2.1 dX10_image_46 (by decide) ?_
    exact W.zret C.1.1 C.1.2.1 hr rfl (fun t ht hW => ⟨⟨rfl, S1, b', ids', g5, g6, g7, g3, g4, g8, by rw [ht]; exact w.1, va_K.moved hW.alike hK, w.2.1⟩, w.2.2.1.F ht⟩) w.2.2.1.2.2 dX10_image_47 hlk
  refine lv_iload_n C.1.1 C.1.2.1 dX10_image_0 rfl (lv_at hl 1 rfl) ?_
  refine lv_iconst (v := 0) C.1.1 C.1.2.1 dX10_image_1 (by decide) ?_
  refine lv_iconst (v := 2) C.1.1 C.1.2.1 dX10_image_2 (by decide) ?_
  refine lw_callS C w [.int (nI 0), .int 0, .int 2] (mX10_isWithin l D b ids hI N S (nI 0) 0 2 hx) gX10_image_X10_isWithin rfl rfl rfl hdX10_isWithin ⟨Nat.le_of_ble_eq_true rfl, Nat.le_of_ble_eq_true rfl⟩ rfl hl.1 rfl (Nat.le_of_ble_eq_true rfl) ⟨Nat.le_of_ble_eq_true rfl, Nat.le_of_ble_eq_true rfl⟩ dX10_image_3 (fun H locs w => ?_)
  refine lv_if_ne (tgt := 11) C.1.1 C.1.2.1 dX10_image_6 (by decide) (fun _ => ?_) (fun h => absurd h (by decide))
  refine lv_aload_n C.1.1 C.1.2.1 dX10_image_11 rfl (lv_at hl 0 rfl) ?_
  refine ns_getr C (lw_ns w) 0 (hI 0 (by decide)) sh_0 (rfl : vwCl[10]? = some (RX10, TX10, 6)) (fun _ h => List.mem_cons_of_mem _ (List.mem_append_left _ (List.mem_append_left _ (List.mem_append_left _ (List.mem_append_left _ (List.mem_append_left _ (List.mem_append_left _ (List.mem_append_left _ (List.mem_append_right _ h))))))))) 5 (by decide) rfl (List.mem_of_getElem? (i := 1) rfl) dX10_image_12 ?_
  refine lv_iload_n C.1.1 C.1.2.1 dX10_image_15 rfl (lv_at hl 1 rfl) ?_
  cases hf : S.2.2.2 0 with
  | true =>
    refine lw_aald (k := 0) (v := .ref (b 107)) C w (hI 61 (by decide)) hk (by unfold imF; rw [if_pos hf]; rfl) rfl dX10_image_16 ?_
    refine lv_ifnonnull (tgt := 33) C.1.1 C.1.2.1 dX10_image_17 (by decide) ?_
    exact tail S b ids H locs 0 0 (Nat.zero_le _) (Nat.zero_le _) rfl rfl (fun _ _ => rfl) (fun _ _ => rfl) (funext fun j => if q : j = 0 then (by rw [q, va_up_self]; exact hf) else (by rw [va_up_ne _ _ q])) ho w
  | false =>
    refine lw_aald (k := 0) (v := .null) C w (hI 61 (by decide)) hk (by unfold imF; rw [if_neg (by rw [hf]; decide)]; rfl) rfl dX10_image_16 ?_
    refine lv_ifnonnullN C.1.1 C.1.2.1 dX10_image_17 ?_
    refine lv_aload_n C.1.1 C.1.2.1 dX10_image_20 rfl (lv_at hl 0 rfl) ?_
    refine ns_getr C (lw_ns w) 0 (hI 0 (by decide)) sh_0 (rfl : vwCl[10]? = some (RX10, TX10, 6)) (fun _ h => List.mem_cons_of_mem _ (List.mem_append_left _ (List.mem_append_left _ (List.mem_append_left _ (List.mem_append_left _ (List.mem_append_left _ (List.mem_append_left _ (List.mem_append_left _ (List.mem_append_right _ h))))))))) 5 (by decide) rfl (List.mem_of_getElem? (i := 1) rfl) dX10_image_21 ?_
    refine lv_iload_n C.1.1 C.1.2.1 dX10_image_24 rfl (lv_at hl 1 rfl) ?_
    have hDw := w.2.1
    refine cn_new (fs := [.null, .null, .null, .null, .null, .null]) C.1 hK w (fun _ h => List.mem_cons_of_mem _ (List.mem_append_left _ (List.mem_append_left _ (List.mem_append_left _ (List.mem_append_left _ (List.mem_append_left _ (List.mem_append_left _ (List.mem_append_right _ h)))))))) tyX6_ok (rfl : vwCl[6]? = some (RX6, TX6, 6)) (List.mem_of_getElem? (i := 2) rfl) (List.mem_of_getElem? (i := 3) rfl) (List.mem_of_getElem? (i := 4) rfl) hfX6 (cells' := 1) (slots' := 6) rfl rfl (Nat.le_of_ble_eq_true rfl) (Nat.le_of_ble_eq_true rfl) dX10_image_25 (fun q1 H w => ?_)
    refine lv_dup C.1.1 C.1.2.1 dX10_image_28 rfl ?_
    refine cn_callN (h0 := q1) (WK := WX6 D) C.1 hK hN w (iX6 l D q1) gX10_image_X6_init_n29 rfl rfl rfl (List.mem_of_getElem? (i := 4) rfl) (List.mem_of_getElem? (i := 2) rfl) (List.mem_of_getElem? (i := 10) rfl) rfl hdX6_init ⟨Nat.le_of_ble_eq_true rfl, Nat.le_of_ble_eq_true rfl⟩ hl.1 (Nat.le_of_ble_eq_true rfl) (cells' := 33) (slots' := 761) rfl rfl (Nat.le_of_ble_eq_true rfl) (Nat.le_of_ble_eq_true rfl) dX10_image_29 (fun u H locs hu wN => ?_)
    subst hu
    obtain ⟨q0, hq, he⟩ := ns_at D b S (hI 61 (by decide))
    rw [ce_61] at he
    have hq0 : q0 < (ns_wl D b S ids).length := (List.getElem?_eq_some_iff.mp he).1
    refine va_astq C.1.1 C.1.2.1 hK wN.1 wN.2.1 wN.2.2.1 q0 4 (ns_wl D b S ids).length 6 (r := (RX6, TX6, 6)) (by rw [List.getElem?_append_left hq0]; exact he) rfl (by rw [List.getElem?_append_right (Nat.le_refl _), Nat.sub_self]; rfl) rfl (vp_in_nI hk (by decide)) dX10_image_32 (fun H locs h1 h2 h3 => ?_)
    rw [nI_clamp (by decide), List.set_append_left _ _ hq0, nw_old (k := 0) hk ho hf hDw hq, nw_new0 D u b S] at h1 h2
    have e2 : ns_wl D (nwb 107 u b) (nwS 107 0 S) ids ++ ns_wl D (nwb 107 u b) (nwS 107 0 S) [107, 108, 109, 110, 111, 112, 113, 114, 115, 116, 117, 118, 119, 120, 121, 122, 123, 124, 125, 126, 127, 128, 129, 130, 131, 132, 133, 134, 135, 136, 137, 138, 139] = ns_wl D (nwb 107 u b) (nwS 107 0 S) (ids ++ [107, 108, 109, 110, 111, 112, 113, 114, 115, 116, 117, 118, 119, 120, 121, 122, 123, 124, 125, 126, 127, 128, 129, 130, 131, 132, 133, 134, 135, 136, 137, 138, 139]) := (List.map_append ..).symm
    have h1 : va_P D vwCl (ns_wl D (nwb 107 u b) (nwS 107 0 S) (ids ++ [107, 108, 109, 110, 111, 112, 113, 114, 115, 116, 117, 118, 119, 120, 121, 122, 123, 124, 125, 126, 127, 128, 129, 130, 131, 132, 133, 134, 135, 136, 137, 138, 139])) H := by rw [← e2]; exact h1
    have h2 : va_D A (ns_wl D (nwb 107 u b) (nwS 107 0 S) (ids ++ [107, 108, 109, 110, 111, 112, 113, 114, 115, 116, 117, 118, 119, 120, 121, 122, 123, 124, 125, 126, 127, 128, 129, 130, 131, 132, 133, 134, 135, 136, 137, 138, 139])) := by rw [← e2]; exact h2
    refine tail (nwS 107 0 S) (nwb 107 u b) _ H locs 33 761 (Nat.le_refl _) (Nat.le_refl _) rfl rfl (fun i h => nwS_row h) (fun v h => nwS_fld h) rfl (fun i => ?_) ⟨h1, h2, h3, wN.2.2.2⟩
    show i ∈ ids ++ _ ↔ (i < 107 ∨ ∃ m, m < 3 ∧ va_up S.2.2.2 0 true m = true ∧ 107 + 33 * m ≤ i ∧ i < 107 + 33 * m + 33)
    rw [List.mem_append, ho i]
    have hin : i ∈ [107, 108, 109, 110, 111, 112, 113, 114, 115, 116, 117, 118, 119, 120, 121, 122, 123, 124, 125, 126, 127, 128, 129, 130, 131, 132, 133, 134, 135, 136, 137, 138, 139] ↔ (107 ≤ i ∧ i < 140) := by simp only [List.mem_cons, List.not_mem_nil, or_false]; omega
    rw [hin]
    constructor
    · rintro ((h | ⟨m, m1, m2, m3⟩) | h)
      · exact Or.inl h
      · exact Or.inr ⟨m, m1, if q : m = 0 then (by rw [q, va_up_self]) else (by rw [va_up_ne _ _ q]; exact m2), m3⟩
      · exact Or.inr ⟨0, hk, va_up_self _ _ _, h⟩
    · rintro (h | ⟨m, m1, m2, m3⟩)
      · exact Or.inl (Or.inl h)
      · by_cases q : m = 0
        · subst q; exact Or.inr m3
        · rw [va_up_ne _ _ q] at m2; exact Or.inl (Or.inr ⟨m, m1, m2, m3⟩)
set_option maxHeartbeats 4000000 in
set_option maxRecDepth 100000 in
theorem mX10_image_1 (l : Launch) (D : va_G) (b : Nat → Nat) (ids : List Nat) (N : Nat) (S : ns_S) (ho : idsOK ids S) : imM l D b ids S 1 := by
  have hk : 1 < 3 := by decide
  have hI : ∀ i, i < 107 → i ∈ ids := fun i h => (ho i).mpr (Or.inl h)
  have hx : fX10_isWithin N (nI 1) 0 2 = some 1 := by
    rcases in2 (N := N) (nI 1) (lo := 0) (hi := 2) (by decide) (by decide) with ⟨k2, -, -, -, h, -⟩ | ⟨-, -, h⟩
    · exact h
    · exact absurd rfl (h 1 (Nat.zero_le _) (by omega))
  intro sz
  refine Met.ofW (cc := cX10_image) (maxL := 2) (ret := some .boolean) (by decide) rfl ?_
  intro p e s m args below meth c s₁ B0 hml hv
  obtain ⟨rfl, ⟨hsz, hP, hK, hD, hst⟩, hN⟩ := hv
  have hts := atoms_spec (ws := wsX10_image) B0.pre
  have hown : s.vm.findClass yX10_image.cls = some m.cls := findClass_of_methodNamed B0.named
  have hl := lv_entry ([.ref (b 0), .int (nI 1)]) (n := 2) (Nat.le_of_ble_eq_true rfl)
  rw [lg_entry_eq]
  generalize (lg_sl ([.ref (b 0), .int (nI 1)]) ++ List.replicate (2 - (lg_sl ([.ref (b 0), .int (nI 1)])).length) Slot.unset).toArray = ls at hl ⊢
  have hl : lv_has ls 2 [(0, .ref (b 0)), (1, .int (nI 1))] := hl
  subst hsz
  have hr := B0.returns
  have hlk := B0.notSynchronized
  have w : cW D (va_A (ns_wl D b S ids) s.heap.size) s.heap (ns_wl D b S ids) s.heap [] := ⟨hP, hD.self, va_S.rf, fun q h => Or.inr h⟩
  generalize va_A (ns_wl D b S ids) s.heap.size = A at w hst ⊢
  have C : ns_C p m c cX10_image 2 s [.ref (b 0), .int (nI 1)].toArray wsX10_image RX10 D A := ⟨⟨B0.exec, B0.bytes, hml, hown, hts⟩, hK, hst⟩
  have tail : ∀ (S1 : ns_S) (b' : Nat → Nat) (ids' : List Nat) (H : Heap) (locs : List Loc) (cl sl : Nat), cl ≤ 33 → sl ≤ 761 → b' 0 = b 0 → b' 62 = b 62 → (∀ i, i < 107 + 33 * 1 ∨ 107 + 33 * 1 + 33 ≤ i → S1.2.1 i = S.2.1 i) → (∀ u, u < 64 * (107 + 33 * 1) ∨ 64 * (107 + 33 * 1 + 33) ≤ u → S1.1 u = S.1 u) → S1.2.2.2 = va_up S.2.2.2 1 true → idsOK ids' S1 → cW D A s.heap (ns_wl D b' S1 ids') H locs → W p l e rmX10_image s m [Value.ref (b 0), .int (nI 1)].toArray below meth c H locs cl sl (MQ below (fun _ st o t => (o = .returned (some (.int 1)) ∧ imP D b S 1 A t) ∧ va_F A st t) [Value.ref (b 0), .int (nI 1)].toArray s 33 761 A) (F0 m 33 ls []) := by
    intro S1 b' ids' H locs cl sl g1 g2 g3 g4 g5 g6 g7 g8 w
    have hI' : ∀ i, i < 107 → i ∈ ids' := fun i h => (g8 i).mpr (Or.inl h)
    have hJ' : ∀ i, 140 ≤ i → i < 173 → i ∈ ids' := fun i h1 h2 => (g8 i).mpr (Or.inr ⟨1, hk, by rw [g7, va_up_self], h1, h2⟩)
    have hv : va_rf (imF b' S1 1) = .ref (b' 140) := by unfold imF; rw [if_pos (by rw [g7, va_up_self])]; rfl
    rw [← g3] at hl
    refine W.widen (k := 33) (n := 761) g1 g2 ?_
    refine lv_aload_n C.1.1 C.1.2.1 dX10_image_33 rfl (lv_at hl 0 rfl) ?_
    refine ns_getr C (lw_ns w) 0 (hI' 0 (by decide)) sh_0 (rfl : vwCl[10]? = some (RX10, TX10, 6)) (fun _ h => List.mem_cons_of_mem _ (List.mem_append_left _ (List.mem_append_left _ (List.mem_append_left _ (List.mem_append_left _ (List.mem_append_left _ (List.mem_append_left _ (List.mem_append_left _ (List.mem_append_right _ h))))))))) 5 (by decide) rfl (List.mem_of_getElem? (i := 1) rfl) dX10_image_34 ?_
    refine lv_iload_n C.1.1 C.1.2.1 dX10_image_37 rfl (lv_at hl 1 rfl) ?_
    refine lw_aald (k := 1) (v := .ref (b' 140)) C w (hI' 61 (by decide)) hk hv rfl dX10_image_38 ?_
    refine lv_aload_n C.1.1 C.1.2.1 dX10_image_39 rfl (lv_at hl 0 rfl) ?_
    refine ns_getr C (lw_ns w) 0 (hI' 0 (by decide)) sh_0 (rfl : vwCl[10]? = some (RX10, TX10, 6)) (fun _ h => List.mem_cons_of_mem _ (List.mem_append_left _ (List.mem_append_left _ (List.mem_append_left _ (List.mem_append_left _ (List.mem_append_left _ (List.mem_append_left _ (List.mem_append_left _ (List.mem_append_right _ h))))))))) 4 (by decide) rfl (List.mem_of_getElem? (i := 5) rfl) dX10_image_40 ?_
    refine lw_callV C w 140 (hJ' 140 (by decide) (by decide)) sh_140 (rfl : vwCl[6]? = some (RX6, TX6, 6)) [.ref (b' 28)] (S1 := cpD 140 S1 (cpT S1 28 140)) (mX6_copyFrom_140_28 l D b' ids' hI' hJ' N S1 (cpF_eq N S1 28 140)) gX10_image_X6_copyFrom rfl rfl rfl hdX6_copyFrom ⟨Nat.le_of_ble_eq_true rfl, Nat.le_of_ble_eq_true rfl⟩ rfl hl.1 rfl (Nat.le_of_ble_eq_true rfl) ⟨Nat.le_of_ble_eq_true rfl, Nat.le_of_ble_eq_true rfl⟩ dX10_image_43 (fun H locs w => ?_)
    refine lv_iconst (v := 1) C.1.1 C.1.2.1 dX10_image_46 (by decide) ?_
    exact W.zret C.1.1 C.1.2.1 hr rfl (fun t ht hW => ⟨⟨rfl, S1, b', ids', g5, g6, g7, g3, g4, g8, by rw [ht]; exact w.1, va_K.moved hW.alike hK, w.2.1⟩, w.2.2.1.F ht⟩) w.2.2.1.2.2 dX10_image_47 hlk
  refine lv_iload_n C.1.1 C.1.2.1 dX10_image_0 rfl (lv_at hl 1 rfl) ?_
  refine lv_iconst (v := 0) C.1.1 C.1.2.1 dX10_image_1 (by decide) ?_
  refine lv_iconst (v := 2) C.1.1 C.1.2.1 dX10_image_2 (by decide) ?_
  refine lw_callS C w [.int (nI 1), .int 0, .int 2] (mX10_isWithin l D b ids hI N S (nI 1) 0 2 hx) gX10_image_X10_isWithin rfl rfl rfl hdX10_isWithin ⟨Nat.le_of_ble_eq_true rfl, Nat.le_of_ble_eq_true rfl⟩ rfl hl.1 rfl (Nat.le_of_ble_eq_true rfl) ⟨Nat.le_of_ble_eq_true rfl, Nat.le_of_ble_eq_true rfl⟩ dX10_image_3 (fun H locs w => ?_)
  refine lv_if_ne (tgt := 11) C.1.1 C.1.2.1 dX10_image_6 (by decide) (fun _ => ?_) (fun h => absurd h (by decide))
  refine lv_aload_n C.1.1 C.1.2.1 dX10_image_11 rfl (lv_at hl 0 rfl) ?_
  refine ns_getr C (lw_ns w) 0 (hI 0 (by decide)) sh_0 (rfl : vwCl[10]? = some (RX10, TX10, 6)) (fun _ h => List.mem_cons_of_mem _ (List.mem_append_left _ (List.mem_append_left _ (List.mem_append_left _ (List.mem_append_left _ (List.mem_append_left _ (List.mem_append_left _ (List.mem_append_left _ (List.mem_append_right _ h))))))))) 5 (by decide) rfl (List.mem_of_getElem? (i := 1) rfl) dX10_image_12 ?_
  refine lv_iload_n C.1.1 C.1.2.1 dX10_image_15 rfl (lv_at hl 1 rfl) ?_
  cases hf : S.2.2.2 1 with
  | true =>
    refine lw_aald (k := 1) (v := .ref (b 140)) C w (hI 61 (by decide)) hk (by unfold imF; rw [if_pos hf]; rfl) rfl dX10_image_16 ?_
    refine lv_ifnonnull (tgt := 33) C.1.1 C.1.2.1 dX10_image_17 (by decide) ?_
    exact tail S b ids H locs 0 0 (Nat.zero_le _) (Nat.zero_le _) rfl rfl (fun _ _ => rfl) (fun _ _ => rfl) (funext fun j => if q : j = 1 then (by rw [q, va_up_self]; exact hf) else (by rw [va_up_ne _ _ q])) ho w
  | false =>
    refine lw_aald (k := 1) (v := .null) C w (hI 61 (by decide)) hk (by unfold imF; rw [if_neg (by rw [hf]; decide)]; rfl) rfl dX10_image_16 ?_
    refine lv_ifnonnullN C.1.1 C.1.2.1 dX10_image_17 ?_
    refine lv_aload_n C.1.1 C.1.2.1 dX10_image_20 rfl (lv_at hl 0 rfl) ?_
    refine ns_getr C (lw_ns w) 0 (hI 0 (by decide)) sh_0 (rfl : vwCl[10]? = some (RX10, TX10, 6)) (fun _ h => List.mem_cons_of_mem _ (List.mem_append_left _ (List.mem_append_left _ (List.mem_append_left _ (List.mem_append_left _ (List.mem_append_left _ (List.mem_append_left _ (List.mem_append_left _ (List.mem_append_right _ h))))))))) 5 (by decide) rfl (List.mem_of_getElem? (i := 1) rfl) dX10_image_21 ?_
    refine lv_iload_n C.1.1 C.1.2.1 dX10_image_24 rfl (lv_at hl 1 rfl) ?_
    have hDw := w.2.1
    refine cn_new (fs := [.null, .null, .null, .null, .null, .null]) C.1 hK w (fun _ h => List.mem_cons_of_mem _ (List.mem_append_left _ (List.mem_append_left _ (List.mem_append_left _ (List.mem_append_left _ (List.mem_append_left _ (List.mem_append_left _ (List.mem_append_right _ h)))))))) tyX6_ok (rfl : vwCl[6]? = some (RX6, TX6, 6)) (List.mem_of_getElem? (i := 2) rfl) (List.mem_of_getElem? (i := 3) rfl) (List.mem_of_getElem? (i := 4) rfl) hfX6 (cells' := 1) (slots' := 6) rfl rfl (Nat.le_of_ble_eq_true rfl) (Nat.le_of_ble_eq_true rfl) dX10_image_25 (fun q1 H w => ?_)
    refine lv_dup C.1.1 C.1.2.1 dX10_image_28 rfl ?_
    refine cn_callN (h0 := q1) (WK := WX6 D) C.1 hK hN w (iX6 l D q1) gX10_image_X6_init_n29 rfl rfl rfl (List.mem_of_getElem? (i := 4) rfl) (List.mem_of_getElem? (i := 2) rfl) (List.mem_of_getElem? (i := 10) rfl) rfl hdX6_init ⟨Nat.le_of_ble_eq_true rfl, Nat.le_of_ble_eq_true rfl⟩ hl.1 (Nat.le_of_ble_eq_true rfl) (cells' := 33) (slots' := 761) rfl rfl (Nat.le_of_ble_eq_true rfl) (Nat.le_of_ble_eq_true rfl) dX10_image_29 (fun u H locs hu wN => ?_)
    subst hu
    obtain ⟨q0, hq, he⟩ := ns_at D b S (hI 61 (by decide))
    rw [ce_61] at he
    have hq0 : q0 < (ns_wl D b S ids).length := (List.getElem?_eq_some_iff.mp he).1
    refine va_astq C.1.1 C.1.2.1 hK wN.1 wN.2.1 wN.2.2.1 q0 4 (ns_wl D b S ids).length 6 (r := (RX6, TX6, 6)) (by rw [List.getElem?_append_left hq0]; exact he) rfl (by rw [List.getElem?_append_right (Nat.le_refl _), Nat.sub_self]; rfl) rfl (vp_in_nI hk (by decide)) dX10_image_32 (fun H locs h1 h2 h3 => ?_)
    rw [nI_clamp (by decide), List.set_append_left _ _ hq0, nw_old (k := 1) hk ho hf hDw hq, nw_new1 D u b S] at h1 h2
    have e2 : ns_wl D (nwb 140 u b) (nwS 140 1 S) ids ++ ns_wl D (nwb 140 u b) (nwS 140 1 S) [140, 141, 142, 143, 144, 145, 146, 147, 148, 149, 150, 151, 152, 153, 154, 155, 156, 157, 158, 159, 160, 161, 162, 163, 164, 165, 166, 167, 168, 169, 170, 171, 172] = ns_wl D (nwb 140 u b) (nwS 140 1 S) (ids ++ [140, 141, 142, 143, 144, 145, 146, 147, 148, 149, 150, 151, 152, 153, 154, 155, 156, 157, 158, 159, 160, 161, 162, 163, 164, 165, 166, 167, 168, 169, 170, 171, 172]) := (List.map_append ..).symm
    have h1 : va_P D vwCl (ns_wl D (nwb 140 u b) (nwS 140 1 S) (ids ++ [140, 141, 142, 143, 144, 145, 146, 147, 148, 149, 150, 151, 152, 153, 154, 155, 156, 157, 158, 159, 160, 161, 162, 163, 164, 165, 166, 167, 168, 169, 170, 171, 172])) H := by rw [← e2]; exact h1
    have h2 : va_D A (ns_wl D (nwb 140 u b) (nwS 140 1 S) (ids ++ [140, 141, 142, 143, 144, 145, 146, 147, 148, 149, 150, 151, 152, 153, 154, 155, 156, 157, 158, 159, 160, 161, 162, 163, 164, 165, 166, 167, 168, 169, 170, 171, 172])) := by rw [← e2]; exact h2
    refine tail (nwS 140 1 S) (nwb 140 u b) _ H locs 33 761 (Nat.le_refl _) (Nat.le_refl _) rfl rfl (fun i h => nwS_row h) (fun v h => nwS_fld h) rfl (fun i => ?_) ⟨h1, h2, h3, wN.2.2.2⟩
    show i ∈ ids ++ _ ↔ (i < 107 ∨ ∃ m, m < 3 ∧ va_up S.2.2.2 1 true m = true ∧ 107 + 33 * m ≤ i ∧ i < 107 + 33 * m + 33)
    rw [List.mem_append, ho i]
    have hin : i ∈ [140, 141, 142, 143, 144, 145, 146, 147, 148, 149, 150, 151, 152, 153, 154, 155, 156, 157, 158, 159, 160, 161, 162, 163, 164, 165, 166, 167, 168, 169, 170, 171, 172] ↔ (140 ≤ i ∧ i < 173) := by simp only [List.mem_cons, List.not_mem_nil, or_false]; omega
    rw [hin]
    constructor
    · rintro ((h | ⟨m, m1, m2, m3⟩) | h)
      · exact Or.inl h
      · exact Or.inr ⟨m, m1, if q : m = 1 then (by rw [q, va_up_self]) else (by rw [va_up_ne _ _ q]; exact m2), m3⟩
      · exact Or.inr ⟨1, hk, va_up_self _ _ _, h⟩
    · rintro (h | ⟨m, m1, m2, m3⟩)
      · exact Or.inl (Or.inl h)
      · by_cases q : m = 1
        · subst q; exact Or.inr m3
        · rw [va_up_ne _ _ q] at m2; exact Or.inl (Or.inr ⟨m, m1, m2, m3⟩)
set_option maxHeartbeats 4000000 in
set_option maxRecDepth 100000 in
theorem mX10_image_2 (l : Launch) (D : va_G) (b : Nat → Nat) (ids : List Nat) (N : Nat) (S : ns_S) (ho : idsOK ids S) : imM l D b ids S 2 := by
  have hk : 2 < 3 := by decide
  have hI : ∀ i, i < 107 → i ∈ ids := fun i h => (ho i).mpr (Or.inl h)
  have hx : fX10_isWithin N (nI 2) 0 2 = some 1 := by
    rcases in2 (N := N) (nI 2) (lo := 0) (hi := 2) (by decide) (by decide) with ⟨k2, -, -, -, h, -⟩ | ⟨-, -, h⟩
    · exact h
    · exact absurd rfl (h 2 (Nat.zero_le _) (by omega))
  intro sz
  refine Met.ofW (cc := cX10_image) (maxL := 2) (ret := some .boolean) (by decide) rfl ?_
  intro p e s m args below meth c s₁ B0 hml hv
  obtain ⟨rfl, ⟨hsz, hP, hK, hD, hst⟩, hN⟩ := hv
  have hts := atoms_spec (ws := wsX10_image) B0.pre
  have hown : s.vm.findClass yX10_image.cls = some m.cls := findClass_of_methodNamed B0.named
  have hl := lv_entry ([.ref (b 0), .int (nI 2)]) (n := 2) (Nat.le_of_ble_eq_true rfl)
  rw [lg_entry_eq]
  generalize (lg_sl ([.ref (b 0), .int (nI 2)]) ++ List.replicate (2 - (lg_sl ([.ref (b 0), .int (nI 2)])).length) Slot.unset).toArray = ls at hl ⊢
  have hl : lv_has ls 2 [(0, .ref (b 0)), (1, .int (nI 2))] := hl
  subst hsz
  have hr := B0.returns
  have hlk := B0.notSynchronized
  have w : cW D (va_A (ns_wl D b S ids) s.heap.size) s.heap (ns_wl D b S ids) s.heap [] := ⟨hP, hD.self, va_S.rf, fun q h => Or.inr h⟩
  generalize va_A (ns_wl D b S ids) s.heap.size = A at w hst ⊢
  have C : ns_C p m c cX10_image 2 s [.ref (b 0), .int (nI 2)].toArray wsX10_image RX10 D A := ⟨⟨B0.exec, B0.bytes, hml, hown, hts⟩, hK, hst⟩
  have tail : ∀ (S1 : ns_S) (b' : Nat → Nat) (ids' : List Nat) (H : Heap) (locs : List Loc) (cl sl : Nat), cl ≤ 33 → sl ≤ 761 → b' 0 = b 0 → b' 62 = b 62 → (∀ i, i < 107 + 33 * 2 ∨ 107 + 33 * 2 + 33 ≤ i → S1.2.1 i = S.2.1 i) → (∀ u, u < 64 * (107 + 33 * 2) ∨ 64 * (107 + 33 * 2 + 33) ≤ u → S1.1 u = S.1 u) → S1.2.2.2 = va_up S.2.2.2 2 true → idsOK ids' S1 → cW D A s.heap (ns_wl D b' S1 ids') H locs → W p l e rmX10_image s m [Value.ref (b 0), .int (nI 2)].toArray below meth c H locs cl sl (MQ below (fun _ st o t => (o = .returned (some (.int 1)) ∧ imP D b S 2 A t) ∧ va_F A st t) [Value.ref (b 0), .int (nI 2)].toArray s 33 761 A) (F0 m 33 ls []) := by
    intro S1 b' ids' H locs cl sl g1 g2 g3 g4 g5 g6 g7 g8 w
    have hI' : ∀ i, i < 107 → i ∈ ids' := fun i h => (g8 i).mpr (Or.inl h)
    have hJ' : ∀ i, 173 ≤ i → i < 206 → i ∈ ids' := fun i h1 h2 => (g8 i).mpr (Or.inr ⟨2, hk, by rw [g7, va_up_self], h1, h2⟩)
    have hv : va_rf (imF b' S1 2) = .ref (b' 173) := by unfold imF; rw [if_pos (by rw [g7, va_up_self])]; rfl
    rw [← g3] at hl
    refine W.widen (k := 33) (n := 761) g1 g2 ?_
    refine lv_aload_n C.1.1 C.1.2.1 dX10_image_33 rfl (lv_at hl 0 rfl) ?_
    refine ns_getr C (lw_ns w) 0 (hI' 0 (by decide)) sh_0 (rfl : vwCl[10]? = some (RX10, TX10, 6)) (fun _ h => List.mem_cons_of_mem _ (List.mem_append_left _ (List.mem_append_left _ (List.mem_append_left _ (List.mem_append_left _ (List.mem_append_left _ (List.mem_append_left _ (List.mem_append_left _ (List.mem_append_right _ h))))))))) 5 (by decide) rfl (List.mem_of_getElem? (i := 1) rfl) dX10_image_34 ?_
    refine lv_iload_n C.1.1 C.1.2.1 dX10_image_37 rfl (lv_at hl 1 rfl) ?_
    refine lw_aald (k := 2) (v := .ref (b' 173)) C w (hI' 61 (by decide)) hk hv rfl dX10_image_38 ?_
    refine lv_aload_n C.1.1 C.1.2.1 dX10_image_39 rfl (lv_at hl 0 rfl) ?_
    refine ns_getr C (lw_ns w) 0 (hI' 0 (by decide)) sh_0 (rfl : vwCl[10]? = some (RX10, TX10, 6)) (fun _ h => List.mem_cons_of_mem _ (List.mem_append_left _ (List.mem_append_left _ (List.mem_append_left _ (List.mem_append_left _ (List.mem_append_left _ (List.mem_append_left _ (List.mem_append_left _ (List.mem_append_right _ h))))))))) 4 (by decide) rfl (List.mem_of_getElem? (i := 5) rfl) dX10_image_40 ?_
    refine lw_callV C w 173 (hJ' 173 (by decide) (by decide)) sh_173 (rfl : vwCl[6]? = some (RX6, TX6, 6)) [.ref (b' 28)] (S1 := cpD 173 S1 (cpT S1 28 173)) (mX6_copyFrom_173_28 l D b' ids' hI' hJ' N S1 (cpF_eq N S1 28 173)) gX10_image_X6_copyFrom rfl rfl rfl hdX6_copyFrom ⟨Nat.le_of_ble_eq_true rfl, Nat.le_of_ble_eq_true rfl⟩ rfl hl.1 rfl (Nat.le_of_ble_eq_true rfl) ⟨Nat.le_of_ble_eq_true rfl, Nat.le_of_ble_eq_true rfl⟩ dX10_image_43 (fun H locs w => ?_)
    refine lv_iconst (v := 1) C.1.1 C.1.2.1 dX10_image_46 (by decide) ?_
    exact W.zret C.1.1 C.1.2.1 hr rfl (fun t ht hW => ⟨⟨rfl, S1, b', ids', g5, g6, g7, g3, g4, g8, by rw [ht]; exact w.1, va_K.moved hW.alike hK, w.2.1⟩, w.2.2.1.F ht⟩) w.2.2.1.2.2 dX10_image_47 hlk
  refine lv_iload_n C.1.1 C.1.2.1 dX10_image_0 rfl (lv_at hl 1 rfl) ?_
  refine lv_iconst (v := 0) C.1.1 C.1.2.1 dX10_image_1 (by decide) ?_
  refine lv_iconst (v := 2) C.1.1 C.1.2.1 dX10_image_2 (by decide) ?_
  refine lw_callS C w [.int (nI 2), .int 0, .int 2] (mX10_isWithin l D b ids hI N S (nI 2) 0 2 hx) gX10_image_X10_isWithin rfl rfl rfl hdX10_isWithin ⟨Nat.le_of_ble_eq_true rfl, Nat.le_of_ble_eq_true rfl⟩ rfl hl.1 rfl (Nat.le_of_ble_eq_true rfl) ⟨Nat.le_of_ble_eq_true rfl, Nat.le_of_ble_eq_true rfl⟩ dX10_image_3 (fun H locs w => ?_)
  refine lv_if_ne (tgt := 11) C.1.1 C.1.2.1 dX10_image_6 (by decide) (fun _ => ?_) (fun h => absurd h (by decide))
  refine lv_aload_n C.1.1 C.1.2.1 dX10_image_11 rfl (lv_at hl 0 rfl) ?_
  refine ns_getr C (lw_ns w) 0 (hI 0 (by decide)) sh_0 (rfl : vwCl[10]? = some (RX10, TX10, 6)) (fun _ h => List.mem_cons_of_mem _ (List.mem_append_left _ (List.mem_append_left _ (List.mem_append_left _ (List.mem_append_left _ (List.mem_append_left _ (List.mem_append_left _ (List.mem_append_left _ (List.mem_append_right _ h))))))))) 5 (by decide) rfl (List.mem_of_getElem? (i := 1) rfl) dX10_image_12 ?_
  refine lv_iload_n C.1.1 C.1.2.1 dX10_image_15 rfl (lv_at hl 1 rfl) ?_
  cases hf : S.2.2.2 2 with
  | true =>
    refine lw_aald (k := 2) (v := .ref (b 173)) C w (hI 61 (by decide)) hk (by unfold imF; rw [if_pos hf]; rfl) rfl dX10_image_16 ?_
    refine lv_ifnonnull (tgt := 33) C.1.1 C.1.2.1 dX10_image_17 (by decide) ?_
    exact tail S b ids H locs 0 0 (Nat.zero_le _) (Nat.zero_le _) rfl rfl (fun _ _ => rfl) (fun _ _ => rfl) (funext fun j => if q : j = 2 then (by rw [q, va_up_self]; exact hf) else (by rw [va_up_ne _ _ q])) ho w
  | false =>
    refine lw_aald (k := 2) (v := .null) C w (hI 61 (by decide)) hk (by unfold imF; rw [if_neg (by rw [hf]; decide)]; rfl) rfl dX10_image_16 ?_
    refine lv_ifnonnullN C.1.1 C.1.2.1 dX10_image_17 ?_
    refine lv_aload_n C.1.1 C.1.2.1 dX10_image_20 rfl (lv_at hl 0 rfl) ?_
    refine ns_getr C (lw_ns w) 0 (hI 0 (by decide)) sh_0 (rfl : vwCl[10]? = some (RX10, TX10, 6)) (fun _ h => List.mem_cons_of_mem _ (List.mem_append_left _ (List.mem_append_left _ (List.mem_append_left _ (List.mem_append_left _ (List.mem_append_left _ (List.mem_append_left _ (List.mem_append_left _ (List.mem_append_right _ h))))))))) 5 (by decide) rfl (List.mem_of_getElem? (i := 1) rfl) dX10_image_21 ?_
    refine lv_iload_n C.1.1 C.1.2.1 dX10_image_24 rfl (lv_at hl 1 rfl) ?_
    have hDw := w.2.1
    refine cn_new (fs := [.null, .null, .null, .null, .null, .null]) C.1 hK w (fun _ h => List.mem_cons_of_mem _ (List.mem_append_left _ (List.mem_append_left _ (List.mem_append_left _ (List.mem_append_left _ (List.mem_append_left _ (List.mem_append_left _ (List.mem_append_right _ h)))))))) tyX6_ok (rfl : vwCl[6]? = some (RX6, TX6, 6)) (List.mem_of_getElem? (i := 2) rfl) (List.mem_of_getElem? (i := 3) rfl) (List.mem_of_getElem? (i := 4) rfl) hfX6 (cells' := 1) (slots' := 6) rfl rfl (Nat.le_of_ble_eq_true rfl) (Nat.le_of_ble_eq_true rfl) dX10_image_25 (fun q1 H w => ?_)
    refine lv_dup C.1.1 C.1.2.1 dX10_image_28 rfl ?_
    refine cn_callN (h0 := q1) (WK := WX6 D) C.1 hK hN w (iX6 l D q1) gX10_image_X6_init_n29 rfl rfl rfl (List.mem_of_getElem? (i := 4) rfl) (List.mem_of_getElem? (i := 2) rfl) (List.mem_of_getElem? (i := 10) rfl) rfl hdX6_init ⟨Nat.le_of_ble_eq_true rfl, Nat.le_of_ble_eq_true rfl⟩ hl.1 (Nat.le_of_ble_eq_true rfl) (cells' := 33) (slots' := 761) rfl rfl (Nat.le_of_ble_eq_true rfl) (Nat.le_of_ble_eq_true rfl) dX10_image_29 (fun u H locs hu wN => ?_)
    subst hu
    obtain ⟨q0, hq, he⟩ := ns_at D b S (hI 61 (by decide))
    rw [ce_61] at he
    have hq0 : q0 < (ns_wl D b S ids).length := (List.getElem?_eq_some_iff.mp he).1
    refine va_astq C.1.1 C.1.2.1 hK wN.1 wN.2.1 wN.2.2.1 q0 4 (ns_wl D b S ids).length 6 (r := (RX6, TX6, 6)) (by rw [List.getElem?_append_left hq0]; exact he) rfl (by rw [List.getElem?_append_right (Nat.le_refl _), Nat.sub_self]; rfl) rfl (vp_in_nI hk (by decide)) dX10_image_32 (fun H locs h1 h2 h3 => ?_)
    rw [nI_clamp (by decide), List.set_append_left _ _ hq0, nw_old (k := 2) hk ho hf hDw hq, nw_new2 D u b S] at h1 h2
    have e2 : ns_wl D (nwb 173 u b) (nwS 173 2 S) ids ++ ns_wl D (nwb 173 u b) (nwS 173 2 S) [173, 174, 175, 176, 177, 178, 179, 180, 181, 182, 183, 184, 185, 186, 187, 188, 189, 190, 191, 192, 193, 194, 195, 196, 197, 198, 199, 200, 201, 202, 203, 204, 205] = ns_wl D (nwb 173 u b) (nwS 173 2 S) (ids ++ [173, 174, 175, 176, 177, 178, 179, 180, 181, 182, 183, 184, 185, 186, 187, 188, 189, 190, 191, 192, 193, 194, 195, 196, 197, 198, 199, 200, 201, 202, 203, 204, 205]) := (List.map_append ..).symm
    have h1 : va_P D vwCl (ns_wl D (nwb 173 u b) (nwS 173 2 S) (ids ++ [173, 174, 175, 176, 177, 178, 179, 180, 181, 182, 183, 184, 185, 186, 187, 188, 189, 190, 191, 192, 193, 194, 195, 196, 197, 198, 199, 200, 201, 202, 203, 204, 205])) H := by rw [← e2]; exact h1
    have h2 : va_D A (ns_wl D (nwb 173 u b) (nwS 173 2 S) (ids ++ [173, 174, 175, 176, 177, 178, 179, 180, 181, 182, 183, 184, 185, 186, 187, 188, 189, 190, 191, 192, 193, 194, 195, 196, 197, 198, 199, 200, 201, 202, 203, 204, 205])) := by rw [← e2]; exact h2
    refine tail (nwS 173 2 S) (nwb 173 u b) _ H locs 33 761 (Nat.le_refl _) (Nat.le_refl _) rfl rfl (fun i h => nwS_row h) (fun v h => nwS_fld h) rfl (fun i => ?_) ⟨h1, h2, h3, wN.2.2.2⟩
    show i ∈ ids ++ _ ↔ (i < 107 ∨ ∃ m, m < 3 ∧ va_up S.2.2.2 2 true m = true ∧ 107 + 33 * m ≤ i ∧ i < 107 + 33 * m + 33)
    rw [List.mem_append, ho i]
    have hin : i ∈ [173, 174, 175, 176, 177, 178, 179, 180, 181, 182, 183, 184, 185, 186, 187, 188, 189, 190, 191, 192, 193, 194, 195, 196, 197, 198, 199, 200, 201, 202, 203, 204, 205] ↔ (173 ≤ i ∧ i < 206) := by simp only [List.mem_cons, List.not_mem_nil, or_false]; omega
    rw [hin]
    constructor
    · rintro ((h | ⟨m, m1, m2, m3⟩) | h)
      · exact Or.inl h
      · exact Or.inr ⟨m, m1, if q : m = 2 then (by rw [q, va_up_self]) else (by rw [va_up_ne _ _ q]; exact m2), m3⟩
      · exact Or.inr ⟨2, hk, va_up_self _ _ _, h⟩
    · rintro (h | ⟨m, m1, m2, m3⟩)
      · exact Or.inl (Or.inl h)
      · by_cases q : m = 2
        · subst q; exact Or.inr m3
        · rw [va_up_ne _ _ q] at m2; exact Or.inl (Or.inr ⟨m, m1, m2, m3⟩)
