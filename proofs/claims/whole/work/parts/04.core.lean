/-! THE STATE: int fields by number, int rows by cell, long fields, which images there are -/
abbrev ns_S : Type := (Nat → Int32) × (Nat → Nat → Int32) × (Nat → Int64) × (Nat → Bool)
def ns_I (S : ns_S) (u : Nat) (v : Int32) : ns_S := (va_up S.1 u v, S.2)
def ns_A (S : ns_S) (u : Nat) (f : Nat → Int32) : ns_S := (S.1, va_up S.2.1 u f, S.2.2)
def ns_L (S : ns_S) (u : Nat) (v : Int64) : ns_S := (S.1, S.2.1, va_up S.2.2.1 u v, S.2.2.2)
def ns_fv (b : Nat → Nat) (S : ns_S) (f : ns_F) : Value := match f with
  | .inl u => .int (S.1 u)
  | .inr (.inl i) => .ref (b i)
  | .inr (.inr u) => .long (S.2.2.1 u)
def ns_ce (D : va_G) (b : Nat → Nat) (S : ns_S) (i : Nat) : va_E := match ns_shp i with
  | .inl (k, n) => if k = 2 then .inl (D.1 102, n, .inr (.inl ns_wd)) else if k = 4 then .inl (D.1 104, n, .inr (.inr (.inr (.inr (fun j => if S.2.2.2 j = true then some (b (ns_img j)) else none))))) else .inl (D.1 (100 + k), n, .inl (S.2.1 i))
  | .inr (ci, fs) => .inr (ci, fs.map (ns_fv b S))
def ns_wl (D : va_G) (b : Nat → Nat) (S : ns_S) (ids : List Nat) : va_W := ids.map fun i => (b i, ns_ce D b S i)
/-- what the tables say of the rows' classes -/
def ns_ty (D : va_G) : List (ClassId × FieldType) := [(D.1 100, .int), (D.1 101, .byte), (D.1 102, .long), (D.1 103, .boolean), (D.1 104, .object "NightSchool$School")]
/-- S is S0 but for what W names: (0, field), (1, row), (2, long field) -/
def ns_ag (W : List (Nat × Nat)) (S0 S : ns_S) : Prop := (∀ u, (0, u) ∉ W → S.1 u = S0.1 u) ∧ (∀ u, (1, u) ∉ W → S.2.1 u = S0.2.1 u) ∧ (∀ u, (2, u) ∉ W → S.2.2.1 u = S0.2.2.1 u) ∧ S.2.2.2 = S0.2.2.2
theorem ns_ag.rf {W : List (Nat × Nat)} {S0 : ns_S} : ns_ag W S0 S0 := ⟨fun _ _ => rfl, fun _ _ => rfl, fun _ _ => rfl, rfl⟩
theorem ns_ag.I {W : List (Nat × Nat)} {S0 S : ns_S} (h : ns_ag W S0 S) {u : Nat} (hu : (0, u) ∈ W) (v : Int32) : ns_ag W S0 (ns_I S u v) :=
  ⟨fun z hz => by
    show va_up S.1 u v z = S0.1 z
    rw [va_up_ne _ _ (fun e => hz (by rw [e]; exact hu))]
    exact h.1 z hz, h.2.1, h.2.2.1, h.2.2.2⟩
theorem ns_ag.A {W : List (Nat × Nat)} {S0 S : ns_S} (h : ns_ag W S0 S) {u : Nat} (hu : (1, u) ∈ W) (v : Nat → Int32) : ns_ag W S0 (ns_A S u v) :=
  ⟨h.1, fun z hz => by
    show va_up S.2.1 u v z = S0.2.1 z
    rw [va_up_ne _ _ (fun e => hz (by rw [e]; exact hu))]
    exact h.2.1 z hz, h.2.2.1, h.2.2.2⟩
theorem ns_ag.L {W : List (Nat × Nat)} {S0 S : ns_S} (h : ns_ag W S0 S) {u : Nat} (hu : (2, u) ∈ W) (v : Int64) : ns_ag W S0 (ns_L S u v) :=
  ⟨h.1, h.2.1, fun z hz => by
    show va_up S.2.2.1 u v z = S0.2.2.1 z
    rw [va_up_ne _ _ (fun e => hz (by rw [e]; exact hu))]
    exact h.2.2.1 z hz, h.2.2.2⟩
/-- S0 with what W names as S has it -/
def ns_ups (S0 S : ns_S) : List (Nat × Nat) → ns_S
  | [] => S0
  | (0, u) :: r => ns_I (ns_ups S0 S r) u (S.1 u)
  | (1, u) :: r => ns_A (ns_ups S0 S r) u (S.2.1 u)
  | (_, u) :: r => ns_L (ns_ups S0 S r) u (S.2.2.1 u)
theorem ns_ups_1 (S0 S : ns_S) : ∀ (W : List (Nat × Nat)) (z : Nat), (ns_ups S0 S W).1 z = if (0, z) ∈ W then S.1 z else S0.1 z
  | [], z => by simp [ns_ups]
  | (0, u) :: r, z => by
    show va_up (ns_ups S0 S r).1 u (S.1 u) z = _
    by_cases h : z = u
    · subst h; simp [va_up]
    · rw [va_up_ne _ _ h, ns_ups_1 S0 S r z]; simp [h]
  | (1, u) :: r, z => by
    show (ns_ups S0 S r).1 z = _
    rw [ns_ups_1 S0 S r z]; simp
  | (k + 2, u) :: r, z => by
    show (ns_ups S0 S r).1 z = _
    rw [ns_ups_1 S0 S r z]; simp
theorem ns_ups_2 (S0 S : ns_S) : ∀ (W : List (Nat × Nat)) (z : Nat), (ns_ups S0 S W).2.1 z = if (1, z) ∈ W then S.2.1 z else S0.2.1 z
  | [], z => by simp [ns_ups]
  | (1, u) :: r, z => by
    show va_up (ns_ups S0 S r).2.1 u (S.2.1 u) z = _
    by_cases h : z = u
    · subst h; simp [va_up]
    · rw [va_up_ne _ _ h, ns_ups_2 S0 S r z]; simp [h]
  | (0, u) :: r, z => by
    show (ns_ups S0 S r).2.1 z = _
    rw [ns_ups_2 S0 S r z]; simp
  | (k + 2, u) :: r, z => by
    show (ns_ups S0 S r).2.1 z = _
    rw [ns_ups_2 S0 S r z]; simp
theorem ns_ups_3 (S0 S : ns_S) : ∀ (W : List (Nat × Nat)) (z : Nat), W.all (fun q => q.1 ≤ 2) = true → (ns_ups S0 S W).2.2.1 z = if (2, z) ∈ W then S.2.2.1 z else S0.2.2.1 z
  | [], z, _ => by simp [ns_ups]
  | (0, u) :: r, z, h0 => by
    show (ns_ups S0 S r).2.2.1 z = _
    rw [ns_ups_3 S0 S r z (by simpa using h0)]; simp
  | (1, u) :: r, z, h0 => by
    show (ns_ups S0 S r).2.2.1 z = _
    rw [ns_ups_3 S0 S r z (by simpa using h0)]; simp
  | (2, u) :: r, z, h0 => by
    show va_up (ns_ups S0 S r).2.2.1 u (S.2.2.1 u) z = _
    by_cases h : z = u
    · subst h; simp [va_up]
    · rw [va_up_ne _ _ h, ns_ups_3 S0 S r z (by simpa using h0)]; simp [h]
  | (k + 3, u) :: r, z, h0 => by simp at h0
theorem ns_ups_4 (S0 S : ns_S) : ∀ (W : List (Nat × Nat)), (ns_ups S0 S W).2.2.2 = S0.2.2.2
  | [] => rfl
  | (0, _) :: r => ns_ups_4 S0 S r
  | (1, _) :: r => ns_ups_4 S0 S r
  | (_ + 2, _) :: r => ns_ups_4 S0 S r
theorem ns_ups_eq {W : List (Nat × Nat)} {S0 S : ns_S} (h : ns_ag W S0 S) (hw : W.all (fun q => q.1 ≤ 2) = true) : ns_ups S0 S W = S := by
  refine Prod.ext (funext fun z => ?_) (Prod.ext (funext fun z => ?_) (Prod.ext (funext fun z => ?_) ?_))
  · rw [ns_ups_1]; split
    · rfl
    · exact (h.1 z (by assumption)).symm
  · rw [ns_ups_2]; split
    · rfl
    · exact (h.2.1 z (by assumption)).symm
  · rw [ns_ups_3 _ _ _ _ hw]; split
    · rfl
    · exact (h.2.2.1 z (by assumption)).symm
  · rw [ns_ups_4]; exact h.2.2.2.symm
/-! the table's numbers are in order: a field's number is 64 times its cell's and its place -/
def ns_okb (i : Nat) (h : ns_H) : Bool := match h with
  | .inl _ => true
  | .inr (_, fs) => fs.zipIdx.all fun q => decide (q.2 < 64) && (match q.1 with
    | .inl u => u == 64 * i + q.2
    | .inr (.inl _) => true
    | .inr (.inr u) => u == 64 * i + q.2)
theorem ns_okall : ns_tab.zipIdx.all (fun q => ns_okb q.2 q.1) = true := by decide +kernel
theorem ns_okt {i ci : Nat} {fs : List ns_F} (h : ns_shp i = .inr (ci, fs)) {k : Nat} {f : ns_F} (hf : fs[k]? = some f) : k < 64 ∧ (∀ u, f = .inl u → u = 64 * i + k) ∧ (∀ u, f = .inr (.inr u) → u = 64 * i + k) := by
  have h1 : ns_tab[i]? = some (.inr (ci, fs)) := by
    unfold ns_shp at h
    rw [List.getD_eq_getElem?_getD] at h
    cases e : ns_tab[i]? with
    | none => rw [e] at h; simp at h
    | some x => rw [e] at h; simp at h; rw [h]
  have h2 := List.all_eq_true.mp ns_okall (.inr (ci, fs), i) (List.mem_of_getElem? (i := i) (by rw [List.getElem?_zipIdx, h1]; simp))
  have h3 := List.all_eq_true.mp h2 (f, k) (List.mem_of_getElem? (i := k) (by rw [List.getElem?_zipIdx, hf]; simp))
  simp only [Bool.and_eq_true, decide_eq_true_eq] at h3
  refine ⟨h3.1, fun u e => ?_, fun u e => ?_⟩
  · subst e; simpa using h3.2
  · subst e; simpa using h3.2
theorem ns_ce_a {D : va_G} {b : Nat → Nat} {S : ns_S} {i k n : Nat} (h : ns_shp i = .inl (k, n)) (h2 : k ≠ 2) (h4 : k ≠ 4) : ns_ce D b S i = .inl (D.1 (100 + k), n, .inl (S.2.1 i)) := by
  unfold ns_ce; rw [h]; simp [h2, h4]
theorem ns_ce_o {D : va_G} {b : Nat → Nat} {S : ns_S} {i ci : Nat} {fs : List ns_F} (h : ns_shp i = .inr (ci, fs)) : ns_ce D b S i = .inr (ci, fs.map (ns_fv b S)) := by
  unfold ns_ce; rw [h]
theorem ns_ce_neA {D : va_G} {b : Nat → Nat} {S : ns_S} {u j : Nat} {f : Nat → Int32} (h : j ≠ u) : ns_ce D b (ns_A S u f) j = ns_ce D b S j := by
  unfold ns_ce
  cases ns_shp j with
  | inl x =>
    show (if x.1 = 2 then _ else _) = _
    have e : (ns_A S u f).2.1 j = S.2.1 j := va_up_ne _ _ h
    rw [e]; rfl
  | inr x =>
    show Sum.inr (x.1, x.2.map (ns_fv b (ns_A S u f))) = _
    have e : ns_fv b (ns_A S u f) = ns_fv b S := by
      funext g
      cases g with
      | inl u => rfl
      | inr g => cases g <;> rfl
    rw [e]
theorem ns_ce_neI {D : va_G} {b : Nat → Nat} {S : ns_S} {u j : Nat} {v : Int32} (h : u / 64 ≠ j) : ns_ce D b (ns_I S u v) j = ns_ce D b S j := by
  unfold ns_ce
  cases e : ns_shp j with
  | inl x => rfl
  | inr x =>
    show Sum.inr (x.1, x.2.map (ns_fv b (ns_I S u v))) = _
    have e2 : x.2.map (ns_fv b (ns_I S u v)) = x.2.map (ns_fv b S) := by
      refine List.map_congr_left fun g hg => ?_
      obtain ⟨k, hk⟩ := List.getElem?_of_mem hg
      obtain ⟨h1, h2, -⟩ := ns_okt (show ns_shp j = .inr (x.1, x.2) from e) hk
      cases g with
      | inl z =>
        show Value.int (va_up S.1 u v z) = Value.int (S.1 z)
        rw [va_up_ne]
        intro q
        have := h2 z rfl
        omega
      | inr g => cases g <;> rfl
    rw [e2]
theorem ns_ce_neL {D : va_G} {b : Nat → Nat} {S : ns_S} {u j : Nat} {v : Int64} (h : u / 64 ≠ j) : ns_ce D b (ns_L S u v) j = ns_ce D b S j := by
  unfold ns_ce
  cases e : ns_shp j with
  | inl x => rfl
  | inr x =>
    show Sum.inr (x.1, x.2.map (ns_fv b (ns_L S u v))) = _
    have e2 : x.2.map (ns_fv b (ns_L S u v)) = x.2.map (ns_fv b S) := by
      refine List.map_congr_left fun g hg => ?_
      obtain ⟨k, hk⟩ := List.getElem?_of_mem hg
      obtain ⟨h1, -, h2⟩ := ns_okt (show ns_shp j = .inr (x.1, x.2) from e) hk
      cases g with
      | inl z => rfl
      | inr g =>
        cases g with
        | inl z => rfl
        | inr z =>
          show Value.long (va_up S.2.2.1 u v z) = Value.long (S.2.2.1 z)
          rw [va_up_ne]
          intro q
          have := h2 z rfl
          omega
    rw [e2]
theorem ns_ce_I {D : va_G} {b : Nat → Nat} {S : ns_S} {i ci k u : Nat} {fs : List ns_F} {v : Int32} (h : ns_shp i = .inr (ci, fs)) (hk : fs[k]? = some (.inl u)) : ns_ce D b (ns_I S u v) i = .inr (ci, (fs.map (ns_fv b S)).set k (.int v)) := by
  rw [ns_ce_o h]
  refine congrArg (fun z => Sum.inr (ci, z)) (List.ext_getElem? fun n => ?_)
  rw [List.getElem?_set, List.getElem?_map, List.getElem?_map]
  have e0 := (ns_okt h hk).2.1 u rfl
  by_cases hn : k = n
  · subst hn
    rw [if_pos rfl, hk]
    have hl : k < fs.length := (List.getElem?_eq_some_iff.mp hk).1
    rw [if_pos (by simpa using hl)]
    show some (Value.int (va_up S.1 u v u)) = _
    rw [va_up_self]
  · rw [if_neg hn]
    cases e : fs[n]? with
    | none => rfl
    | some g =>
      have h2 := (ns_okt h e).2.1
      cases g with
      | inl z =>
        show some (Value.int (va_up S.1 u v z)) = some (Value.int (S.1 z))
        rw [va_up_ne]
        intro q
        have := h2 z rfl
        omega
      | inr g => cases g <;> rfl
theorem ns_ce_L {D : va_G} {b : Nat → Nat} {S : ns_S} {i ci k u : Nat} {fs : List ns_F} {v : Int64} (h : ns_shp i = .inr (ci, fs)) (hk : fs[k]? = some (.inr (.inr u))) : ns_ce D b (ns_L S u v) i = .inr (ci, (fs.map (ns_fv b S)).set k (.long v)) := by
  rw [ns_ce_o h]
  refine congrArg (fun z => Sum.inr (ci, z)) (List.ext_getElem? fun n => ?_)
  rw [List.getElem?_set, List.getElem?_map, List.getElem?_map]
  have e0 := (ns_okt h hk).2.2 u rfl
  by_cases hn : k = n
  · subst hn
    rw [if_pos rfl, hk]
    have hl : k < fs.length := (List.getElem?_eq_some_iff.mp hk).1
    rw [if_pos (by simpa using hl)]
    show some (Value.long (va_up S.2.2.1 u v u)) = _
    rw [va_up_self]
  · rw [if_neg hn]
    cases e : fs[n]? with
    | none => rfl
    | some g =>
      have h2 := (ns_okt h e).2.2
      cases g with
      | inl z => rfl
      | inr g =>
        cases g with
        | inl z => rfl
        | inr z =>
          show some (Value.long (va_up S.2.2.1 u v z)) = some (Value.long (S.2.2.1 z))
          rw [va_up_ne]
          intro q
          have := h2 z rfl
          omega
theorem ns_at (D : va_G) (b : Nat → Nat) (S : ns_S) {ids : List Nat} {i : Nat} (hi : i ∈ ids) : ∃ k : Nat, ids[k]? = some i ∧ (ns_wl D b S ids)[k]? = some (b i, ns_ce D b S i) := by
  obtain ⟨k, hk⟩ := List.getElem?_of_mem hi
  exact ⟨k, hk, by simp [ns_wl, hk]⟩
theorem ns_set {D : va_G} {b : Nat → Nat} {S S' : ns_S} {ids : List Nat} {A : Nat → Prop} {k i : Nat} (hD : va_D A (ns_wl D b S ids)) (hk : ids[k]? = some i) (h : ∀ j, j ≠ i → ns_ce D b S' j = ns_ce D b S j) : (ns_wl D b S ids).set k (b i, ns_ce D b S' i) = ns_wl D b S' ids := by
  refine List.ext_getElem? fun n => ?_
  rw [List.getElem?_set]
  by_cases hn : k = n
  · subst hn
    rw [if_pos rfl]
    have hl : k < ids.length := (List.getElem?_eq_some_iff.mp hk).1
    rw [if_pos (by simpa [ns_wl] using hl)]
    simp [ns_wl, hk]
  · rw [if_neg hn]
    cases e : ids[n]? with
    | none => simp [ns_wl, e]
    | some j =>
      have hj : j ≠ i := fun q => hn (hD.1 k n (b i, ns_ce D b S i) (b j, ns_ce D b S j) (by simp [ns_wl, hk]) (by simp [ns_wl, e]) (by rw [q]))
      simp [ns_wl, e, h j hj]
theorem ns_D {D : va_G} {b : Nat → Nat} {S S' : ns_S} {ids : List Nat} {A : Nat → Prop} (hD : va_D A (ns_wl D b S ids)) : va_D A (ns_wl D b S' ids) := by
  refine ⟨fun i j p q hi hj e => ?_, fun k q hk => ?_⟩
  · simp only [ns_wl, List.getElem?_map, Option.map_eq_some_iff] at hi hj
    obtain ⟨a, ha, rfl⟩ := hi
    obtain ⟨a', ha', rfl⟩ := hj
    exact hD.1 i j (b a, ns_ce D b S a) (b a', ns_ce D b S a') (by simp [ns_wl, ha]) (by simp [ns_wl, ha']) e
  · simp only [ns_wl, List.getElem?_map, Option.map_eq_some_iff] at hk
    obtain ⟨a, ha, rfl⟩ := hk
    exact hD.2 k (b a, ns_ce D b S a) (by simp [ns_wl, ha])
theorem ns_Aeq {D : va_G} {b : Nat → Nat} {S S' : ns_S} {ids : List Nat} {sz : Nat} : va_A (ns_wl D b S ids) sz = va_A (ns_wl D b S' ids) sz := by
  funext q
  refine propext ⟨fun h => ?_, fun h => ?_⟩
  all_goals
    rcases h with ⟨k, e, hk⟩ | h
    · simp only [ns_wl, List.getElem?_map, Option.map_eq_some_iff] at hk
      obtain ⟨a, ha, hq⟩ := hk
      left
      have : q = b a := (congrArg Prod.fst hq).symm
      subst this
      exact ⟨k, _, by simp only [ns_wl, List.getElem?_map, ha]; rfl⟩
    · exact Or.inr h
/-! what a row of ints answers, and what a write makes of it -/
def ns_ald (f : Nat → Int32) (n : Nat) (x : Int32) : Option Int32 := if 0 ≤ x ∧ x.toNatClampNeg < n then some (f x.toNatClampNeg) else none
def ns_ast (f : Nat → Int32) (n : Nat) (x v : Int32) : Option (Nat → Int32) := if 0 ≤ x ∧ x.toNatClampNeg < n then some (upd f x.toNatClampNeg v) else none
def ns_lld (f : Nat → Int64) (n : Nat) (x : Int32) : Option Int64 := if 0 ≤ x ∧ x.toNatClampNeg < n then some (f x.toNatClampNeg) else none
def ns_let {α β : Type} (e : α) (k : α → Option β) : Option β := k e
def ns_zb (x : Int32) : Option Int32 := if x = 0 ∨ x = 1 then some x else none
def ns_dv (x y : Int64) : Option Int64 := if y = 0 then none else some (x / y)
def ns_cp (f g : Nat → Int32) (nf ng : Nat) (sp dp n : Int32) : Option (Nat → Int32) := if ¬ sp < 0 ∧ ¬ dp < 0 ∧ ¬ n < 0 ∧ sp.toNatClampNeg + n.toNatClampNeg ≤ nf ∧ dp.toNatClampNeg + n.toNatClampNeg ≤ ng then some (va_cpy f g sp.toNatClampNeg dp.toNatClampNeg n.toNatClampNeg) else none
theorem ns_vp {x : Int32} {n : Nat} (h : 0 ≤ x ∧ x.toNatClampNeg < n) : vp_in x n := fun q => q.elim (fun a => absurd h.1 (Int32.not_le.mpr a)) (fun a => Nat.not_le.mpr h.2 a)
theorem ns_ald_some {f : Nat → Int32} {n : Nat} {x : Int32} {α : Type} {g : Int32 → Option α} {o : α} (h : (ns_ald f n x).bind g = some o) : vp_in x n ∧ g (f x.toNatClampNeg) = some o := by
  unfold ns_ald at h
  split at h
  · exact ⟨ns_vp (by assumption), h⟩
  · cases h
theorem ns_lld_some {f : Nat → Int64} {n : Nat} {x : Int32} {α : Type} {g : Int64 → Option α} {o : α} (h : (ns_lld f n x).bind g = some o) : vp_in x n ∧ g (f x.toNatClampNeg) = some o := by
  unfold ns_lld at h
  split at h
  · exact ⟨ns_vp (by assumption), h⟩
  · cases h
theorem ns_ast_some {f : Nat → Int32} {n : Nat} {x v : Int32} {α : Type} {g : (Nat → Int32) → Option α} {o : α} (h : (ns_ast f n x v).bind g = some o) : vp_in x n ∧ g (upd f x.toNatClampNeg v) = some o := by
  unfold ns_ast at h
  split at h
  · exact ⟨ns_vp (by assumption), h⟩
  · cases h
/-! the String constants of the words of FEES, and two statics: as the Statement gives them at the start -/
def ns_tx : List String := ["when", "and", "age", "purse", "courses", "sum", "first", "week", "add", "less", "part", "least", "most", "free", "end"]
def ns_len : List Nat := [4, 3, 3, 5, 7, 3, 5, 4, 3, 4, 4, 5, 4, 4, 3]
def ns_byt : List (List Int32) := [[119, 104, 101, 110], [97, 110, 100], [97, 103, 101], [112, 117, 114, 115, 101], [99, 111, 117, 114, 115, 101, 115], [115, 117, 109], [102, 105, 114, 115, 116], [119, 101, 101, 107], [97, 100, 100], [108, 101, 115, 115], [112, 97, 114, 116], [108, 101, 97, 115, 116], [109, 111, 115, 116], [102, 114, 101, 101], [101, 110, 100]]
def ns_st (D : va_G) (A : Nat → Prop) (U : State) (H : Heap) : Prop := vk_S 15 ns_len ns_byt (D.2 200) (D.2 201) A U H ∧ (∀ k, k < 15 → vk_R "NightSchool$Tokens" (64 + 2 * k) (ns_tx.getD k "") (D.2 200 k) U) ∧ va_Z "java/lang/String" "COMPACT_STRINGS" "Z" (.int 1) A U H ∧ ∃ v : Option Nat, va_Z "jdk/internal/util/Preconditions" "SIOOBE_FORMATTER" "Ljava/util/function/BiFunction;" (va_rf v) A U H
theorem ns_st.to {D : va_G} {A B : Nat → Prop} {s U : State} {H : Heap} (h : ns_st D A s s.heap) (hW : s.WarmedH U.vm) (hq : ∀ a : Nat, a < s.heap.size → ¬ A a → H[a]? = s.heap[a]?) (hAB : ∀ q, B q → A q) : ns_st D B U H :=
  ⟨((h.1.kept hq).narrow hAB).moved hW.alike, fun k hk => (h.2.1 k hk).warm hW, ((h.2.2.1.kept hq).narrow hAB).moved hW.alike, h.2.2.2.elim fun v hv => ⟨v, ((hv.kept hq).narrow hAB).moved hW.alike⟩⟩
theorem ns_st.same {D : va_G} {A : Nat → Prop} {u U : State} {H : Heap} (hv : U.vm = u.vm) (hal : u.vm.Alike U.vm) (h : ns_st D A u H) : ns_st D A U H :=
  ⟨h.1.moved hal, fun k hk => (h.2.1 k hk).same hv, h.2.2.1.moved hal, h.2.2.2.elim fun v hz => ⟨v, hz.moved hal⟩⟩
/-! THE WORLD, and the judgement of a method over it -/
def ns_W (D : va_G) (b : Nat → Nat) (ids : List Nat) (A : Nat → Prop) (H0 : Heap) (Wr : List (Nat × Nat)) (S0 S : ns_S) (H : Heap) (locs : List Loc) : Prop := va_P D vwCl (ns_wl D b S ids) H ∧ va_D A (ns_wl D b S ids) ∧ (va_S A H0 H locs ∧ ∀ q, H0.size ≤ q → A q) ∧ ns_ag Wr S0 S
def ns_Q (D : va_G) (b : Nat → Nat) (ids : List Nat) (S : ns_S) (ret : Option Value) (A : Nat → Prop) : Array Value → State → Outcome → State → Prop := fun _ st o t => (o = .returned ret ∧ va_P D vwCl (ns_wl D b S ids) t.heap ∧ va_K D vwCl (ns_ty D) t) ∧ va_F A st t
def ns_P (D : va_G) (b : Nat → Nat) (ids : List Nat) (S : ns_S) (sz : Nat) : State → Prop := fun U => U.heap.size = sz ∧ va_P D vwCl (ns_wl D b S ids) U.heap ∧ va_K D vwCl (ns_ty D) U ∧ va_D (fun _ => True) (ns_wl D b S ids) ∧ ns_st D (va_A (ns_wl D b S ids) sz) U U.heap
/-- METHOD y, with these values, at state S: it answers ret, and leaves state S' -/
def ns_M (l : Launch) (y : MethodName) (ws : List Cond) (rm : Room) (D : va_G) (b : Nat → Nat) (ids : List Nat) (S : ns_S) (vals : List Value) (ret : Option Value) (S' : ns_S) : Prop :=
  ∀ sz : Nat, Met l y ws rm (va_Pc vals (ns_P D b ids S sz)) (ns_Q D b ids S' ret (va_A (ns_wl D b S ids) sz)) 0 0 (va_A (ns_wl D b S ids) sz)
section NS1
variable {p : Program} {l : Launch} {e : Env} {R : Room} {s : State} {m : MethodId} {args : Array Value} {below : List Frame} {meth : Method} {c : Code} {H : Heap} {locs : List Loc} {cells slots : Nat} {Q : State → Prop}
variable {cc : ByteArray} {pc nL : Nat} {ls : Array Slot} {rest : List Value} {own : String} {Ts : List Cond} {D : va_G} {b : Nat → Nat} {ids : List Nat} {A : Nat → Prop} {H0 : Heap} {Wr : List (Nat × Nat)} {S0 S : ns_S}
abbrev ns_C (p : Program) (m : MethodId) (c : Code) (cc : ByteArray) (nL : Nat) (s : State) (args : Array Value) (Ts : List Cond) (own : String) (D : va_G) (A : Nat → Prop) : Prop := CallFix p m c cc nL s args Ts own ∧ va_K D vwCl (ns_ty D) s ∧ ns_st D A s s.heap
/-- a method out of the walk of its body -/
theorem ns_start {y : MethodName} {ws ws' : List Cond} {rm : Room} {vals : List Value} {ret : Option Value} {S' : ns_S} {cc : ByteArray} {maxL : Nat} {rt : Option FieldType} (hy : plainName y.cls = true) (hw : ws = Cond.code y cc maxL rt :: ws') (hsl : (lg_sl vals).length ≤ maxL)
    (body : ∀ (p : Program) (e : Env) (s : State) (m : MethodId) (below : List Frame) (meth : Method) (c : Code) (A : Nat → Prop) (ls : Array Slot), ns_C p m c cc maxL s vals.toArray ws y.cls D A → meth.sig.returnType = rt → meth.locks = false → ns_W D b ids A s.heap Wr S S s.heap [] → lv_has ls maxL (lv_args 0 vals) → W p l e rm s m vals.toArray below meth c s.heap [] 0 0 (MQ below (ns_Q D b ids S' ret A) vals.toArray s 0 0 A) (F0 m 0 ls [])) : ns_M l y ws rm D b ids S vals ret S' := by
  intro sz
  refine Met.ofW (cc := cc) (maxL := maxL) (ret := rt) hy hw ?_
  intro p e s m args below meth c s₁ B hml hv
  obtain ⟨rfl, hsz, hP, hK, hD, hst⟩ := hv
  have hts := atoms_spec (ws := ws) B.pre
  have hown : s.vm.findClass y.cls = some m.cls := findClass_of_methodNamed B.named
  have hl := lv_entry vals (n := maxL) hsl
  rw [lg_entry_eq]
  subst hsz
  exact body p e s m below meth c _ _ ⟨⟨B.exec, B.bytes, hml, hown, hts⟩, hK, hst⟩ B.returns B.notSynchronized ⟨hP, hD.self, ⟨va_S.rf, fun q h => Or.inr h⟩, ns_ag.rf⟩ hl
theorem ns_geti (C : ns_C p m c cc nL s args Ts own D A) (w : ns_W D b ids A H0 Wr S0 S H locs) (i : Nat) (hi : i ∈ ids) {ci : Nat} {fs : List ns_F} (hsh : ns_shp i = .inr (ci, fs)) {CN : String} {T : u_T} {N : Nat} (hc : vwCl[ci]? = some (CN, T, N)) (hin : ∀ w ∈ u_ws CN T N, w ∈ Ts) (k : Nat) (hk : k < N) {u : Nat} (hf : fs[k]? = some (.inl u)) {index : Nat} (hlink : Cond.fieldLink own index (T k).1 (T k).2.1 (T k).2.2.1 ∈ Ts) (v : Int32) (hv : S.1 u = v) (hdg : decode cc pc = .ok (.getfield index, 3))
    (kk : W p l e R s m args below meth c H locs cells slots Q (F0 m (pc + 3) ls (.int v :: rest))) : W p l e R s m args below meth c H locs cells slots Q (F0 m pc ls (.ref (b i) :: rest)) := by
  obtain ⟨⟨hx, hb, -, hown, hts⟩, hK, -⟩ := C
  obtain ⟨q0, -, he⟩ := ns_at D b S hi
  rw [ns_ce_o hsh] at he
  exact va_get (T := T) hx hb hts hin hown hK w.1 q0 he hc k hk (hts _ hlink) (fun _ h => h) (v := .int v) (by rw [List.getElem?_map, hf, ← hv]; rfl) hdg kk
theorem ns_getl (C : ns_C p m c cc nL s args Ts own D A) (w : ns_W D b ids A H0 Wr S0 S H locs) (i : Nat) (hi : i ∈ ids) {ci : Nat} {fs : List ns_F} (hsh : ns_shp i = .inr (ci, fs)) {CN : String} {T : u_T} {N : Nat} (hc : vwCl[ci]? = some (CN, T, N)) (hin : ∀ w ∈ u_ws CN T N, w ∈ Ts) (k : Nat) (hk : k < N) {u : Nat} (hf : fs[k]? = some (.inr (.inr u))) {index : Nat} (hlink : Cond.fieldLink own index (T k).1 (T k).2.1 (T k).2.2.1 ∈ Ts) (v : Int64) (hv : S.2.2.1 u = v) (hdg : decode cc pc = .ok (.getfield index, 3))
    (kk : W p l e R s m args below meth c H locs cells slots Q (F0 m (pc + 3) ls (.long v :: rest))) : W p l e R s m args below meth c H locs cells slots Q (F0 m pc ls (.ref (b i) :: rest)) := by
  obtain ⟨⟨hx, hb, -, hown, hts⟩, hK, -⟩ := C
  obtain ⟨q0, -, he⟩ := ns_at D b S hi
  rw [ns_ce_o hsh] at he
  exact va_get (T := T) hx hb hts hin hown hK w.1 q0 he hc k hk (hts _ hlink) (fun _ h => h) (v := .long v) (by rw [List.getElem?_map, hf, ← hv]; rfl) hdg kk
theorem ns_getr (C : ns_C p m c cc nL s args Ts own D A) (w : ns_W D b ids A H0 Wr S0 S H locs) (i : Nat) (hi : i ∈ ids) {ci : Nat} {fs : List ns_F} (hsh : ns_shp i = .inr (ci, fs)) {CN : String} {T : u_T} {N : Nat} (hc : vwCl[ci]? = some (CN, T, N)) (hin : ∀ w ∈ u_ws CN T N, w ∈ Ts) (k : Nat) (hk : k < N) {j : Nat} (hf : fs[k]? = some (.inr (.inl j))) {index : Nat} (hlink : Cond.fieldLink own index (T k).1 (T k).2.1 (T k).2.2.1 ∈ Ts) (hdg : decode cc pc = .ok (.getfield index, 3))
    (kk : W p l e R s m args below meth c H locs cells slots Q (F0 m (pc + 3) ls (.ref (b j) :: rest))) : W p l e R s m args below meth c H locs cells slots Q (F0 m pc ls (.ref (b i) :: rest)) := by
  obtain ⟨⟨hx, hb, -, hown, hts⟩, hK, -⟩ := C
  obtain ⟨q0, -, he⟩ := ns_at D b S hi
  rw [ns_ce_o hsh] at he
  exact va_get (T := T) hx hb hts hin hown hK w.1 q0 he hc k hk (hts _ hlink) (fun _ h => h) (v := .ref (b j)) (by rw [List.getElem?_map, hf]; rfl) hdg kk
theorem ns_puti (C : ns_C p m c cc nL s args Ts own D A) (w : ns_W D b ids A H0 Wr S0 S H locs) (i : Nat) (hi : i ∈ ids) {ci : Nat} {fs : List ns_F} (hsh : ns_shp i = .inr (ci, fs)) {CN : String} {T : u_T} {N : Nat} (hc : vwCl[ci]? = some (CN, T, N)) (hin : ∀ w ∈ u_ws CN T N, w ∈ Ts) {ty0 : Nat → FieldType} (hty : ∀ k, k < N → parseFieldDescriptor (T k).2.2.1 = some (ty0 k)) (hnm : ∀ a, a < N → ∀ b, b < N → a ≠ b → (T a).2.1 ≠ (T b).2.1) (k : Nat) (hk : k < N) {u : Nat} (hf : fs[k]? = some (.inl u)) {index : Nat} (hlink : Cond.fieldLink own index (T k).1 (T k).2.1 (T k).2.2.1 ∈ Ts) (hfin : (T k).2.2.2 = false) {v : Int32} (hn : narrow (ty0 k) (.int v) = .int v) (hfit : fits (ty0 k) (.int v) = true) (hw : (0, u) ∈ Wr) (hdg : decode cc pc = .ok (.putfield index, 3))
    (kk : ∀ (H1 : Heap) (locs1 : List Loc), ns_W D b ids A H0 Wr S0 (ns_I S u v) H1 locs1 → W p l e R s m args below meth c H1 locs1 cells slots Q (F0 m (pc + 3) ls rest)) : W p l e R s m args below meth c H locs cells slots Q (F0 m pc ls (.int v :: .ref (b i) :: rest)) := by
  obtain ⟨⟨hx, hb, -, hown, hts⟩, hK, -⟩ := C
  obtain ⟨wP, wD, wS, wA⟩ := w
  obtain ⟨q0, hq, he⟩ := ns_at D b S hi
  have e0 := (ns_okt hsh hf)
  have e1 := e0.2.1 u rfl
  have hj : ∀ j, j ≠ i → ns_ce D b (ns_I S u v) j = ns_ce D b S j := fun j h => ns_ce_neI (by have := e0.1; omega)
  have hset := ns_set (S' := ns_I S u v) wD hq hj
  rw [ns_ce_I hsh hf] at hset
  rw [ns_ce_o hsh] at he
  have hl : k < (fs.map (ns_fv b S)).length := by rw [List.length_map]; exact (List.getElem?_eq_some_iff.mp hf).1
  refine va_put (T := T) (ty := ty0 k) (v := .int v) hx hb hts hin ty0 hty hnm hown hK wP wD wS.1 q0 he hc k hk (hts _ hlink) (fun _ h => h) hfin (hty k hk) hn hfit hl hdg (fun H1 locs1 h1 h2 h3 => ?_)
  rw [hset] at h1 h2
  exact kk H1 locs1 ⟨h1, h2, ⟨h3, wS.2⟩, wA.I hw v⟩
theorem ns_putl (C : ns_C p m c cc nL s args Ts own D A) (w : ns_W D b ids A H0 Wr S0 S H locs) (i : Nat) (hi : i ∈ ids) {ci : Nat} {fs : List ns_F} (hsh : ns_shp i = .inr (ci, fs)) {CN : String} {T : u_T} {N : Nat} (hc : vwCl[ci]? = some (CN, T, N)) (hin : ∀ w ∈ u_ws CN T N, w ∈ Ts) {ty0 : Nat → FieldType} (hty : ∀ k, k < N → parseFieldDescriptor (T k).2.2.1 = some (ty0 k)) (hnm : ∀ a, a < N → ∀ b, b < N → a ≠ b → (T a).2.1 ≠ (T b).2.1) (k : Nat) (hk : k < N) {u : Nat} (hf : fs[k]? = some (.inr (.inr u))) {index : Nat} (hlink : Cond.fieldLink own index (T k).1 (T k).2.1 (T k).2.2.1 ∈ Ts) (hfin : (T k).2.2.2 = false) {v : Int64} (hn : narrow (ty0 k) (.long v) = .long v) (hfit : fits (ty0 k) (.long v) = true) (hw : (2, u) ∈ Wr) (hdg : decode cc pc = .ok (.putfield index, 3))
    (kk : ∀ (H1 : Heap) (locs1 : List Loc), ns_W D b ids A H0 Wr S0 (ns_L S u v) H1 locs1 → W p l e R s m args below meth c H1 locs1 cells slots Q (F0 m (pc + 3) ls rest)) : W p l e R s m args below meth c H locs cells slots Q (F0 m pc ls (.long v :: .ref (b i) :: rest)) := by
  obtain ⟨⟨hx, hb, -, hown, hts⟩, hK, -⟩ := C
  obtain ⟨wP, wD, wS, wA⟩ := w
  obtain ⟨q0, hq, he⟩ := ns_at D b S hi
  have e0 := (ns_okt hsh hf)
  have e1 := e0.2.2 u rfl
  have hj : ∀ j, j ≠ i → ns_ce D b (ns_L S u v) j = ns_ce D b S j := fun j h => ns_ce_neL (by have := e0.1; omega)
  have hset := ns_set (S' := ns_L S u v) wD hq hj
  rw [ns_ce_L hsh hf] at hset
  rw [ns_ce_o hsh] at he
  have hl : k < (fs.map (ns_fv b S)).length := by rw [List.length_map]; exact (List.getElem?_eq_some_iff.mp hf).1
  refine va_put (T := T) (ty := ty0 k) (v := .long v) hx hb hts hin ty0 hty hnm hown hK wP wD wS.1 q0 he hc k hk (hts _ hlink) (fun _ h => h) hfin (hty k hk) hn hfit hl hdg (fun H1 locs1 h1 h2 h3 => ?_)
  rw [hset] at h1 h2
  exact kk H1 locs1 ⟨h1, h2, ⟨h3, wS.2⟩, wA.L hw v⟩
theorem ns_iald (C : ns_C p m c cc nL s args Ts own D A) (w : ns_W D b ids A H0 Wr S0 S H locs) (i : Nat) (hi : i ∈ ids) {n : Nat} (hsh : ns_shp i = .inl (0, n)) {X : Nat → Int32} {x : Int32} {α : Type} {g : Int32 → Option α} {o : α} (hf : (ns_ald X n x).bind g = some o) (hX : S.2.1 i = X) (hdg : decode cc pc = .ok (.iaload, 1))
    (kk : ∀ v : Int32, g v = some o → W p l e R s m args below meth c H locs cells slots Q (F0 m (pc + 1) ls (.int v :: rest))) : W p l e R s m args below meth c H locs cells slots Q (F0 m pc ls (.int x :: .ref (b i) :: rest)) := by
  obtain ⟨⟨hx, hb, -, -, -⟩, hK, -⟩ := C
  obtain ⟨q0, -, he⟩ := ns_at D b S hi
  obtain ⟨h1, h2⟩ := ns_ald_some hf
  rw [ns_ce_a hsh (by decide) (by decide), hX] at he
  exact va_iald hx hb hK w.1 q0 0 he rfl h1 hdg (kk _ h2)
theorem ns_bald (C : ns_C p m c cc nL s args Ts own D A) (w : ns_W D b ids A H0 Wr S0 S H locs) (i : Nat) (hi : i ∈ ids) {n : Nat} (hsh : ns_shp i = .inl (1, n)) {X : Nat → Int32} {x : Int32} {α : Type} {g : Int32 → Option α} {o : α} (hf : (ns_ald X n x).bind g = some o) (hX : S.2.1 i = X) (hdg : decode cc pc = .ok (.baload, 1))
    (kk : ∀ v : Int32, g v = some o → W p l e R s m args below meth c H locs cells slots Q (F0 m (pc + 1) ls (.int v :: rest))) : W p l e R s m args below meth c H locs cells slots Q (F0 m pc ls (.int x :: .ref (b i) :: rest)) := by
  obtain ⟨⟨hx, hb, -, -, -⟩, hK, -⟩ := C
  obtain ⟨q0, -, he⟩ := ns_at D b S hi
  obtain ⟨h1, h2⟩ := ns_ald_some hf
  rw [ns_ce_a hsh (by decide) (by decide), hX] at he
  exact va_bald hx hb hK w.1 q0 1 he rfl h1 hdg (kk _ h2)
theorem ns_zald (C : ns_C p m c cc nL s args Ts own D A) (w : ns_W D b ids A H0 Wr S0 S H locs) (i : Nat) (hi : i ∈ ids) {n : Nat} (hsh : ns_shp i = .inl (3, n)) {X : Nat → Int32} {x : Int32} {α : Type} {g : Int32 → Option α} {o : α} (hf : (ns_ald X n x).bind g = some o) (hX : S.2.1 i = X) (hdg : decode cc pc = .ok (.baload, 1))
    (kk : ∀ v : Int32, g v = some o → W p l e R s m args below meth c H locs cells slots Q (F0 m (pc + 1) ls (.int v :: rest))) : W p l e R s m args below meth c H locs cells slots Q (F0 m pc ls (.int x :: .ref (b i) :: rest)) := by
  obtain ⟨⟨hx, hb, -, -, -⟩, hK, -⟩ := C
  obtain ⟨q0, -, he⟩ := ns_at D b S hi
  obtain ⟨h1, h2⟩ := ns_ald_some hf
  rw [ns_ce_a hsh (by decide) (by decide), hX] at he
  exact va_zald hx hb hK w.1 q0 3 he rfl h1 hdg (kk _ h2)
theorem ns_lald (C : ns_C p m c cc nL s args Ts own D A) (w : ns_W D b ids A H0 Wr S0 S H locs) (i : Nat) (hi : i ∈ ids) {n : Nat} (hsh : ns_shp i = .inl (2, n)) {x : Int32} {α : Type} {g : Int64 → Option α} {o : α} (hf : (ns_lld ns_wd n x).bind g = some o) (hdg : decode cc pc = .ok (.laload, 1))
    (kk : ∀ v : Int64, g v = some o → W p l e R s m args below meth c H locs cells slots Q (F0 m (pc + 1) ls (.long v :: rest))) : W p l e R s m args below meth c H locs cells slots Q (F0 m pc ls (.int x :: .ref (b i) :: rest)) := by
  obtain ⟨⟨hx, hb, -, -, -⟩, hK, -⟩ := C
  obtain ⟨q0, -, he⟩ := ns_at D b S hi
  obtain ⟨h1, h2⟩ := ns_lld_some hf
  have e : ns_ce D b S i = .inl (D.1 102, n, .inr (.inl ns_wd)) := by unfold ns_ce; rw [hsh]; rfl
  rw [e] at he
  exact va_lald hx hb hK w.1 q0 2 he rfl h1 hdg (kk _ h2)
theorem ns_alen (C : ns_C p m c cc nL s args Ts own D A) (w : ns_W D b ids A H0 Wr S0 S H locs) (i : Nat) (hi : i ∈ ids) {n : Nat} (hsh : ns_shp i = .inl (0, n)) {v : Int32} (hv : Int32.ofNat n = v) (hdg : decode cc pc = .ok (.arraylength, 1))
    (kk : W p l e R s m args below meth c H locs cells slots Q (F0 m (pc + 1) ls (.int v :: rest))) : W p l e R s m args below meth c H locs cells slots Q (F0 m pc ls (.ref (b i) :: rest)) := by
  obtain ⟨⟨hx, hb, -, -, -⟩, hK, -⟩ := C
  obtain ⟨q0, -, he⟩ := ns_at D b S hi
  rw [ns_ce_a hsh (by decide) (by decide)] at he
  exact va_alen hx hb hK w.1 q0 0 he (ty := .int) rfl hv hdg kk
theorem ns_setA {k : Nat} {i j n : Nat} {X Y : Nat → Int32} (wD : va_D A (ns_wl D b S ids)) (hq : ids[k]? = some i) (hsh : ns_shp i = .inl (j, n)) (h2 : j ≠ 2) (h4 : j ≠ 4) : (ns_wl D b S ids).set k (b i, .inl (D.1 (100 + j), n, .inl Y)) = ns_wl D b (ns_A S i Y) ids := by
  have hset := ns_set (S' := ns_A S i Y) wD hq (fun j h => ns_ce_neA h)
  rw [ns_ce_a hsh h2 h4] at hset
  have e : (ns_A S i Y).2.1 i = Y := va_up_self _ _ _
  rw [e] at hset
  exact hset
theorem ns_iast (C : ns_C p m c cc nL s args Ts own D A) (w : ns_W D b ids A H0 Wr S0 S H locs) (i : Nat) (hi : i ∈ ids) {n : Nat} (hsh : ns_shp i = .inl (0, n)) {X : Nat → Int32} {x y : Int32} {α : Type} {g : (Nat → Int32) → Option α} {o : α} (hf : (ns_ast X n x y).bind g = some o) (hX : S.2.1 i = X) (hw : (1, i) ∈ Wr) (hdg : decode cc pc = .ok (.iastore, 1))
    (kk : ∀ (Y : Nat → Int32) (H1 : Heap) (locs1 : List Loc), g Y = some o → ns_W D b ids A H0 Wr S0 (ns_A S i Y) H1 locs1 → W p l e R s m args below meth c H1 locs1 cells slots Q (F0 m (pc + 1) ls rest)) : W p l e R s m args below meth c H locs cells slots Q (F0 m pc ls (.int y :: .int x :: .ref (b i) :: rest)) := by
  obtain ⟨⟨hx, hb, -, -, -⟩, hK, -⟩ := C
  obtain ⟨wP, wD, wS, wA⟩ := w
  obtain ⟨q0, hq, he⟩ := ns_at D b S hi
  obtain ⟨h1, h2⟩ := ns_ast_some hf
  rw [ns_ce_a hsh (by decide) (by decide), hX] at he
  refine va_iast hx hb hK wP wD wS.1 q0 0 he rfl h1 hdg (fun H1 locs1 g1 g2 g3 => ?_)
  have e := ns_setA (X := X) (Y := upd X x.toNatClampNeg y) wD hq hsh (by decide) (by decide)
  rw [show (D.1 (100 + 0)) = D.1 100 from rfl] at e
  rw [e] at g1 g2
  exact kk _ H1 locs1 h2 ⟨g1, g2, ⟨g3, wS.2⟩, wA.A hw _⟩
theorem ns_bast (C : ns_C p m c cc nL s args Ts own D A) (w : ns_W D b ids A H0 Wr S0 S H locs) (i : Nat) (hi : i ∈ ids) {n : Nat} (hsh : ns_shp i = .inl (1, n)) {X : Nat → Int32} {x y : Int32} {α : Type} {g : (Nat → Int32) → Option α} {o : α} (hf : (ns_ast X n x (vp_nar .byte y)).bind g = some o) (hX : S.2.1 i = X) (hw : (1, i) ∈ Wr) (hdg : decode cc pc = .ok (.bastore, 1))
    (kk : ∀ (Y : Nat → Int32) (H1 : Heap) (locs1 : List Loc), g Y = some o → ns_W D b ids A H0 Wr S0 (ns_A S i Y) H1 locs1 → W p l e R s m args below meth c H1 locs1 cells slots Q (F0 m (pc + 1) ls rest)) : W p l e R s m args below meth c H locs cells slots Q (F0 m pc ls (.int y :: .int x :: .ref (b i) :: rest)) := by
  obtain ⟨⟨hx, hb, -, -, -⟩, hK, -⟩ := C
  obtain ⟨wP, wD, wS, wA⟩ := w
  obtain ⟨q0, hq, he⟩ := ns_at D b S hi
  obtain ⟨h1, h2⟩ := ns_ast_some hf
  rw [ns_ce_a hsh (by decide) (by decide), hX] at he
  refine va_bast hx hb hK wP wD wS.1 q0 1 he rfl h1 hdg (fun H1 locs1 g1 g2 g3 => ?_)
  have e := ns_setA (X := X) (Y := upd X x.toNatClampNeg (vp_nar .byte y)) wD hq hsh (by decide) (by decide)
  rw [e] at g1 g2
  exact kk _ H1 locs1 h2 ⟨g1, g2, ⟨g3, wS.2⟩, wA.A hw _⟩
theorem ns_zast (C : ns_C p m c cc nL s args Ts own D A) (w : ns_W D b ids A H0 Wr S0 S H locs) (i : Nat) (hi : i ∈ ids) {n : Nat} (hsh : ns_shp i = .inl (3, n)) {X : Nat → Int32} {x y : Int32} {α : Type} {g : (Nat → Int32) → Option α} {o : α} (hf : (ns_ast X n x (vp_nar .boolean y)).bind g = some o) (hX : S.2.1 i = X) (hw : (1, i) ∈ Wr) (hdg : decode cc pc = .ok (.bastore, 1))
    (kk : ∀ (Y : Nat → Int32) (H1 : Heap) (locs1 : List Loc), g Y = some o → ns_W D b ids A H0 Wr S0 (ns_A S i Y) H1 locs1 → W p l e R s m args below meth c H1 locs1 cells slots Q (F0 m (pc + 1) ls rest)) : W p l e R s m args below meth c H locs cells slots Q (F0 m pc ls (.int y :: .int x :: .ref (b i) :: rest)) := by
  obtain ⟨⟨hx, hb, -, -, -⟩, hK, -⟩ := C
  obtain ⟨wP, wD, wS, wA⟩ := w
  obtain ⟨q0, hq, he⟩ := ns_at D b S hi
  obtain ⟨h1, h2⟩ := ns_ast_some hf
  rw [ns_ce_a hsh (by decide) (by decide), hX] at he
  refine va_zast hx hb hK wP wD wS.1 q0 3 he rfl h1 hdg (fun H1 locs1 g1 g2 g3 => ?_)
  have e := ns_setA (X := X) (Y := upd X x.toNatClampNeg (vp_nar .boolean y)) wD hq hsh (by decide) (by decide)
  rw [e] at g1 g2
  exact kk _ H1 locs1 h2 ⟨g1, g2, ⟨g3, wS.2⟩, wA.A hw _⟩
/-- System.arraycopy of int rows -/
theorem ns_copy (C : ns_C p m c cc nL s args Ts own D A) (w : ns_W D b ids A H0 Wr S0 S H locs) (i j : Nat) (hi : i ∈ ids) (hj : j ∈ ids) {n0 n1 : Nat} (hsh : ns_shp i = .inl (0, n0)) (hsj : ns_shp j = .inl (0, n1)) {X Z : Nat → Int32} {sp dp n : Int32} {α : Type} {g : (Nat → Int32) → Option α} {o : α} (hf : (ns_cp X Z n0 n1 sp dp n).bind g = some o) (hX : S.2.1 i = X) (hZ : S.2.1 j = Z) (hw : (1, j) ∈ Wr) {index : Nat} (hlink : Cond.methodLink own index arraycopyName ∈ Ts) (hnat : Cond.native arraycopyName ∈ Ts) (hstat : Cond.static arraycopyName ∈ Ts) (hini : Cond.initialized "java/lang/System" ∈ Ts) (hsize : ls.size = nL) (hframes : 1 ≤ R.frames) (hlocals : (rest.map fun v => v.category).sum + (nativeFrameWords "java/lang/System" "arraycopy" 5 + 11) ≤ R.locals) (hdg : decode cc pc = .ok (.invokestatic index, 3))
    (kk : ∀ (Y : Nat → Int32) (H1 : Heap) (locs1 : List Loc), g Y = some o → ns_W D b ids A H0 Wr S0 (ns_A S j Y) H1 locs1 → W p l e R s m args below meth c H1 locs1 cells slots Q (F0 m (pc + 3) ls rest)) : W p l e R s m args below meth c H locs cells slots Q (F0 m pc ls (.int n :: .int dp :: .ref (b j) :: .int sp :: .ref (b i) :: rest)) := by
  obtain ⟨⟨hx, hb, hml, hown, hts⟩, hK, -⟩ := C
  obtain ⟨wP, wD, wS, wA⟩ := w
  obtain ⟨q0, -, he⟩ := ns_at D b S hi
  obtain ⟨q1, hq, hg⟩ := ns_at D b S hj
  have h := hf
  unfold ns_cp at h
  split at h
  · rename_i hc
    obtain ⟨c1, c2, c3, c4, c5⟩ := hc
    rw [ns_ce_a hsh (by decide) (by decide), hX] at he
    rw [ns_ce_a hsj (by decide) (by decide), hZ] at hg
    refine va_copyi (ty := .int) hx hb (by rw [hml, hsize]) hown (hts _ hlink) (hts _ hnat) (hts _ hstat) (hts _ hini) hK wP wD wS.1 q0 q1 0 0 he hg rfl rfl rfl c1 c2 c3 c4 c5 (fun _ _ => rfl) hframes hlocals hdg (fun H1 locs1 g1 g2 g3 => ?_)
    have e := ns_setA (X := X) (Y := va_cpy X Z sp.toNatClampNeg dp.toNatClampNeg n.toNatClampNeg) wD hq hsj (by decide) (by decide)
    rw [show (D.1 (100 + 0)) = D.1 100 from rfl] at e
    rw [show (D.1 (100 + 0)) = D.1 100 from rfl] at g1 g2
    rw [e] at g1 g2
    exact kk _ H1 locs1 h ⟨g1, g2, ⟨g3, wS.2⟩, wA.A hw _⟩
  · cases h
/-! names for what stands on the stack -/
theorem ns_namei {x : Int32} {α : Type} {g : Int32 → Option α} {o : α} (hf : ns_let x g = some o) (kk : ∀ y : Int32, g y = some o → W p l e R s m args below meth c H locs cells slots Q (F0 m pc ls (.int y :: rest))) : W p l e R s m args below meth c H locs cells slots Q (F0 m pc ls (.int x :: rest)) := kk x hf
theorem ns_namel {x : Int64} {α : Type} {g : Int64 → Option α} {o : α} (hf : ns_let x g = some o) (kk : ∀ y : Int64, g y = some o → W p l e R s m args below meth c H locs cells slots Q (F0 m pc ls (.long y :: rest))) : W p l e R s m args below meth c H locs cells slots Q (F0 m pc ls (.long x :: rest)) := kk x hf
theorem ns_iinc (C : ns_C p m c cc nL s args Ts own D A) {i k : Nat} {n : Int} {x z : Int32} {lv : List (Nat × Value)} {lv' : Int32 → List (Nat × Value)} {α : Type} {g : Int32 → Option α} {o : α} (hf : ns_let z g = some o) (hdg : decode cc pc = .ok (.iinc i n, 3)) (h : lv_has ls nL lv) (hk : lv[k]? = some (i, .int x)) (hv : x + Int32.ofInt n = z) (hn : i < nL) (hl : ∀ v : Int32, (i, Value.int v) :: lv.filter (fun q => !(q.1 == i) && !(q.1 + 1 == i && q.2.category == 2)) = lv' v)
    (kk : ∀ (y : Int32) (ls : Array Slot), lv_has ls nL (lv' y) → g y = some o → W p l e R s m args below meth c H locs cells slots Q (F0 m (pc + 3) ls rest)) : W p l e R s m args below meth c H locs cells slots Q (F0 m pc ls rest) :=
  lv_iinc (v := z) C.1.1 C.1.2.1 hdg h hk hv hn (hl z) (fun ls hl => kk z ls hl hf)
/-! branches -/
theorem ns_if_eq (C : ns_C p m c cc nL s args Ts own D A) {x : Int32} {α : Type} {P P' : Option α} {o : α} (hf : (if x = 0 then P else P') = some o) {off : Int} {tgt : Nat} (hdg : decode cc pc = .ok (.ifCond .eq off, 3)) (ht : (pc : Int) + off = (tgt : Int)) (kt : P = some o → W p l e R s m args below meth c H locs cells slots Q (F0 m tgt ls rest)) (kf : P' = some o → W p l e R s m args below meth c H locs cells slots Q (F0 m (pc + 3) ls rest)) : W p l e R s m args below meth c H locs cells slots Q (F0 m pc ls (.int x :: rest)) :=
  lv_if_eq C.1.1 C.1.2.1 hdg ht (fun h => kt (by rw [if_pos h] at hf; exact hf)) (fun h => kf (by rw [if_neg h] at hf; exact hf))
theorem ns_if_ne (C : ns_C p m c cc nL s args Ts own D A) {x : Int32} {α : Type} {P P' : Option α} {o : α} (hf : (if x = 0 then P' else P) = some o) {off : Int} {tgt : Nat} (hdg : decode cc pc = .ok (.ifCond .ne off, 3)) (ht : (pc : Int) + off = (tgt : Int)) (kt : P = some o → W p l e R s m args below meth c H locs cells slots Q (F0 m tgt ls rest)) (kf : P' = some o → W p l e R s m args below meth c H locs cells slots Q (F0 m (pc + 3) ls rest)) : W p l e R s m args below meth c H locs cells slots Q (F0 m pc ls (.int x :: rest)) :=
  lv_if_ne C.1.1 C.1.2.1 hdg ht (fun h => kt (by rw [if_neg h] at hf; exact hf)) (fun h => kf (by rw [if_pos h] at hf; exact hf))
theorem ns_if_lt (C : ns_C p m c cc nL s args Ts own D A) {x : Int32} {α : Type} {P P' : Option α} {o : α} (hf : (if x < 0 then P else P') = some o) {off : Int} {tgt : Nat} (hdg : decode cc pc = .ok (.ifCond .lt off, 3)) (ht : (pc : Int) + off = (tgt : Int)) (kt : P = some o → W p l e R s m args below meth c H locs cells slots Q (F0 m tgt ls rest)) (kf : P' = some o → W p l e R s m args below meth c H locs cells slots Q (F0 m (pc + 3) ls rest)) : W p l e R s m args below meth c H locs cells slots Q (F0 m pc ls (.int x :: rest)) :=
  lv_if_lt C.1.1 C.1.2.1 hdg ht (fun h => kt (by rw [if_pos h] at hf; exact hf)) (fun h => kf (by rw [if_neg h] at hf; exact hf))
theorem ns_if_ge (C : ns_C p m c cc nL s args Ts own D A) {x : Int32} {α : Type} {P P' : Option α} {o : α} (hf : (if 0 ≤ x then P else P') = some o) {off : Int} {tgt : Nat} (hdg : decode cc pc = .ok (.ifCond .ge off, 3)) (ht : (pc : Int) + off = (tgt : Int)) (kt : P = some o → W p l e R s m args below meth c H locs cells slots Q (F0 m tgt ls rest)) (kf : P' = some o → W p l e R s m args below meth c H locs cells slots Q (F0 m (pc + 3) ls rest)) : W p l e R s m args below meth c H locs cells slots Q (F0 m pc ls (.int x :: rest)) :=
  lv_if_ge C.1.1 C.1.2.1 hdg ht (fun h => kt (by rw [if_pos h] at hf; exact hf)) (fun h => kf (by rw [if_neg h] at hf; exact hf))
theorem ns_if_gt (C : ns_C p m c cc nL s args Ts own D A) {x : Int32} {α : Type} {P P' : Option α} {o : α} (hf : (if 0 < x then P else P') = some o) {off : Int} {tgt : Nat} (hdg : decode cc pc = .ok (.ifCond .gt off, 3)) (ht : (pc : Int) + off = (tgt : Int)) (kt : P = some o → W p l e R s m args below meth c H locs cells slots Q (F0 m tgt ls rest)) (kf : P' = some o → W p l e R s m args below meth c H locs cells slots Q (F0 m (pc + 3) ls rest)) : W p l e R s m args below meth c H locs cells slots Q (F0 m pc ls (.int x :: rest)) :=
  lv_if_gt C.1.1 C.1.2.1 hdg ht (fun h => kt (by rw [if_pos h] at hf; exact hf)) (fun h => kf (by rw [if_neg h] at hf; exact hf))
theorem ns_if_le (C : ns_C p m c cc nL s args Ts own D A) {x : Int32} {α : Type} {P P' : Option α} {o : α} (hf : (if x ≤ 0 then P else P') = some o) {off : Int} {tgt : Nat} (hdg : decode cc pc = .ok (.ifCond .le off, 3)) (ht : (pc : Int) + off = (tgt : Int)) (kt : P = some o → W p l e R s m args below meth c H locs cells slots Q (F0 m tgt ls rest)) (kf : P' = some o → W p l e R s m args below meth c H locs cells slots Q (F0 m (pc + 3) ls rest)) : W p l e R s m args below meth c H locs cells slots Q (F0 m pc ls (.int x :: rest)) :=
  lv_if_le C.1.1 C.1.2.1 hdg ht (fun h => kt (by rw [if_pos h] at hf; exact hf)) (fun h => kf (by rw [if_neg h] at hf; exact hf))
theorem ns_icmp_eq (C : ns_C p m c cc nL s args Ts own D A) {x y : Int32} {α : Type} {P P' : Option α} {o : α} (hf : (if x = y then P else P') = some o) {off : Int} {tgt : Nat} (hdg : decode cc pc = .ok (.if_icmp .eq off, 3)) (ht : (pc : Int) + off = (tgt : Int)) (kt : P = some o → W p l e R s m args below meth c H locs cells slots Q (F0 m tgt ls rest)) (kf : P' = some o → W p l e R s m args below meth c H locs cells slots Q (F0 m (pc + 3) ls rest)) : W p l e R s m args below meth c H locs cells slots Q (F0 m pc ls (.int y :: .int x :: rest)) :=
  lv_icmp_eq C.1.1 C.1.2.1 hdg ht (fun h => kt (by rw [if_pos h] at hf; exact hf)) (fun h => kf (by rw [if_neg h] at hf; exact hf))
theorem ns_icmp_ne (C : ns_C p m c cc nL s args Ts own D A) {x y : Int32} {α : Type} {P P' : Option α} {o : α} (hf : (if x = y then P' else P) = some o) {off : Int} {tgt : Nat} (hdg : decode cc pc = .ok (.if_icmp .ne off, 3)) (ht : (pc : Int) + off = (tgt : Int)) (kt : P = some o → W p l e R s m args below meth c H locs cells slots Q (F0 m tgt ls rest)) (kf : P' = some o → W p l e R s m args below meth c H locs cells slots Q (F0 m (pc + 3) ls rest)) : W p l e R s m args below meth c H locs cells slots Q (F0 m pc ls (.int y :: .int x :: rest)) :=
  lv_icmp_ne C.1.1 C.1.2.1 hdg ht (fun h => kt (by rw [if_neg h] at hf; exact hf)) (fun h => kf (by rw [if_pos h] at hf; exact hf))
theorem ns_icmp_lt (C : ns_C p m c cc nL s args Ts own D A) {x y : Int32} {α : Type} {P P' : Option α} {o : α} (hf : (if x < y then P else P') = some o) {off : Int} {tgt : Nat} (hdg : decode cc pc = .ok (.if_icmp .lt off, 3)) (ht : (pc : Int) + off = (tgt : Int)) (kt : P = some o → W p l e R s m args below meth c H locs cells slots Q (F0 m tgt ls rest)) (kf : P' = some o → W p l e R s m args below meth c H locs cells slots Q (F0 m (pc + 3) ls rest)) : W p l e R s m args below meth c H locs cells slots Q (F0 m pc ls (.int y :: .int x :: rest)) :=
  lv_icmp_lt C.1.1 C.1.2.1 hdg ht (fun h => kt (by rw [if_pos h] at hf; exact hf)) (fun h => kf (by rw [if_neg h] at hf; exact hf))
theorem ns_icmp_ge (C : ns_C p m c cc nL s args Ts own D A) {x y : Int32} {α : Type} {P P' : Option α} {o : α} (hf : (if y ≤ x then P else P') = some o) {off : Int} {tgt : Nat} (hdg : decode cc pc = .ok (.if_icmp .ge off, 3)) (ht : (pc : Int) + off = (tgt : Int)) (kt : P = some o → W p l e R s m args below meth c H locs cells slots Q (F0 m tgt ls rest)) (kf : P' = some o → W p l e R s m args below meth c H locs cells slots Q (F0 m (pc + 3) ls rest)) : W p l e R s m args below meth c H locs cells slots Q (F0 m pc ls (.int y :: .int x :: rest)) :=
  lv_icmp_ge C.1.1 C.1.2.1 hdg ht (fun h => kt (by rw [if_pos h] at hf; exact hf)) (fun h => kf (by rw [if_neg h] at hf; exact hf))
theorem ns_icmp_gt (C : ns_C p m c cc nL s args Ts own D A) {x y : Int32} {α : Type} {P P' : Option α} {o : α} (hf : (if y < x then P else P') = some o) {off : Int} {tgt : Nat} (hdg : decode cc pc = .ok (.if_icmp .gt off, 3)) (ht : (pc : Int) + off = (tgt : Int)) (kt : P = some o → W p l e R s m args below meth c H locs cells slots Q (F0 m tgt ls rest)) (kf : P' = some o → W p l e R s m args below meth c H locs cells slots Q (F0 m (pc + 3) ls rest)) : W p l e R s m args below meth c H locs cells slots Q (F0 m pc ls (.int y :: .int x :: rest)) :=
  lv_icmp_gt C.1.1 C.1.2.1 hdg ht (fun h => kt (by rw [if_pos h] at hf; exact hf)) (fun h => kf (by rw [if_neg h] at hf; exact hf))
theorem ns_icmp_le (C : ns_C p m c cc nL s args Ts own D A) {x y : Int32} {α : Type} {P P' : Option α} {o : α} (hf : (if x ≤ y then P else P') = some o) {off : Int} {tgt : Nat} (hdg : decode cc pc = .ok (.if_icmp .le off, 3)) (ht : (pc : Int) + off = (tgt : Int)) (kt : P = some o → W p l e R s m args below meth c H locs cells slots Q (F0 m tgt ls rest)) (kf : P' = some o → W p l e R s m args below meth c H locs cells slots Q (F0 m (pc + 3) ls rest)) : W p l e R s m args below meth c H locs cells slots Q (F0 m pc ls (.int y :: .int x :: rest)) :=
  lv_icmp_le C.1.1 C.1.2.1 hdg ht (fun h => kt (by rw [if_pos h] at hf; exact hf)) (fun h => kf (by rw [if_neg h] at hf; exact hf))
/-! returns -/
theorem ns_iret (C : ns_C p m c cc nL s args Ts own D A) (w : ns_W D b ids A s.heap Wr S0 S H locs) (hr : meth.sig.returnType = some .int) (hlk : meth.locks = false) (hall : Wr.all (fun q => q.1 ≤ 2) = true) {v : Int32} {S' : ns_S} (hS : ns_ups S0 S Wr = S') (hdg : decode cc pc = .ok (.ireturn, 1)) : W p l e R s m args below meth c H locs cells slots (MQ below (ns_Q D b ids S' (some (.int v)) A) args s cells slots A) (F0 m pc ls [.int v]) :=
  W.iret C.1.1 C.1.2.1 hr (fun t ht hW => ⟨⟨rfl, by rw [ht, ← hS, ns_ups_eq w.2.2.2 hall]; exact w.1, va_K.moved hW.alike C.2.1⟩, w.2.2.1.1.F ht⟩) w.2.2.1.1.2.2 hdg hlk
theorem ns_zret (C : ns_C p m c cc nL s args Ts own D A) (w : ns_W D b ids A s.heap Wr S0 S H locs) (hr : meth.sig.returnType = some .boolean) (hlk : meth.locks = false) (hall : Wr.all (fun q => q.1 ≤ 2) = true) {v : Int32} (hz : v = 0 ∨ v = 1) {S' : ns_S} (hS : ns_ups S0 S Wr = S') (hdg : decode cc pc = .ok (.ireturn, 1)) : W p l e R s m args below meth c H locs cells slots (MQ below (ns_Q D b ids S' (some (.int v)) A) args s cells slots A) (F0 m pc ls [.int v]) :=
  W.zret C.1.1 C.1.2.1 hr (by rcases hz with rfl | rfl <;> rfl) (fun t ht hW => ⟨⟨rfl, by rw [ht, ← hS, ns_ups_eq w.2.2.2 hall]; exact w.1, va_K.moved hW.alike C.2.1⟩, w.2.2.1.1.F ht⟩) w.2.2.1.1.2.2 hdg hlk
theorem ns_lret (C : ns_C p m c cc nL s args Ts own D A) (w : ns_W D b ids A s.heap Wr S0 S H locs) (hr : meth.sig.returnType = some .long) (hlk : meth.locks = false) (hall : Wr.all (fun q => q.1 ≤ 2) = true) {v : Int64} {S' : ns_S} (hS : ns_ups S0 S Wr = S') (hdg : decode cc pc = .ok (.lreturn, 1)) : W p l e R s m args below meth c H locs cells slots (MQ below (ns_Q D b ids S' (some (.long v)) A) args s cells slots A) (F0 m pc ls [.long v]) :=
  W.lret C.1.1 C.1.2.1 hr (fun t ht hW => ⟨⟨rfl, by rw [ht, ← hS, ns_ups_eq w.2.2.2 hall]; exact w.1, va_K.moved hW.alike C.2.1⟩, w.2.2.1.1.F ht⟩) w.2.2.1.1.2.2 hdg hlk
theorem ns_vret (C : ns_C p m c cc nL s args Ts own D A) (w : ns_W D b ids A s.heap Wr S0 S H locs) (hr : meth.sig.returnType = none) (hlk : meth.locks = false) (hall : Wr.all (fun q => q.1 ≤ 2) = true) {S' : ns_S} (hS : ns_ups S0 S Wr = S') (hdg : decode cc pc = .ok (.return_, 1)) : W p l e R s m args below meth c H locs cells slots (MQ below (ns_Q D b ids S' none A) args s cells slots A) (F0 m pc ls []) :=
  W.vret C.1.1 C.1.2.1 hr (fun t ht hW => ⟨⟨rfl, by rw [ht, ← hS, ns_ups_eq w.2.2.2 hall]; exact w.1, va_K.moved hW.alike C.2.1⟩, w.2.2.1.1.F ht⟩) w.2.2.1.1.2.2 hdg hlk
theorem ns_zb_some {x : Int32} {α : Type} {g : Int32 → Option α} {o : α} (h : (ns_zb x).bind g = some o) : (x = 0 ∨ x = 1) ∧ g x = some o := by
  unfold ns_zb at h
  split at h
  · exact ⟨by assumption, h⟩
  · cases h
/-! calls -/
theorem ns_go {ret : Option Value} {S1 : ns_S} {a : Array Value} {st0 : List Value} (w : ns_W D b ids A H0 Wr S0 S H locs) (hr : va_Run p l e R s m args below meth c H locs cells slots 0 0 (F0 m pc ls st0) rest (ns_Q D b ids S1 ret (va_A (ns_wl D b S ids) H.size) a) (va_A (ns_wl D b S ids) H.size)) (hag : ns_ag Wr S0 S → ns_ag Wr S0 S1)
    (kk : ∀ (H1 : Heap) (locs1 : List Loc), ns_W D b ids A H0 Wr S0 S1 H1 locs1 → W p l e R s m args below meth c H1 locs1 cells slots Q (F0 m (pc + 3) ls (ret.toList ++ rest))) : W p l e R s m args below meth c H locs cells slots Q (F0 m pc ls st0) := by
  obtain ⟨wP, wD, ⟨wS, wA⟩, wg⟩ := w
  have hA : ∀ q, va_A (ns_wl D b S ids) H.size q → A q := by
    intro q h
    rcases h with ⟨k, e, hk⟩ | h
    · exact wD.2 k (q, e) hk
    · exact wA q (Nat.le_trans wS.1 h)
  intro T hT X
  obtain ⟨v, st₀, t, T', L, h0, X', hL, e1, e2, ⟨⟨hv, hP1, hK1⟩, hz, hk⟩, st⟩ := hr T hT X
  cases hv
  rw [h0] at hz hk
  obtain ⟨t2, a1, b1⟩ := kk T'.heap (locs ++ L) ⟨by rw [e1]; exact hP1, ns_D wD, ⟨⟨Nat.le_trans wS.1 (by rw [e1]; exact hz), fun q h1 h2 => by
      rw [e1, hk q (Nat.lt_of_lt_of_le h1 wS.1) (fun z => h2 (hA q z))]; exact wS.2.1 q h1 h2, fun q hq => by
      rcases List.mem_append.mp hq with h | h
      · exact wS.2.2 q h
      · exact hA _ (hL q h)⟩, wA⟩, hag wg⟩ T' rfl X'
  exact ⟨t2, st t2 a1, b1⟩
theorem ns_blind {vals : List Value} {sz : Nat} : FrameBlind (va_Pc vals (ns_P D b ids S sz)) := fun a U g mk q => by
  obtain ⟨q0, q1, qP, qK, qD, qS⟩ := q
  exact ⟨q0, q1, qP, va_K.moved (u := U) (U := U.calling g mk a) (Vm.Alike.refl U.vm) qK, qD, ns_st.same (u := U) (U := U.calling g mk a) rfl (Vm.Alike.refl U.vm) qS⟩
theorem ns_sub (w : ns_W D b ids A H0 Wr S0 S H locs) : ∀ q, va_A (ns_wl D b S ids) H.size q → A q := by
  intro q h
  rcases h with ⟨k, e, hk⟩ | h
  · exact w.2.1.2 k (q, e) hk
  · exact w.2.2.1.2 q (Nat.le_trans w.2.2.1.1.1 h)
theorem ns_pre {vals : List Value} (hK : va_K D vwCl (ns_ty D) s) (hs : ns_st D A s s.heap) (w : ns_W D b ids A s.heap Wr S0 S H locs) : ∀ U : State, U.heap = H → s.WarmedH U.vm → va_Pc vals (ns_P D b ids S H.size) vals.toArray U := fun U hU hW => ⟨rfl, by rw [hU], by rw [hU]; exact w.1, va_K.moved hW.alike hK, w.2.1.weaken (fun _ _ _ _ => trivial), by rw [hU]; exact hs.to hW w.2.2.1.1.2.1 (ns_sub w)⟩
theorem ns_callV (C : ns_C p m c cc nL s args Ts own D A) (w : ns_W D b ids A s.heap Wr S0 S H locs) (i : Nat) (hi : i ∈ ids) {ci : Nat} {fs : List ns_F} (hsh : ns_shp i = .inr (ci, fs)) {CN : String} {T : u_T} {N : Nat} (hc : vwCl[ci]? = some (CN, T, N)) {y : MethodName} {ws ws' : List Cond} {rm : Room} {bytes : ByteArray} {maxL : Nat} {rt : Option FieldType} (As : List Value) {α β : Type} {F : Option β} {g : β → Option α} {o : α} (hf : F.bind g = some o) {ret : β → Option Value} {S1 : β → ns_S} (hM : ∀ u, F = some u → ns_M l y ws rm D b ids S (.ref (b i) :: As) (ret u) (S1 u)) {index n : Nat} (hT : GoodIn Ts (wsV own index CN y ws)) (hw : ws = Cond.code y bytes maxL rt :: ws') (hrc : rm.cells = 0) (hrs : rm.slots = 0) (hd : y.cls = CN ∧ y.cls ≠ "java/lang/invoke/MethodHandle" ∧ y.cls ≠ "java/lang/invoke/VarHandle" ∧ (parseMethodDescriptor y.desc).map (fun d => d.parameters.length) = some n) (hR : rm.frames + 1 ≤ R.frames ∧ 8 + (maxL + 11) + rm.locals ≤ R.locals) (hag : ∀ u, ns_ag Wr S0 S → ns_ag Wr S0 (S1 u)) (hn : As.length = n) (hsize : ls.size = nL) {st : List Value} (hst : st = As.reverse ++ .ref (b i) :: rest) (hroom : (rest.map fun v => v.category).sum ≤ 8) (hcs : cells ≤ R.cells ∧ slots ≤ R.slots) (hdg : decode cc pc = .ok (.invokevirtual index, 3))
    (kk : ∀ (u : β) (H1 : Heap) (locs1 : List Loc), g u = some o → ns_W D b ids A s.heap Wr S0 (S1 u) H1 locs1 → W p l e R s m args below meth c H1 locs1 cells slots Q (F0 m (pc + 3) ls ((ret u).toList ++ rest))) : W p l e R s m args below meth c H locs cells slots Q (F0 m pc ls st) := by
  cases hF : F with
  | none => rw [hF] at hf; cases hf
  | some u =>
    rw [hF] at hf
    obtain ⟨q0, -, he⟩ := ns_at D b S hi
    rw [ns_ce_o hsh] at he
    exact ns_go w (va_runV C.1 (hM u hF H.size) (cwV n C.1.2.2.2.2 hT hw hrc hrs hd hR) ⟨ns_blind, va_recv C.2.1 w.1 hc he, ns_pre C.2.1 C.2.2 w⟩ rfl hn hsize hst (lv_room hroom) hdg hcs) (hag u) (fun H1 locs1 w1 => kk u H1 locs1 hf w1)
theorem ns_callS (C : ns_C p m c cc nL s args Ts own D A) (w : ns_W D b ids A s.heap Wr S0 S H locs) {y : MethodName} {ws ws' : List Cond} {rm : Room} {bytes : ByteArray} {maxL : Nat} {rt : Option FieldType} (As : List Value) {α β : Type} {F : Option β} {g : β → Option α} {o : α} (hf : F.bind g = some o) {ret : β → Option Value} {S1 : β → ns_S} (hM : ∀ u, F = some u → ns_M l y ws rm D b ids S As (ret u) (S1 u)) {index n : Nat} (hT : GoodIn Ts (va_wsS own index y ws)) (hw : ws = Cond.code y bytes maxL rt :: ws') (hrc : rm.cells = 0) (hrs : rm.slots = 0) (hd : y.cls ≠ "java/lang/invoke/MethodHandle" ∧ y.cls ≠ "java/lang/invoke/VarHandle" ∧ (parseMethodDescriptor y.desc).map (fun d => d.parameters.length) = some n) (hR : rm.frames + 1 ≤ R.frames ∧ 8 + (maxL + 11) + rm.locals ≤ R.locals) (hag : ∀ u, ns_ag Wr S0 S → ns_ag Wr S0 (S1 u)) (hn : As.length = n) (hsize : ls.size = nL) {st : List Value} (hst : st = As.reverse ++ rest) (hroom : (rest.map fun v => v.category).sum ≤ 8) (hcs : cells ≤ R.cells ∧ slots ≤ R.slots) (hdg : decode cc pc = .ok (.invokestatic index, 3))
    (kk : ∀ (u : β) (H1 : Heap) (locs1 : List Loc), g u = some o → ns_W D b ids A s.heap Wr S0 (S1 u) H1 locs1 → W p l e R s m args below meth c H1 locs1 cells slots Q (F0 m (pc + 3) ls ((ret u).toList ++ rest))) : W p l e R s m args below meth c H locs cells slots Q (F0 m pc ls st) := by
  cases hF : F with
  | none => rw [hF] at hf; cases hf
  | some u =>
    rw [hF] at hf
    exact ns_go w (va_runS C.1 (hM u hF H.size) (va_cwS n C.1.2.2.2.2 hT hw hrc hrs hd hR) ⟨ns_blind, ns_pre C.2.1 C.2.2 w⟩ rfl hn hsize hst (lv_room hroom) hdg hcs) (hag u) (fun H1 locs1 w1 => kk u H1 locs1 hf w1)
theorem ns_ldiv (C : ns_C p m c cc nL s args Ts own D A) {x y : Int64} {α : Type} {g : Int64 → Option α} {o : α} (hf : (ns_dv x y).bind g = some o) (hdg : decode cc pc = .ok (.ldiv, 1)) (kk : ∀ v : Int64, g v = some o → W p l e R s m args below meth c H locs cells slots Q (F0 m (pc + 1) ls (.long v :: rest))) : W p l e R s m args below meth c H locs cells slots Q (F0 m pc ls (.long y :: .long x :: rest)) := by
  unfold ns_dv at hf
  split at hf
  · cases hf
  · exact lv_ldiv C.1.1 C.1.2.1 hdg (by assumption) (kk _ hf)
end NS1
/-- a number that is none of a switch's lies outside of it -/
theorem ns_out {x : Int32} {lo hi : Int} (h1 : -2147483648 ≤ lo) (h2 : hi < 2147483648) (h : ∀ k : Int, lo ≤ k → k ≤ hi → ¬ x = Int32.ofInt k) : x.toInt < lo ∨ hi < x.toInt := by
  by_cases a : x.toInt < lo
  · exact Or.inl a
  · by_cases c : hi < x.toInt
    · exact Or.inr c
    · exact absurd (Int32.ofInt_toInt x).symm (h x.toInt (by omega) (by omega))
