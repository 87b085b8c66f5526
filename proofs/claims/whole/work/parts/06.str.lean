/-! String constants: their spelling, length, letters (the JDK's own methods under them) -/
theorem ns_ite_lt {c : Prop} [Decidable c] {a b n : Nat} (h1 : a < n) (h2 : b < n) : (if c then a else b) < n := by
  by_cases h : c
  · rw [if_pos h]; exact h1
  · rw [if_neg h]; exact h2
theorem ns_sp_lt (w : Int32) : ns_sp w < 15 := by
  unfold ns_sp
  iterate 14 refine ns_ite_lt (by decide) ?_
  decide
theorem ns_unit {α : Type} {x : Option α} {o : α} (h : x = some o) : ((some ()).bind fun _ => x) = some o := h
abbrev rmX9_spelling : Room := { frames := 0, cells := 0, slots := 0, locals := 0 }
abbrev rmX9_isSameWord : Room := { frames := 5, cells := 0, slots := 0, locals := 120 }
theorem hdX9_spelling : yX9_spelling.cls ≠ "java/lang/invoke/MethodHandle" ∧ yX9_spelling.cls ≠ "java/lang/invoke/VarHandle" ∧ (parseMethodDescriptor yX9_spelling.desc).map (fun d => d.parameters.length) = some 1 := by decide +kernel
theorem hdX9_isSameWord : yX9_isSameWord.cls ≠ "java/lang/invoke/MethodHandle" ∧ yX9_isSameWord.cls ≠ "java/lang/invoke/VarHandle" ∧ (parseMethodDescriptor yX9_isSameWord.desc).map (fun d => d.parameters.length) = some 4 := by decide +kernel
theorem mX9_spelling (l : Launch) (D : va_G) (b : Nat → Nat) (ids : List Nat) (S : ns_S) (p0 : Int32) : ns_M l yX9_spelling wsX9_spelling rmX9_spelling D b ids S [.int p0] (some (.ref (D.2 200 (ns_sp p0)))) S := sorry
theorem mX9_isSameWord (l : Launch) (D : va_G) (b : Nat → Nat) (ids : List Nat) (hI : ∀ i, i < 107 → i ∈ ids) (N : Nat) (S : ns_S) (p1 p2 : Int32) (k : Nat) (hk : k < 15) {o : Int32} (hf : fX9_isSameWord N (S.2.1 1) p1 p2 k = some o) : ns_M l yX9_isSameWord wsX9_isSameWord rmX9_isSameWord D b ids S [.ref (b 1), .int p1, .int p2, .ref (D.2 200 k)] (some (.int o)) S := sorry
