/-! PURE PART, tools: rows and numbers -/
def nM : Int32 := -1
theorem nz_m1 : (-1 : Int32) = nM := rfl
theorem nz0 : (0 : Int32) = nI 0 := rfl
theorem nz1 : (1 : Int32) = nI 1 := rfl
theorem nz2 : (2 : Int32) = nI 2 := rfl
theorem nz3 : (3 : Int32) = nI 3 := rfl
theorem nz4 : (4 : Int32) = nI 4 := rfl
theorem nz5 : (5 : Int32) = nI 5 := rfl
theorem nz6 : (6 : Int32) = nI 6 := rfl
theorem nz10 : (10 : Int32) = nI 10 := rfl
theorem nz16 : (16 : Int32) = nI 16 := rfl
theorem nz_ald {f : Nat → Int32} {n k : Nat} (h : k < n) (hn : n < 1000) : ns_ald f n (nI k) = some (f k) := by
  unfold ns_ald
  rw [nI_clamp (by omega), if_pos ⟨nI_pos' (by omega), h⟩]
theorem nz_ast {f : Nat → Int32} {n k : Nat} {v : Int32} (h : k < n) (hn : n < 1000) : ns_ast f n (nI k) v = some (upd f k v) := by
  unfold ns_ast
  rw [nI_clamp (by omega), if_pos ⟨nI_pos' (by omega), h⟩]
theorem nz_let {α β : Type} (e : α) (k : α → Option β) : ns_let e k = k e := rfl
theorem nM_toInt : nM.toInt = -1 := by decide
theorem nz_eqM {a : Nat} (h : a < 2 ^ 31) : (nI a = nM) = False := by
  refine eq_false fun e => ?_
  have := congrArg Int32.toInt e
  rw [nI_toInt h, nM_toInt] at this
  omega
theorem nz_Meq {a : Nat} (h : a < 2 ^ 31) : (nM = nI a) = False := by
  refine eq_false fun e => ?_
  have := congrArg Int32.toInt e
  rw [nI_toInt h, nM_toInt] at this
  omega
theorem nz_ltM {a : Nat} (h : a < 2 ^ 31) : (nI a < nM) = False := by
  refine eq_false fun e => ?_
  have := Int32.lt_iff_toInt_lt.mp e
  rw [nI_toInt h, nM_toInt] at this
  omega
theorem nz_leM {a : Nat} (h : a < 2 ^ 31) : (nI a ≤ nM) = False := by
  refine eq_false fun e => ?_
  have := Int32.le_iff_toInt_le.mp e
  rw [nI_toInt h, nM_toInt] at this
  omega
theorem nz_Mlt {a : Nat} (h : a < 2 ^ 31) : (nM < nI a) = True := by
  refine eq_true (Int32.lt_iff_toInt_lt.mpr ?_)
  rw [nI_toInt h, nM_toInt]
  omega
theorem nz_Mle {a : Nat} (h : a < 2 ^ 31) : (nM ≤ nI a) = True := by
  refine eq_true (Int32.le_iff_toInt_le.mpr ?_)
  rw [nI_toInt h, nM_toInt]
  omega
theorem nz_le {a b : Nat} (ha : a < 2 ^ 31) (hb : b < 2 ^ 31) : (nI a ≤ nI b) = (a ≤ b) := propext (nI_leI ha hb)
theorem nz_lt {a b : Nat} (ha : a < 2 ^ 31) (hb : b < 2 ^ 31) : (nI a < nI b) = (a < b) := propext (nI_ltI ha hb)
theorem nz_eq {a b : Nat} (ha : a < 2 ^ 31) (hb : b < 2 ^ 31) : (nI a = nI b) = (a = b) := propext (nI_eq ha hb)
/-- an answer that may be NONE -/
def oI : Option Nat → Int32
  | none => nM
  | some k => nI k
/-- the first k from i on, of d, with W k = c -/
def rkN (W : Nat → Nat) (c : Nat) : Nat → Nat → Option Nat
  | 0, _ => none
  | d + 1, i => if W i = c then some i else rkN W c d (i + 1)
theorem rankOf_loop {N p c n : Nat} {wc wi : Nat → Int32} {W : Nat → Nat} (hp : p < 30) (hwc : wc p = nI n) (hn : n ≤ 6) (hW : ∀ k, k < n → wi (p * 6 + k) = nI (W k)) (hb : ∀ k, k < n → W k < 10) (hc : c < 10) : ∀ d i m, i + d = n → d < m → fX4_rankOf_2 N m wc wi (nI p) (nI c) (nI i) = some (oI (rkN W c d i)) := by
  intro d
  induction d with
  | zero =>
    intro i m h1 h2
    obtain ⟨m, rfl⟩ : ∃ z, m = z + 1 := ⟨m - 1, by omega⟩
    show gX4_rankOf_2 N (fX4_rankOf_2 N m) wc wi (nI p) (nI c) (nI i) = _
    simp (disch := omega) only [gX4_rankOf_2, fX4_courseOfRank, ↓nz_m1, nz6, nz_ald, hwc, Option.bind_some, nz_le]
    rw [if_pos (by omega)]
    rfl
  | succ d ih =>
    intro i m h1 h2
    obtain ⟨m, rfl⟩ : ∃ z, m = z + 1 := ⟨m - 1, by omega⟩
    show gX4_rankOf_2 N (fX4_rankOf_2 N m) wc wi (nI p) (nI c) (nI i) = _
    have h3 := hW i (by omega)
    have h4 := hb i (by omega)
    simp (disch := omega) only [gX4_rankOf_2, fX4_courseOfRank, ↓nz_m1, nz6, nz1, nz_ald, hwc, Option.bind_some, nz_le, pk_mul, nI_add, h3, nz_eq, nz_let]
    rw [if_neg (by omega), ih (i + 1) m (by omega) (by omega)]
    show _ = some (oI (if W i = c then some i else rkN W c d (i + 1)))
    by_cases h : W i = c
    · rw [if_pos h, if_pos h]; rfl
    · rw [if_neg h, if_neg h]
theorem rankOf_eq {N p c n : Nat} {wc wi : Nat → Int32} {W : Nat → Nat} (hN : 7 < N) (hp : p < 30) (hwc : wc p = nI n) (hn : n ≤ 6) (hW : ∀ k, k < n → wi (p * 6 + k) = nI (W k)) (hb : ∀ k, k < n → W k < 10) (hc : c < 10) : fX4_rankOf N wc wi (nI p) (nI c) = some (oI (rkN W c n 0)) :=
  rankOf_loop hp hwc hn hW hb hc n 0 N (by omega) (by omega)
