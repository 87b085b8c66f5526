/-! the text of fees: its tokens -/
def lD (x : Nat) : Bool := decide (48 ≤ x ∧ x ≤ 57)
def lL (x : Nat) : Bool := decide (97 ≤ x ∧ x ≤ 122)
def lS (x : Nat) : Bool := decide (x = 10 ∨ x = 32)
def lG (x : Nat) : Bool := decide (x = 58 ∨ x = 59 ∨ x = 47 ∨ x = 60 ∨ x = 62 ∨ x = 61)
def TB (tp : Nat → Int32) (u : Nat → Nat) : Prop := ∀ j, j < 500 → u j < 256 ∧ (tp j &&& 255) = nI (u j) ∧ ((u j < 128 ∧ tp j = nI (u j)) ∨ (128 ≤ u j ∧ tp j < 0))
theorem and255 (a : Nat) : nI a &&& 255 = nI (a % 256) := by
  rw [show (255 : Int32) = nI (2 ^ 8 - 1) from rfl, nI_and, Nat.and_two_pow_sub_one_eq_mod]
theorem TB_ex {tp : Nat → Int32} (h : ∀ j, j < 500 → -128 ≤ (tp j).toInt ∧ (tp j).toInt < 128) : ∃ u, TB tp u := by
  refine ⟨fun j => (tp j).toBitVec.toNat % 256, fun j hj => ?_⟩
  have hx : tp j = nI (tp j).toBitVec.toNat := by
    refine Int32.toBitVec_inj.mp ?_
    rw [nI_bv]
    exact BitVec.eq_of_toNat_eq (by rw [BitVec.toNat_ofNat, Nat.mod_eq_of_lt (BitVec.isLt _)])
  have hlt : (tp j).toBitVec.toNat < 2 ^ 32 := BitVec.isLt _
  obtain ⟨h1, h2⟩ := h j hj
  refine ⟨Nat.mod_lt _ (by decide), ?_, ?_⟩
  · rw [hx, and255]
  · have hti : (tp j).toInt = if 2 * (tp j).toBitVec.toNat < 2 ^ 32 then ((tp j).toBitVec.toNat : Int) else ((tp j).toBitVec.toNat : Int) - (2 ^ 32 : Nat) := BitVec.toInt_eq_toNat_cond _
    by_cases hc : 2 * (tp j).toBitVec.toNat < 2 ^ 32
    · rw [if_pos hc] at hti
      have h3 : (tp j).toBitVec.toNat < 128 := by omega
      refine Or.inl ⟨by dsimp only; omega, ?_⟩
      dsimp only
      rw [Nat.mod_eq_of_lt (by omega)]
      exact hx
    · rw [if_neg hc] at hti
      refine Or.inr ⟨by dsimp only; omega, ?_⟩
      refine Int32.lt_iff_toInt_lt.mpr ?_
      show (tp j).toInt < 0
      omega
section LX
variable {N : Nat} {tp : Nat → Int32} {u : Nat → Nat} {t : Nat}
theorem neg_lt {x : Int32} {k : Nat} (h : x < 0) (hk : k < 2 ^ 31) : x < nI k := by
  have a1 := Int32.lt_iff_toInt_lt.mp h
  have h0 : (0 : Int32).toInt = 0 := by decide
  refine Int32.lt_iff_toInt_lt.mpr ?_
  rw [nI_toInt hk]
  omega
theorem neg_ne {x : Int32} {k : Nat} (h : x < 0) (hk : k < 2 ^ 31) : ¬ x = nI k := fun e => nI_lt0 hk (e ▸ h)
theorem dig_eq (hT : TB tp u) {j : Nat} (hj : j < 500) : fX9_isDigit N (tp j) = some (eI (lD (u j))) := by
  obtain ⟨h1, -, h2⟩ := hT j hj
  unfold fX9_isDigit
  rcases h2 with ⟨a, b⟩ | ⟨a, b⟩
  · rw [b, show (48 : Int32) = nI 48 from rfl, show (57 : Int32) = nI 57 from rfl, iteq (nz_lt (by omega) (by omega)), iteq (c := nI 57 < nI (u j)) (nz_lt (by omega) (by omega))]
    by_cases z : u j < 48
    · rw [if_pos z, show lD (u j) = false from decide_eq_false (by omega)]; rfl
    · rw [if_neg z]
      by_cases y : 57 < u j
      · rw [if_pos y, show lD (u j) = false from decide_eq_false (by omega)]; rfl
      · rw [if_neg y, show lD (u j) = true from decide_eq_true (by omega)]; rfl
  · rw [if_pos (show tp j < 48 from neg_lt (k := 48) b (by omega)), show lD (u j) = false from decide_eq_false (by omega)]; rfl
theorem let_eq (hT : TB tp u) {j : Nat} (hj : j < 500) : fX9_isLetter N (tp j) = some (eI (lL (u j))) := by
  obtain ⟨h1, -, h2⟩ := hT j hj
  unfold fX9_isLetter
  rcases h2 with ⟨a, b⟩ | ⟨a, b⟩
  · rw [b, show (97 : Int32) = nI 97 from rfl, show (122 : Int32) = nI 122 from rfl, iteq (nz_lt (by omega) (by omega)), iteq (c := nI 122 < nI (u j)) (nz_lt (by omega) (by omega))]
    by_cases z : u j < 97
    · rw [if_pos z, show lL (u j) = false from decide_eq_false (by omega)]; rfl
    · rw [if_neg z]
      by_cases y : 122 < u j
      · rw [if_pos y, show lL (u j) = false from decide_eq_false (by omega)]; rfl
      · rw [if_neg y, show lL (u j) = true from decide_eq_true (by omega)]; rfl
  · rw [if_pos (show tp j < 97 from neg_lt (k := 97) b (by omega)), show lL (u j) = false from decide_eq_false (by omega)]; rfl
theorem ch_eq (hT : TB tp u) {j k : Nat} (hj : j < 500) (hk : k < 128) : (tp j = nI k) = (u j = k) := by
  obtain ⟨h1, -, h2⟩ := hT j hj
  rcases h2 with ⟨a, b⟩ | ⟨a, b⟩
  · rw [b]; exact nz_eq (by omega) (by omega)
  · exact propext ⟨fun e => absurd e (neg_ne b (by omega)), fun e => by omega⟩
theorem sgn_eq (hT : TB tp u) {j : Nat} (hj : j < 500) : fX9_isSign N (tp j) = some (eI (lG (u j))) := by
  unfold fX9_isSign
  have h58 : (tp j = 58) = (u j = 58) := ch_eq (k := 58) hT hj (by decide)
  have h59 : (tp j = 59) = (u j = 59) := ch_eq (k := 59) hT hj (by decide)
  have h47 : (tp j = 47) = (u j = 47) := ch_eq (k := 47) hT hj (by decide)
  have h60 : (tp j = 60) = (u j = 60) := ch_eq (k := 60) hT hj (by decide)
  have h62 : (tp j = 62) = (u j = 62) := ch_eq (k := 62) hT hj (by decide)
  have h61 : (tp j = 61) = (u j = 61) := ch_eq (k := 61) hT hj (by decide)
  simp only [h58, h59, h47, h60, h62, h61]
  by_cases a : u j = 58
  · rw [if_pos a, show lG (u j) = true from decide_eq_true (by omega)]; rfl
  rw [if_neg a]
  by_cases b : u j = 59
  · rw [if_pos b, show lG (u j) = true from decide_eq_true (by omega)]; rfl
  rw [if_neg b]
  by_cases c : u j = 47
  · rw [if_pos c, show lG (u j) = true from decide_eq_true (by omega)]; rfl
  rw [if_neg c]
  by_cases d : u j = 60
  · rw [if_pos d, show lG (u j) = true from decide_eq_true (by omega)]; rfl
  rw [if_neg d]
  by_cases e : u j = 62
  · rw [if_pos e, show lG (u j) = true from decide_eq_true (by omega)]; rfl
  rw [if_neg e]
  by_cases f : u j = 61
  · rw [if_pos f, show lG (u j) = true from decide_eq_true (by omega)]; rfl
  rw [if_neg f, show lG (u j) = false from decide_eq_false (by omega)]; rfl
def run (P : Nat → Bool) : Nat → Nat → Nat
  | 0, q => q
  | d + 1, q => if P q = true then run P d (q + 1) else q
theorem run_ge {P : Nat → Bool} : ∀ d q, q ≤ run P d q ∧ run P d q ≤ q + d ∧ (∀ j, q ≤ j → j < run P d q → P j = true) ∧ (run P d q < q + d → P (run P d q) = false)
  | 0, q => ⟨Nat.le_refl _, Nat.le_refl _, fun j a b => absurd (Nat.lt_of_le_of_lt a b) (Nat.lt_irrefl q), fun h => absurd h (Nat.lt_irrefl q)⟩
  | d + 1, q => by
    unfold run
    by_cases h : P q = true
    · rw [if_pos h]
      obtain ⟨a, b, c, e⟩ := run_ge (P := P) d (q + 1)
      refine ⟨by omega, by omega, fun j h1 h2 => ?_, fun h3 => e (by omega)⟩
      by_cases z : j = q
      · rw [z]; exact h
      · exact c j (by omega) h2
    · rw [if_neg h]
      exact ⟨Nat.le_refl _, by omega, fun j a b => absurd (Nat.lt_of_le_of_lt a b) (Nat.lt_irrefl q), fun _ => Bool.eq_false_iff.mpr h⟩
def eL (u : Nat → Nat) (t q : Nat) : Nat := run (fun j => lL (u j)) (t - q) q
def eD (u : Nat → Nat) (t q : Nat) : Nat := run (fun j => lD (u j)) (t - q) q
def stB (u : Nat → Nat) (q : Nat) : Bool := if lD (u q) = true then decide (q = 0) || !lD (u (q - 1)) else if lL (u q) = true then decide (q = 0) || !lL (u (q - 1)) else !lS (u q)
def cS (u : Nat → Nat) : Nat → Nat
  | 0 => 0
  | q + 1 => cS u q + if stB u q = true then 1 else 0
def dvl (u : Nat → Nat) (q : Nat) : Nat → Nat
  | 0 => 0
  | m + 1 => if m < 5 then dvl u q m * 10 + (u (q + m) - 48) else dvl u q m
def mtB (u : Nat → Nat) (t q k : Nat) : Bool := decide (eL u t q - q = ns_len.getD k 0 ∧ ∀ i, i < ns_len.getD k 0 → nI (u (q + i)) = (ns_byt.getD k []).getD i 0)
def fldW (B : Nat → Bool) : Nat → Option Nat
  | 0 => none
  | n + 1 => if B n = true then some n else fldW B n
def kwd : Option Nat → Nat
  | none => 1
  | some k => k + 201
def kd (u : Nat → Nat) (t q : Nat) : Nat := if lD (u q) = true then (if eD u t q - q ≤ 5 then 2 else 1) else if lL (u q) = true then kwd (fldW (mtB u t q) 15) else if lG (u q) = true then u q else 1
def nm (u : Nat → Nat) (t q : Nat) : Nat := if lD (u q) = true then dvl u q (eD u t q - q) else 0
theorem cS_le : ∀ q, cS u q ≤ q
  | 0 => Nat.le_refl _
  | q + 1 => by
    have := cS_le q
    unfold cS
    split <;> omega
theorem cS_mono {q : Nat} : ∀ d, cS u q ≤ cS u (q + d)
  | 0 => Nat.le_refl _
  | d + 1 => by
    have := cS_mono (q := q) d
    show cS u q ≤ cS u (q + d) + _
    omega
theorem cS_lt {q q' : Nat} (h : q < q') (hs : stB u q = true) : cS u q < cS u q' := by
  have h1 := cS_mono (u := u) (q := q + 1) (q' - (q + 1))
  rw [show q + 1 + (q' - (q + 1)) = q' by omega] at h1
  have h2 : cS u (q + 1) = cS u q + 1 := by
    show cS u q + (if stB u q = true then 1 else 0) = _
    rw [if_pos hs]
  omega
theorem tok_eq {c : Nat} {k p m : Nat → Int32} {a b d : Int32} (hc : c < 501) : fX9_addToken N (nI c) k p m a b d = some (upd k c a, upd p c b, upd m c d, nI (c + 1)) := by
  unfold fX9_addToken
  rw [if_neg (show ¬ 501 ≤ nI c from nI_ge (b := 501) (by omega) (by omega)), nz_ast hc (by omega), Option.bind_some, nz_ast hc (by omega), Option.bind_some, nz_ast hc (by omega), Option.bind_some, nz_let, nI_1]
theorem dig_val (h : lD (u t) = true) : 48 ≤ u t ∧ u t ≤ 57 := of_decide_eq_true h
theorem eI_ne {b : Bool} (h : b = true) : ¬ eI b = 0 := by rw [h]; decide
theorem eI_is {b : Bool} (h : ¬ b = true) : eI b = 0 := by rw [Bool.eq_false_iff.mpr h]; rfl
theorem addNum (hT : TB tp u) (ht : t ≤ 500) {q c : Nat} {k p m : Nat → Int32} (hq : q < t) (hc : c < 501) (hN : 1000 < N) (hd : lD (u q) = true) : fX9_addNumber N 500 tp (nI c) k p m (nI q) (nI t) = some (upd k c (nI (kd u t q)), upd p c (nI q), upd m c (nI (nm u t q)), nI (c + 1)) := by
  obtain ⟨r1, r2, r3, r4⟩ := run_ge (P := fun j => lD (u j)) (t - q) q
  have hk : kd u t q = if eD u t q - q ≤ 5 then 2 else 1 := by unfold kd; rw [if_pos hd]
  have hn : nm u t q = dvl u q (eD u t q - q) := by unfold nm; rw [if_pos hd]
  have fin : gX9_addNumber_51 N 500 tp (nI c) k p m (nI q) (nI (dvl u q (eD u t q - q))) (nI (eD u t q)) = some (upd k c (nI (kd u t q)), upd p c (nI q), upd m c (nI (nm u t q)), nI (c + 1)) := by
    unfold gX9_addNumber_51 gX9_addNumber_65
    have he : eD u t q ≤ 500 := by show run _ _ _ ≤ 500; omega
    have hge : q ≤ eD u t q := r1
    rw [pk_sub hge, hk, hn, show (5 : Int32) = nI 5 from rfl, iteq (nz_lt (by omega) (by omega))]
    by_cases z : 5 < eD u t q - q
    · rw [if_pos z, if_neg (by omega), tok_eq hc]; rfl
    · rw [if_neg z, if_pos (by omega), tok_eq hc]; rfl
  have loop : ∀ d i z, i + d = eD u t q → d < z → q ≤ i → fX9_addNumber_6 N 500 z tp (nI c) k p m (nI q) (nI t) (nI (dvl u q (i - q))) (nI i) = some (upd k c (nI (kd u t q)), upd p c (nI q), upd m c (nI (nm u t q)), nI (c + 1)) := by
    intro d
    induction d with
    | zero =>
      intro i z h1 h2 h3
      obtain ⟨z, rfl⟩ : ∃ w, z = w + 1 := ⟨z - 1, by omega⟩
      obtain rfl : i = eD u t q := by omega
      rw [show fX9_addNumber_6 N 500 (z + 1) = gX9_addNumber_6 N 500 (fX9_addNumber_6 N 500 z) from rfl]
      unfold gX9_addNumber_6
      by_cases y : t ≤ eD u t q
      · rw [if_pos (nI_le y (by show run _ _ _ < _; omega))]
        exact fin
      · have hlt : eD u t q < 500 := by omega
        have hf : lD (u (eD u t q)) = false := r4 (by show eD u t q < _; omega)
        rw [if_neg (nI_ge (by omega) (by omega)), nz_ald hlt (by omega), Option.bind_some, dig_eq hT hlt, Option.bind_some, if_pos (eI_is (by rw [hf]; decide))]
        exact fin
    | succ d ih =>
      intro i z h1 h2 h3
      obtain ⟨z, rfl⟩ : ∃ w, z = w + 1 := ⟨z - 1, by omega⟩
      have hi : i < eD u t q := by omega
      have hle : eD u t q ≤ t := by show run _ _ _ ≤ t; omega
      have hi5 : i < 500 := by omega
      have hdi : lD (u i) = true := r3 i h3 hi
      have hv : 48 ≤ u i ∧ u i ≤ 57 := of_decide_eq_true hdi
      have h4 := ih (i + 1) z (by omega) (by omega) (by omega)
      rw [show i + 1 - q = (i - q) + 1 by omega] at h4
      have h5 : dvl u q (i - q + 1) = if i - q < 5 then dvl u q (i - q) * 10 + (u (q + (i - q)) - 48) else dvl u q (i - q) := rfl
      rw [h5, show q + (i - q) = i by omega] at h4
      rw [show fX9_addNumber_6 N 500 (z + 1) = gX9_addNumber_6 N 500 (fX9_addNumber_6 N 500 z) from rfl]
      unfold gX9_addNumber_6
      rw [if_neg (nI_ge (by omega) (by omega)), nz_ald hi5 (by omega), Option.bind_some, dig_eq hT hi5, Option.bind_some, if_neg (eI_ne hdi), pk_sub h3]
      by_cases y : i - q < 5
      · rw [if_pos y] at h4
        obtain ⟨-, -, w⟩ := hT i hi5
        have hti : tp i = nI (u i) := by
          rcases w with w | w
          · exact w.2
          · omega
        rw [if_neg (show ¬ 5 ≤ nI (i - q) from nI_ge (b := 5) (by omega) (by omega)), Option.bind_some, nz_let, nz_let, nI_1, hti, show (48 : Int32) = nI 48 from rfl, pk_sub hv.1, nz10, pk_mul, nI_add]
        exact h4
      · rw [if_neg y] at h4
        rw [if_pos (show 5 ≤ nI (i - q) from nI_le (a := 5) (by omega) (by omega)), nz_let, nI_1]
        exact h4
  have := loop (eD u t q - q) q N (by have : q ≤ eD u t q := r1; omega) (by have : eD u t q ≤ q + (t - q) := r2; omega) (Nat.le_refl _)
  rw [Nat.sub_self] at this
  exact this
end LX
