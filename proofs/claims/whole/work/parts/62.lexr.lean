/-! the text of fees: the reference's next -/
def nx (u : Nat → Nat) (t a : Nat) : Nat := run (fun j => lS (u j)) (t - a) a
def kK (u : Nat → Nat) (t q : Nat) : Nat := if t ≤ q then 0 else kd u t q
def mN (u : Nat → Nat) (t q : Nat) : Nat := if t ≤ q then 0 else nm u t q
def eN (u : Nat → Nat) (t q : Nat) : Nat := if t ≤ q then q else if lD (u q) = true then eD u t q else if lL (u q) = true then eL u t q else q + 1
def nxt (u : Nat → Nat) (t q : Nat) : Nat := nx u t (eN u t q)
/-- a token of the class (kind, number) and one of the reference (sort, value) are alike -/
def TK (k m : Nat) (s v : Int32) : Prop := (k = 0 ∧ s = 0) ∨ (k = 1 ∧ (s = 1 ∨ (s = 2 ∧ v = nM))) ∨ (k = 2 ∧ s = 3 ∧ v = nI m ∧ m < 100000) ∨ (201 ≤ k ∧ k ≤ 215 ∧ s = 2 ∧ v = nI (k - 201)) ∨ (47 ≤ k ∧ k ≤ 62 ∧ s = 4 ∧ v = nI k)
def enc (f : Nat → Nat) : Nat → Nat
  | 0 => 0
  | n + 1 => enc f n * 256 + f n
theorem enc_inj {f g : Nat → Nat} : ∀ n m, (∀ i, i < n → 1 ≤ f i ∧ f i < 256) → (∀ i, i < m → 1 ≤ g i ∧ g i < 256) → enc f n = enc g m → n = m ∧ ∀ i, i < n → f i = g i
  | 0, 0, _, _, _ => ⟨rfl, fun i h => absurd h (Nat.not_lt_zero i)⟩
  | 0, m + 1, _, hg, e => by
    have h1 := hg m (by omega)
    have h2 : (0 : Nat) = enc g m * 256 + g m := e
    omega
  | n + 1, 0, hf, _, e => by
    have h1 := hf n (by omega)
    have h2 : enc f n * 256 + f n = 0 := e
    omega
  | n + 1, m + 1, hf, hg, e => by
    have h1 := hf n (by omega)
    have h2 := hg m (by omega)
    have h3 : enc f n * 256 + f n = enc g m * 256 + g m := e
    obtain ⟨h4, h5⟩ := enc_inj n m (fun i hi => hf i (by omega)) (fun i hi => hg i (by omega)) (by omega)
    subst h4
    refine ⟨rfl, fun i hi => ?_⟩
    by_cases q : i = n
    · rw [q]; omega
    · exact h5 i (by omega)
theorem enc_congr {f g : Nat → Nat} : ∀ n, (∀ i, i < n → f i = g i) → enc f n = enc g n
  | 0, _ => rfl
  | n + 1, h => by
    show enc f n * 256 + f n = enc g n * 256 + g n
    rw [enc_congr n (fun i hi => h i (by omega)), h n (by omega)]
theorem enc_lt {f : Nat → Nat} : ∀ n, (∀ i, i < n → f i < 256) → enc f n < 256 ^ n
  | 0, _ => Nat.one_pos
  | n + 1, h => by
    have h1 := enc_lt n (fun i hi => h i (by omega))
    have h2 := h n (by omega)
    show enc f n * 256 + f n < 256 ^ (n + 1)
    rw [Nat.pow_succ]
    omega
theorem enc7 {f : Nat → Nat} {n : Nat} (hn : n ≤ 7) (h : ∀ i, i < n → f i < 256) : enc f n < 2 ^ 56 := by
  have h1 := enc_lt n h
  have h2 : 256 ^ n ≤ 256 ^ 7 := Nat.pow_le_pow_right (by decide) hn
  have h3 : (256 : Nat) ^ 7 = 2 ^ 56 := by decide
  omega
def byN : List (List Nat) := [[119, 104, 101, 110], [97, 110, 100], [97, 103, 101], [112, 117, 114, 115, 101], [99, 111, 117, 114, 115, 101, 115], [115, 117, 109], [102, 105, 114, 115, 116], [119, 101, 101, 107], [97, 100, 100], [108, 101, 115, 115], [112, 97, 114, 116], [108, 101, 97, 115, 116], [109, 111, 115, 116], [102, 114, 101, 101], [101, 110, 100]]
def byF (k i : Nat) : Nat := (byN.getD k []).getD i 0
theorem by_ok : ∀ k, k < 15 → ∀ i, i < 7 → (ns_byt.getD k []).getD i 0 = nI (byF k i) := by decide +kernel
theorem by_rg : ∀ k, k < 15 → ∀ i, i < ns_len.getD k 0 → 1 ≤ byF k i ∧ byF k i < 256 := by decide +kernel
theorem wd_ok : ∀ k, k < 15 → ns_wd k = lN (enc (byF k) (ns_len.getD k 0)) := by decide +kernel
theorem sh8 {a x : Nat} (ha : a < 2 ^ 48) (hx : x < 256) : (lN a <<< ((8 : Int32).toInt64 &&& 63)) ||| (nI x).toInt64 = lN (a * 256 + x) := by
  rw [nI_l (by omega), show ((8 : Int32).toInt64 &&& 63) = lN 8 from by decide +kernel]
  refine Int64.toBitVec_inj.mp ?_
  rw [Int64.toBitVec_or, Int64.toBitVec_shiftLeft]
  show (BitVec.ofNat 64 a <<< (BitVec.ofNat 64 8).smod 64) ||| BitVec.ofNat 64 x = BitVec.ofNat 64 (a * 256 + x)
  rw [show (BitVec.ofNat 64 8).smod 64 = BitVec.ofNat 64 8 from by decide +kernel]
  refine BitVec.eq_of_toNat_eq ?_
  rw [BitVec.toNat_or, BitVec.shiftLeft_eq', BitVec.toNat_shiftLeft, BitVec.toNat_ofNat, BitVec.toNat_ofNat, BitVec.toNat_ofNat, BitVec.toNat_ofNat, Nat.mod_eq_of_lt (show 8 < 2 ^ 64 by decide), Nat.shiftLeft_eq, Nat.mod_eq_of_lt (show a < 2 ^ 64 by omega), Nat.mod_eq_of_lt (show x < 2 ^ 64 by omega), Nat.mod_eq_of_lt (show a * 2 ^ 8 < 2 ^ 64 by omega), Nat.mod_eq_of_lt (show a * 256 + x < 2 ^ 64 by omega)]
  rw [show a * 2 ^ 8 = 2 ^ 8 * a by omega, ← Nat.two_pow_add_eq_or_of_lt (by omega : x < 2 ^ 8), show 2 ^ 8 * a + x = a * 256 + x by omega]
section LZ
variable {N : Nat} {tp : Nat → Int32} {u : Nat → Nat} {t : Nat}
theorem see_lt (hT : TB tp u) (ht : t ≤ 500) {j : Nat} (h : j < t) : fX11_see N (nI j) (nI t) tp = some (nI (u j)) := by
  unfold fX11_see
  rw [if_neg (nI_ge h (by omega)), nz_ald (by omega) (by omega), Option.bind_some, (hT j (by omega)).2.1]
theorem see_ge (ht : t ≤ 500) {j : Nat} (h : t ≤ j) (hj : j < 2 ^ 31) : fX11_see N (nI j) (nI t) tp = some nM := by
  unfold fX11_see
  rw [if_pos (nI_le h hj)]
  rfl
theorem inLD {x a b : Nat} (hx : x < 2 ^ 31) (ha : a < 2 ^ 31) (hb : b < 2 ^ 31) : fX11_in N (nI x) (nI a) (nI b) = some (eI (decide (a ≤ x ∧ x ≤ b))) := by
  unfold fX11_in
  rw [iteq (nz_lt hx ha), iteq (c := nI b < nI x) (nz_lt hb hx)]
  by_cases p : x < a
  · rw [if_pos p, decide_eq_false (by omega)]; rfl
  · rw [if_neg p]
    by_cases q : b < x
    · rw [if_pos q, decide_eq_false (by omega)]; rfl
    · rw [if_neg q, decide_eq_true (by omega)]; rfl
theorem inM {a b : Nat} (ha : a < 2 ^ 31) : fX11_in N nM (nI a) (nI b) = some 0 := by
  unfold fX11_in
  rw [if_pos (by rw [nz_Mlt ha]; exact trivial)]
theorem mt_iff {q k : Nat} (hq : q ≤ t) (hk : k < 15) (h8 : eL u t q - q < 8) : (ns_wd k = lN (enc (fun i => u (q + i)) (eL u t q - q))) = (mtB u t q k = true) := by
  have hu : ∀ i, i < eL u t q - q → 97 ≤ u (q + i) ∧ u (q + i) ≤ 122 := fun i hi => let_val (eL_in (t := t) (q := q) (by omega) (by omega))
  have h7 := len_lt k
  have b1 := enc7 (f := fun i => u (q + i)) (n := eL u t q - q) (by omega) (fun i hi => by have := hu i hi; omega)
  have b2 := enc7 (f := byF k) (n := ns_len.getD k 0) h7 (fun i hi => (by_rg k hk i hi).2)
  rw [wd_ok k hk, pk_lEQ (by omega) (by omega)]
  refine propext ⟨fun e => ?_, fun e => ?_⟩
  · obtain ⟨c1, c2⟩ := enc_inj _ _ (fun i hi => by_rg k hk i hi) (fun i hi => by have := hu i hi; omega) e
    refine decide_eq_true ⟨c1.symm, fun i hi => ?_⟩
    rw [by_ok k hk i (by omega), c2 i hi]
  · obtain ⟨c1, c2⟩ := of_decide_eq_true e
    rw [c1]
    refine enc_congr _ (fun i hi => ?_)
    have := c2 i hi
    rw [by_ok k hk i (by omega)] at this
    have h3 := hu i (by omega)
    have h4 := (by_rg k hk i hi).2
    exact ((nI_eq (by omega) (by omega)).mp this).symm
theorem fld_none {B : Nat → Bool} : ∀ n, (∀ k, k < n → B k = false) → fldW B n = none
  | 0, _ => rfl
  | n + 1, h => by
    show (if B n = true then some n else fldW B n) = none
    rw [if_neg (by rw [h n (by omega)]; decide)]
    exact fld_none n (fun k hk => h k (by omega))
theorem fld_lt {B : Nat → Bool} : ∀ n k, fldW B n = some k → k < n
  | 0, k, h => by cases h
  | n + 1, k, h => by
    have h1 : (if B n = true then some n else fldW B n) = some k := h
    by_cases q : B n = true
    · rw [if_pos q] at h1; cases h1; omega
    · rw [if_neg q] at h1
      have := fld_lt n k h1
      omega
/-- the words' loop -/
theorem n130 {q : Nat} {w : Int64} (hq : q ≤ t) (ht : t ≤ 500) (hw : eL u t q - q < 8 → w = lN (enc (fun i => u (q + i)) (eL u t q - q))) {A P S : Int32} (hN : 1000 < N) : fX11_next_130 N N A (nI t) tp P (-1) S (nI (eL u t q - q)) w 0 = some (P, oI (fldW (mtB u t q) 15), A, S) := by
  obtain ⟨e1, e2⟩ := eL_le (u := u) hq
  by_cases h8 : 8 ≤ eL u t q - q
  · obtain ⟨z, rfl⟩ : ∃ z, N = z + 1 := ⟨N - 1, by omega⟩
    rw [show fX11_next_130 (z + 1) (z + 1) = gX11_next_130 (z + 1) (fX11_next_130 (z + 1) z) from rfl]
    unfold gX11_next_130
    rw [if_neg (by decide), if_pos (show 8 ≤ nI (eL u t q - q) from nI_le (a := 8) h8 (by omega)), fld_none (B := mtB u t q) 15 (fun k hk => decide_eq_false (fun c => by have := len_lt k; omega))]
    rfl
  · have loop : ∀ d i z, i + d = 15 → d < z → fX11_next_130 N z A (nI t) tp P (oI (fldW (mtB u t q) i)) S (nI (eL u t q - q)) w (nI i) = some (P, oI (fldW (mtB u t q) 15), A, S) := by
      intro d
      induction d with
      | zero =>
        intro i z h1 h2
        obtain ⟨z, rfl⟩ : ∃ y, z = y + 1 := ⟨z - 1, by omega⟩
        obtain rfl : i = 15 := by omega
        rw [show fX11_next_130 N (z + 1) = gX11_next_130 N (fX11_next_130 N z) from rfl]
        unfold gX11_next_130
        rw [if_pos (by decide)]
      | succ d ih =>
        intro i z h1 h2
        obtain ⟨z, rfl⟩ : ∃ y, z = y + 1 := ⟨z - 1, by omega⟩
        have h3 := ih (i + 1) z (by omega) (by omega)
        rw [show fldW (mtB u t q) (i + 1) = if mtB u t q i = true then some i else fldW (mtB u t q) i from rfl] at h3
        rw [show fX11_next_130 N (z + 1) = gX11_next_130 N (fX11_next_130 N z) from rfl]
        unfold gX11_next_130
        have hl : ns_lld ns_wd 15 (nI i) = some (ns_wd i) := by
          unfold ns_lld
          rw [nI_clamp (by omega), if_pos ⟨nI_pos' (by omega), by omega⟩]
        rw [if_neg (show ¬ (15 : Int32) ≤ nI i from nI_ge (b := 15) (by omega) (by omega)), if_neg (show ¬ (8 : Int32) ≤ nI (eL u t q - q) from nI_ge (b := 8) (by omega) (by omega)), hl, Option.bind_some, iteq (propext (lg_cmp_eq _ _)), hw (by omega), iteq (mt_iff hq (by omega) (by omega))]
        by_cases hm : mtB u t q i = true
        · rw [if_pos hm, nz_let, nI_1]
          rw [if_pos hm] at h3
          exact (hw (by omega)) ▸ h3
        · rw [if_neg hm, nz_let, nI_1]
          rw [if_neg hm] at h3
          exact (hw (by omega)) ▸ h3
    exact loop 15 0 N rfl (by omega)
theorem n76 (hT : TB tp u) {q : Nat} (hq : q < t) (ht : t ≤ 500) (hN : 1000 < N) {v s : Int32} : fX11_next_76 N N (nI q) (nI t) tp (nI q) v s 0 0 = some (nI q, oI (fldW (mtB u t q) 15), nI (eL u t q), 2) := by
  obtain ⟨e1, e2⟩ := eL_le (u := u) (Nat.le_of_lt hq)
  have loop : ∀ d i z (w : Int64), i + d = eL u t q → d < z → q ≤ i → (i - q < 8 → w = lN (enc (fun i => u (q + i)) (i - q))) → fX11_next_76 N z (nI i) (nI t) tp (nI q) v s (nI (i - q)) w = some (nI q, oI (fldW (mtB u t q) 15), nI (eL u t q), 2) := by
    intro d
    induction d with
    | zero =>
      intro i z w h1 h2 h3 h4
      obtain ⟨z, rfl⟩ : ∃ y, z = y + 1 := ⟨z - 1, by omega⟩
      obtain rfl : i = eL u t q := by omega
      rw [show fX11_next_76 N (z + 1) = gX11_next_76 N (fX11_next_76 N z) from rfl]
      unfold gX11_next_76
      by_cases y : eL u t q < t
      · rw [see_lt hT ht y, Option.bind_some, show fX11_in N (nI (u (eL u t q))) 97 122 = some (eI (lL (u (eL u t q)))) from inLD (a := 97) (b := 122) (by have := (hT (eL u t q) (by omega)).1; omega) (by decide) (by decide), Option.bind_some, eL_out (Nat.le_of_lt hq) y, if_pos (show eI false = 0 from rfl)]
        exact n130 (Nat.le_of_lt hq) ht h4 hN
      · rw [see_ge ht (by omega) (by omega), Option.bind_some, show fX11_in N nM 97 122 = some 0 from inM (a := 97) (b := 122) (by decide), Option.bind_some, if_pos rfl]
        exact n130 (Nat.le_of_lt hq) ht h4 hN
    | succ d ih =>
      intro i z w h1 h2 h3 h4
      obtain ⟨z, rfl⟩ : ∃ y, z = y + 1 := ⟨z - 1, by omega⟩
      rw [show fX11_next_76 N (z + 1) = gX11_next_76 N (fX11_next_76 N z) from rfl]
      unfold gX11_next_76
      have hL : lL (u i) = true := eL_in (t := t) (q := q) h3 (by omega)
      have hv := let_val hL
      rw [see_lt hT ht (by omega), Option.bind_some, show fX11_in N (nI (u i)) 97 122 = some (eI (lL (u i))) from inLD (a := 97) (b := 122) (by omega) (by decide) (by decide), Option.bind_some, if_neg (eI_ne hL), Option.bind_some, nz_let, nz_let, nz_let, nI_1, nI_1]
      have h5 := ih (i + 1) z ((w <<< ((8 : Int32).toInt64 &&& 63)) ||| (nI (u i)).toInt64) (by omega) (by omega) (by omega) (fun h8 => by
        have hb := enc7 (f := fun j => u (q + j)) (n := i - q) (by omega) (fun j hj => by have := let_val (eL_in (u := u) (t := t) (q := q) (j := q + j) (by omega) (by omega)); omega)
        have hb6 : enc (fun j => u (q + j)) (i - q) < 2 ^ 48 := by
          have c1 := enc_lt (f := fun j => u (q + j)) (i - q) (fun j hj => by have := let_val (eL_in (u := u) (t := t) (q := q) (j := q + j) (by omega) (by omega)); omega)
          have c2 : 256 ^ (i - q) ≤ 256 ^ 6 := Nat.pow_le_pow_right (by decide) (by omega)
          have c3 : (256 : Nat) ^ 6 = 2 ^ 48 := by decide
          omega
        rw [h4 (by omega), sh8 hb6 (by omega), show i + 1 - q = (i - q) + 1 by omega]
        show _ = lN (enc (fun i => u (q + i)) (i - q) * 256 + u (q + (i - q)))
        rw [show q + (i - q) = i by omega])
      rw [show i + 1 - q = i - q + 1 by omega] at h5
      exact h5
  have := loop (eL u t q - q) q N 0 (by omega) (by omega) (Nat.le_refl _) (fun _ => by rw [Nat.sub_self]; rfl)
  rw [Nat.sub_self] at this
  exact this
theorem dvl_lt {q : Nat} : ∀ n, (∀ i, i < n → u (q + i) ≤ 57) → dvl u q n < 10 ^ min n 5
  | 0, _ => Nat.one_pos
  | n + 1, h => by
    have h1 := dvl_lt n (fun i hi => h i (by omega))
    have h2 := h n (by omega)
    show (if n < 5 then dvl u q n * 10 + (u (q + n) - 48) else dvl u q n) < _
    by_cases c : n < 5
    · rw [if_pos c, show min (n + 1) 5 = min n 5 + 1 by omega, Nat.pow_succ]
      omega
    · rw [if_neg c, show min (n + 1) 5 = min n 5 by omega]
      exact h1
theorem nm_lt {q : Nat} (hq : q ≤ t) : nm u t q < 100000 := by
  unfold nm
  by_cases c : lD (u q) = true
  · rw [if_pos c]
    have h1 := dvl_lt (u := u) (q := q) (eD u t q - q) (fun i hi => by
      have : 48 ≤ u (q + i) ∧ u (q + i) ≤ 57 := of_decide_eq_true (eD_in (u := u) (t := t) (q := q) (j := q + i) (by omega) (by omega))
      omega)
    have h2 : 10 ^ min (eD u t q - q) 5 ≤ 10 ^ 5 := Nat.pow_le_pow_right (by decide) (by omega)
    omega
  · rw [if_neg c]; decide
theorem n195 (hT : TB tp u) {q : Nat} (hq : q < t) (ht : t ≤ 500) (hN : 1000 < N) {s : Int32} : fX11_next_195 N N (nI q) (nI t) tp (nI q) 0 s 0 = some (nI q, nI (dvl u q (eD u t q - q)), nI (eD u t q), if eD u t q - q ≤ 5 then 3 else 1) := by
  obtain ⟨e1, e2⟩ := eD_le (u := u) (Nat.le_of_lt hq)
  have fin : (if nI (eD u t q - q) ≤ 5 then some (nI q, nI (dvl u q (eD u t q - q)), nI (eD u t q), (3 : Int32)) else some (nI q, nI (dvl u q (eD u t q - q)), nI (eD u t q), 1)) = some (nI q, nI (dvl u q (eD u t q - q)), nI (eD u t q), if eD u t q - q ≤ 5 then (3 : Int32) else 1) := by
    rw [iteq (show (nI (eD u t q - q) ≤ 5) = (eD u t q - q ≤ 5) from nz_le (b := 5) (by omega) (by decide))]
    split <;> rfl
  have loop : ∀ d i z, i + d = eD u t q → d < z → q ≤ i → fX11_next_195 N z (nI i) (nI t) tp (nI q) (nI (dvl u q (i - q))) s (nI (i - q)) = some (nI q, nI (dvl u q (eD u t q - q)), nI (eD u t q), if eD u t q - q ≤ 5 then 3 else 1) := by
    intro d
    induction d with
    | zero =>
      intro i z h1 h2 h3
      obtain ⟨z, rfl⟩ : ∃ y, z = y + 1 := ⟨z - 1, by omega⟩
      obtain rfl : i = eD u t q := by omega
      rw [show fX11_next_195 N (z + 1) = gX11_next_195 N (fX11_next_195 N z) from rfl]
      unfold gX11_next_195
      by_cases y : eD u t q < t
      · rw [see_lt hT ht y, Option.bind_some, show fX11_in N (nI (u (eD u t q))) 48 57 = some (eI (lD (u (eD u t q)))) from inLD (a := 48) (b := 57) (by have := (hT (eD u t q) (by omega)).1; omega) (by decide) (by decide), Option.bind_some, eD_out (Nat.le_of_lt hq) y, if_pos (show eI false = 0 from rfl)]
        exact fin
      · rw [see_ge ht (by omega) (by omega), Option.bind_some, show fX11_in N nM 48 57 = some 0 from inM (a := 48) (b := 57) (by decide), Option.bind_some, if_pos rfl]
        exact fin
    | succ d ih =>
      intro i z h1 h2 h3
      obtain ⟨z, rfl⟩ : ∃ y, z = y + 1 := ⟨z - 1, by omega⟩
      rw [show fX11_next_195 N (z + 1) = gX11_next_195 N (fX11_next_195 N z) from rfl]
      unfold gX11_next_195
      have hd : lD (u i) = true := eD_in (t := t) (q := q) h3 (by omega)
      have hv : 48 ≤ u i ∧ u i ≤ 57 := of_decide_eq_true hd
      have h4 := ih (i + 1) z (by omega) (by omega) (by omega)
      rw [show i + 1 - q = (i - q) + 1 by omega] at h4
      have h5 : dvl u q (i - q + 1) = if i - q < 5 then dvl u q (i - q) * 10 + (u (q + (i - q)) - 48) else dvl u q (i - q) := rfl
      rw [h5, show q + (i - q) = i by omega] at h4
      rw [see_lt hT ht (by omega), Option.bind_some, show fX11_in N (nI (u i)) 48 57 = some (eI (lD (u i))) from inLD (a := 48) (b := 57) (by omega) (by decide) (by decide), Option.bind_some, if_neg (eI_ne hd)]
      by_cases c : i - q < 5
      · rw [if_pos c] at h4
        rw [if_neg (show ¬ (5 : Int32) ≤ nI (i - q) from nI_ge (b := 5) c (by omega)), Option.bind_some]
        unfold gX11_next_237
        rw [nz_let, nz_let, nI_1, nI_1, show ((10 : Int32) * nI (dvl u q (i - q)) + nI (u i)) - 48 = nI (dvl u q (i - q) * 10 + (u i - 48)) by
          rw [nz10, pk_mul, nI_add, show (48 : Int32) = nI 48 from rfl, pk_sub (by omega)]
          congr 1
          omega]
        exact h4
      · rw [if_neg c] at h4
        rw [if_pos (show (5 : Int32) ≤ nI (i - q) from nI_le (a := 5) (by omega) (by omega))]
        unfold gX11_next_237
        rw [nz_let, nz_let, nI_1, nI_1]
        exact h4
  have := loop (eD u t q - q) q N (by omega) (by omega) (Nat.le_refl _)
  rw [Nat.sub_self] at this
  exact this
theorem nx_ge {a : Nat} (h : a ≤ t) : a ≤ nx u t a ∧ nx u t a ≤ t ∧ (∀ j, a ≤ j → j < nx u t a → lS (u j) = true) ∧ (nx u t a < t → lS (u (nx u t a)) = false) := by
  obtain ⟨r1, r2, r3, r4⟩ := run_ge (P := fun j => lS (u j)) (t - a) a
  exact ⟨r1, by show run _ _ _ ≤ t; omega, r3, fun h => r4 (by show nx u t a < _; omega)⟩
theorem next_eq (hT : TB tp u) (ht : t ≤ 500) (hN : 1000 < N) {a : Nat} (ha : a ≤ t) (P V S : Int32) : ∃ s v, fX11_next N (nI a) (nI t) tp P V S = some (nI (nx u t a), v, nI (eN u t (nx u t a)), s) ∧ TK (kK u t (nx u t a)) (mN u t (nx u t a)) s v := by
  obtain ⟨r1, r2, r3, r4⟩ := nx_ge (u := u) ha
  have at_q : ∀ z, ∃ s v, gX11_next_0 N (fX11_next_0 N z) (nI (nx u t a)) (nI t) tp P V S = some (nI (nx u t a), v, nI (eN u t (nx u t a)), s) ∧ TK (kK u t (nx u t a)) (mN u t (nx u t a)) s v := by
    intro z
    generalize nx u t a = q at r1 r2 r3 r4
    unfold gX11_next_0
    by_cases y : q < t
    · have hs := r4 y
      have h10 : ¬ u q = 10 := fun e => by rw [show lS (u q) = true from decide_eq_true (Or.inl e)] at hs; cases hs
      have h32 : ¬ u q = 32 := fun e => by rw [show lS (u q) = true from decide_eq_true (Or.inr e)] at hs; cases hs
      have hu := (hT q (by omega)).1
      have ek : kK u t q = kd u t q := by unfold kK; rw [if_neg (by omega)]
      have em : mN u t q = nm u t q := by unfold mN; rw [if_neg (by omega)]
      have hnm := nm_lt (u := u) (Nat.le_of_lt y)
      rw [see_lt hT ht y, Option.bind_some, if_neg (show ¬ nI (u q) = 10 from fun e => h10 ((nI_eq (b := 10) (by omega) (by decide)).mp e)), Option.bind_some, if_neg (show ¬ nI (u q) = 32 from fun e => h32 ((nI_eq (b := 32) (by omega) (by decide)).mp e)), Option.bind_some, if_pos (nI_pos' (by omega)), show fX11_in N (nI (u q)) 97 122 = some (eI (lL (u q))) from inLD (a := 97) (b := 122) (by omega) (by decide) (by decide), Option.bind_some, ek, em]
      unfold eN
      rw [if_neg (show ¬ t ≤ q by omega)]
      by_cases hL : lL (u q) = true
      · have hv := let_val hL
        have hD : lD (u q) = false := decide_eq_false (by omega)
        rw [if_neg (eI_ne hL), n76 hT y ht hN, if_neg (by rw [hD]; decide), if_pos hL]
        refine ⟨_, _, rfl, ?_⟩
        rw [show kd u t q = kwd (fldW (mtB u t q) 15) by unfold kd; rw [if_neg (by rw [hD]; decide), if_pos hL]]
        cases hf : fldW (mtB u t q) 15 with
        | none => exact Or.inr (Or.inl ⟨rfl, Or.inr ⟨rfl, rfl⟩⟩)
        | some k =>
          have := fld_lt 15 k hf
          refine Or.inr (Or.inr (Or.inr (Or.inl ⟨?_, ?_, rfl, ?_⟩)))
          · show 201 ≤ k + 201; omega
          · show k + 201 ≤ 215; omega
          · show nI k = nI (k + 201 - 201); rw [Nat.add_sub_cancel]
      · rw [if_pos (eI_is hL), show fX11_in N (nI (u q)) 48 57 = some (eI (lD (u q))) from inLD (a := 48) (b := 57) (by omega) (by decide) (by decide), Option.bind_some]
        by_cases hD : lD (u q) = true
        · rw [if_neg (eI_ne hD), n195 hT y ht hN, if_pos hD]
          refine ⟨_, _, rfl, ?_⟩
          rw [show kd u t q = if eD u t q - q ≤ 5 then 2 else 1 by unfold kd; rw [if_pos hD], show nm u t q = dvl u q (eD u t q - q) by unfold nm; rw [if_pos hD]]
          rw [show nm u t q = dvl u q (eD u t q - q) by unfold nm; rw [if_pos hD]] at hnm
          by_cases c : eD u t q - q ≤ 5
          · rw [if_pos c, if_pos c]
            exact Or.inr (Or.inr (Or.inl ⟨rfl, rfl, rfl, hnm⟩))
          · rw [if_neg c, if_neg c]
            exact Or.inr (Or.inl ⟨rfl, Or.inl rfl⟩)
        · rw [if_pos (eI_is hD), nz_let, nI_1, if_neg hD, if_neg hL]
          have hk : kd u t q = if lG (u q) = true then u q else 1 := by unfold kd; rw [if_neg hD, if_neg hL]
          have e58 : (nI (u q) = 58) = (u q = 58) := nz_eq (b := 58) (by omega) (by decide)
          have e59 : (nI (u q) = 59) = (u q = 59) := nz_eq (b := 59) (by omega) (by decide)
          have e47 : (nI (u q) = 47) = (u q = 47) := nz_eq (b := 47) (by omega) (by decide)
          have e60 : (nI (u q) = 60) = (u q = 60) := nz_eq (b := 60) (by omega) (by decide)
          have e62 : (nI (u q) = 62) = (u q = 62) := nz_eq (b := 62) (by omega) (by decide)
          have e61 : (nI (u q) = 61) = (u q = 61) := nz_eq (b := 61) (by omega) (by decide)
          rw [iteq e58, iteq e59, iteq e47, iteq e60, iteq e62, iteq e61]
          by_cases g : lG (u q) = true
          · have g2 : u q = 58 ∨ u q = 59 ∨ u q = 47 ∨ u q = 60 ∨ u q = 62 ∨ u q = 61 := of_decide_eq_true g
            refine ⟨4, nI (u q), ?_, ?_⟩
            · by_cases a1 : u q = 58
              · rw [if_pos a1]
              rw [if_neg a1]
              by_cases a2 : u q = 59
              · rw [if_pos a2]
              rw [if_neg a2]
              by_cases a3 : u q = 47
              · rw [if_pos a3]
              rw [if_neg a3]
              by_cases a4 : u q = 60
              · rw [if_pos a4]
              rw [if_neg a4]
              by_cases a5 : u q = 62
              · rw [if_pos a5]
              rw [if_neg a5, if_pos (by omega)]
            · rw [hk, if_pos g]
              exact Or.inr (Or.inr (Or.inr (Or.inr ⟨by omega, by omega, rfl, rfl⟩)))
          · have g2 : ¬ (u q = 58 ∨ u q = 59 ∨ u q = 47 ∨ u q = 60 ∨ u q = 62 ∨ u q = 61) := of_decide_eq_false (Bool.eq_false_iff.mpr g)
            refine ⟨1, nI (u q), ?_, ?_⟩
            · rw [if_neg (by omega), if_neg (by omega), if_neg (by omega), if_neg (by omega), if_neg (by omega), if_neg (by omega)]
            · rw [hk, if_neg g]
              exact Or.inr (Or.inl ⟨rfl, Or.inl rfl⟩)
    · rw [see_ge ht (by omega) (by omega), Option.bind_some, if_neg (by decide), Option.bind_some, if_neg (by decide), Option.bind_some, if_neg (by decide)]
      refine ⟨0, nM, ?_, Or.inl ⟨?_, rfl⟩⟩
      · unfold eN
        rw [if_pos (by omega)]
      · unfold kK
        rw [if_pos (by omega)]
  have loop : ∀ d i z, i + d = nx u t a → d < z → a ≤ i → ∃ s v, fX11_next_0 N z (nI i) (nI t) tp P V S = some (nI (nx u t a), v, nI (eN u t (nx u t a)), s) ∧ TK (kK u t (nx u t a)) (mN u t (nx u t a)) s v := by
    intro d
    induction d with
    | zero =>
      intro i z h1 h2 h3
      obtain ⟨z, rfl⟩ : ∃ y, z = y + 1 := ⟨z - 1, by omega⟩
      obtain rfl : i = nx u t a := by omega
      exact at_q z
    | succ d ih =>
      intro i z h1 h2 h3
      obtain ⟨z, rfl⟩ : ∃ y, z = y + 1 := ⟨z - 1, by omega⟩
      have hs := r3 i h3 (by omega)
      have h5 : u i = 10 ∨ u i = 32 := of_decide_eq_true hs
      rw [show fX11_next_0 N (z + 1) = gX11_next_0 N (fX11_next_0 N z) from rfl]
      unfold gX11_next_0
      rw [see_lt hT ht (by omega), Option.bind_some]
      rcases h5 with h5 | h5
      · rw [h5, if_pos (show nI 10 = 10 from rfl)]
        unfold gX11_next_18
        rw [nz_let, nI_1]
        exact ih (i + 1) z (by omega) (by omega) (by omega)
      · rw [h5, if_neg (show ¬ nI 32 = 10 by decide), Option.bind_some, if_pos (show nI 32 = 32 from rfl)]
        unfold gX11_next_18
        rw [nz_let, nI_1]
        exact ih (i + 1) z (by omega) (by omega) (by omega)
  exact loop (nx u t a - a) a N (by omega) (by omega) (Nat.le_refl _)
/-! positions of tokens -/
def BD (u : Nat → Nat) (a : Nat) : Prop := a = 0 ∨ ((lD (u a) = true → lD (u (a - 1)) = false) ∧ (lL (u a) = true → lL (u (a - 1)) = false))
def PT (u : Nat → Nat) (t q : Nat) : Prop := q ≤ t ∧ (q < t → stB u q = true)
theorem cS_flat {a : Nat} : ∀ d, (∀ j, a ≤ j → j < a + d → stB u j = false) → cS u (a + d) = cS u a
  | 0, _ => rfl
  | d + 1, h => by
    rw [show a + (d + 1) = a + d + 1 by omega, cS_0 (h (a + d) (by omega) (by omega))]
    exact cS_flat d (fun j h1 h2 => h j h1 (by omega))
theorem sp_no {x : Nat} (h : lS x = true) : lD x = false ∧ lL x = false := by
  have h1 : x = 10 ∨ x = 32 := of_decide_eq_true h
  exact ⟨decide_eq_false (by omega), decide_eq_false (by omega)⟩
theorem st_sp {j : Nat} (h : lS (u j) = true) : stB u j = false := by
  obtain ⟨h1, h2⟩ := sp_no h
  unfold stB
  rw [if_neg (by rw [h1]; decide), if_neg (by rw [h2]; decide), h]
  rfl
theorem nx_PT {a : Nat} (ha : a ≤ t) (hb : a < t → BD u a) : PT u t (nx u t a) ∧ cS u (nx u t a) = cS u a := by
  obtain ⟨r1, r2, r3, r4⟩ := nx_ge (u := u) ha
  refine ⟨⟨r2, fun y => ?_⟩, ?_⟩
  · have hs := r4 y
    have hb2 : BD u (nx u t a) := by
      by_cases e : nx u t a = a
      · rw [e]; exact hb (by omega)
      · obtain ⟨h1, h2⟩ := sp_no (r3 (nx u t a - 1) (by omega) (by omega))
        exact Or.inr ⟨fun _ => h1, fun _ => h2⟩
    unfold stB
    by_cases hD : lD (u (nx u t a)) = true
    · rw [if_pos hD]
      rcases hb2 with h | h
      · rw [decide_eq_true h]; rfl
      · rw [h.1 hD, Bool.or_eq_true]; exact Or.inr rfl
    · rw [if_neg hD]
      by_cases hL : lL (u (nx u t a)) = true
      · rw [if_pos hL]
        rcases hb2 with h | h
        · rw [decide_eq_true h]; rfl
        · rw [h.2 hL, Bool.or_eq_true]; exact Or.inr rfl
      · rw [if_neg hL, hs]; rfl
  · have := cS_flat (u := u) (a := a) (nx u t a - a) (fun j h1 h2 => st_sp (r3 j h1 (by omega)))
    rw [show a + (nx u t a - a) = nx u t a by omega] at this
    exact this
theorem eN_ok {q : Nat} (hq : q < t) (hs : stB u q = true) : q < eN u t q ∧ eN u t q ≤ t ∧ (eN u t q < t → BD u (eN u t q)) ∧ cS u (eN u t q) = cS u q + 1 := by
  unfold eN
  rw [if_neg (by omega)]
  by_cases hD : lD (u q) = true
  · rw [if_pos hD]
    obtain ⟨e1, e2⟩ := eD_le (u := u) (Nat.le_of_lt hq)
    have e3 : q < eD u t q := by
      rcases Nat.lt_or_ge q (eD u t q) with h | h
      · exact h
      · have h1 : eD u t q = q := by omega
        have h2 := eD_out (u := u) (Nat.le_of_lt hq) (by omega)
        rw [h1, hD] at h2
        cases h2
    have hp : lD (u (eD u t q - 1)) = true := eD_in (t := t) (q := q) (by omega) (by omega)
    refine ⟨e3, e2, fun y => ?_, ?_⟩
    · have h2 := eD_out (u := u) (Nat.le_of_lt hq) y
      have h3 : 48 ≤ u (eD u t q - 1) ∧ u (eD u t q - 1) ≤ 57 := of_decide_eq_true hp
      exact Or.inr ⟨fun h => (by rw [h2] at h; cases h), fun _ => decide_eq_false (by omega)⟩
    · have := cS_flat (u := u) (a := q + 1) (eD u t q - (q + 1)) (fun j h1 h2 => by
        have g1 : lD (u j) = true := eD_in (u := u) (t := t) (q := q) (by omega) (by omega)
        have g2 : lD (u (j - 1)) = true := eD_in (u := u) (t := t) (q := q) (by omega) (by omega)
        unfold stB
        rw [if_pos g1, g2, decide_eq_false (by omega)]
        rfl)
      rw [show q + 1 + (eD u t q - (q + 1)) = eD u t q by omega, cS_1 hs] at this
      exact this
  · rw [if_neg hD]
    by_cases hL : lL (u q) = true
    · rw [if_pos hL]
      obtain ⟨e1, e2⟩ := eL_le (u := u) (Nat.le_of_lt hq)
      have e3 : q < eL u t q := by
        rcases Nat.lt_or_ge q (eL u t q) with h | h
        · exact h
        · have h1 : eL u t q = q := by omega
          have h2 := eL_out (u := u) (Nat.le_of_lt hq) (by omega)
          rw [h1, hL] at h2
          cases h2
      have hp : lL (u (eL u t q - 1)) = true := eL_in (t := t) (q := q) (by omega) (by omega)
      refine ⟨e3, e2, fun y => ?_, ?_⟩
      · have h2 := eL_out (u := u) (Nat.le_of_lt hq) y
        have h3 := let_val hp
        exact Or.inr ⟨fun _ => decide_eq_false (by omega), fun h => (by rw [h2] at h; cases h)⟩
      · have := cS_flat (u := u) (a := q + 1) (eL u t q - (q + 1)) (fun j h1 h2 => by
          have g1 : lL (u j) = true := eL_in (u := u) (t := t) (q := q) (by omega) (by omega)
          have g2 : lL (u (j - 1)) = true := eL_in (u := u) (t := t) (q := q) (by omega) (by omega)
          have g3 := let_val g1
          unfold stB
          rw [if_neg (show ¬ lD (u j) = true from fun h => by have : 48 ≤ u j ∧ u j ≤ 57 := of_decide_eq_true h; omega), if_pos g1, g2, decide_eq_false (by omega)]
          rfl)
        rw [show q + 1 + (eL u t q - (q + 1)) = eL u t q by omega, cS_1 hs] at this
        exact this
    · rw [if_neg hL]
      refine ⟨by omega, by omega, fun _ => Or.inr ⟨fun _ => ?_, fun _ => ?_⟩, cS_1 hs⟩
      · rw [Nat.add_sub_cancel]; exact Bool.eq_false_iff.mpr hD
      · rw [Nat.add_sub_cancel]; exact Bool.eq_false_iff.mpr hL
theorem nxt_ok {q : Nat} (h : PT u t q) (hq : q < t) : PT u t (nxt u t q) ∧ q < nxt u t q ∧ cS u (nxt u t q) = cS u q + 1 := by
  obtain ⟨a1, a2, a3, a4⟩ := eN_ok (u := u) hq (h.2 hq)
  obtain ⟨b1, b2⟩ := nx_PT (u := u) a2 a3
  have b3 := (nx_ge (u := u) a2).1
  refine ⟨b1, ?_, by show cS u (nx u t (eN u t q)) = _; rw [b2, a4]⟩
  show q < nx u t (eN u t q)
  omega
theorem kK_t {q : Nat} (h : kK u t q ≠ 0) : q < t := by
  rcases Nat.lt_or_ge q t with c | c
  · exact c
  · exact absurd (show kK u t q = 0 by unfold kK; rw [if_pos c]) h
end LZ
