/-! bill and line, second -/
def eI (b : Bool) : Int32 := if b = true then 1 else 0
def prc (X : SX) (p c : Nat) : Nat := if (X 84 p).testBit c = true then X 72 c else 0
noncomputable def stF (N : Nat) (S : ns_S) (X : SX) (p : Nat) (s : Nat × Bool) (l : Nat) : Nat × Bool := if s.2 = true then s else if hldR N S p l (lN s.1) = some 1 then (if X 93 l = 14 then (s.1, true) else (actN (X 93 l) (X 94 l) (X 95 l) s.1, false)) else s
noncomputable def bF (N : Nat) (S : ns_S) (X : SX) (p : Nat) : Nat → Nat × Bool
  | 0 => (sm (prc X p) (X 67 0), false)
  | l + 1 => stF N S X p (bF N S X p l) l
section BJ
variable {N n : Nat} {S : ns_S} {X : SX}
theorem cap_eq {e : Int32} {a1 a2 a3 a4 a5 a6 a7 a8 a9 a10 a11 a12 a13 : Nat → Int32} {b : Nat} (hb : b < 2 ^ 63) : gX11_bills_189 N e a1 a2 a3 a4 a5 (lN b) a6 a7 a8 a9 a10 a11 a12 a13 = some (lN (min b 1000000000), e) := by
  unfold gX11_bills_189
  rw [lN_lit, iteq (propext (lg_cmp_le _ _))]
  by_cases q : b ≤ 1000000000
  · rw [if_pos ((pk_lLE hb (by omega)).mpr q), Nat.min_eq_left q]
  · rw [if_neg (fun z => q ((pk_lLE hb (by omega)).mp z)), Nat.min_eq_right (by omega)]
theorem billsR (hN : 20000 ≤ N) (hn : n < 2 ^ 31) (hM : M0 S X) (hC : CB S 28 X) (hV : IV X n) {p l : Nat} (hp : p < 30) (hl : l < X 88 0) {s : Nat × Bool} (hs : s.1 ≤ 1000000000) : fX11_bills N (eI s.2) (S.2.1 89) (S.2.1 90) (S.2.1 74) (S.2.1 75) (S.2.1 84) (lN s.1) (S.2.1 77) (S.2.1 78) (S.2.1 79) (S.2.1 92) (S.2.1 91) (S.2.1 94) (S.2.1 93) (S.2.1 95) (nI p) (nI l) = some (lN (stF N S X p s l).1, eI (stF N S X p s l).2) ∧ (stF N S X p s l).1 ≤ 1000000000 := by
  have m93 : rA (S.2.1 93) (X 93) 16 := hM 93 (by decide) (by decide)
  have m94 : rA (S.2.1 94) (X 94) 16 := hM 94 (by decide) (by decide)
  have m95 : rA (S.2.1 95) (X 95) 16 := hM 95 (by decide) (by decide)
  have h16 := hV.2.2.2.2.2.2.2.1
  obtain ⟨-, f8, f14, fx, fd, -⟩ := hV.2.2.2.2.2.2.2.2 l hl
  obtain ⟨a, e⟩ := s
  have hl16 : l < 16 := by omega
  unfold fX11_bills stF
  cases e with
  | true =>
    rw [if_neg (show ¬ eI true = 0 by decide)]
    exact ⟨rfl, hs⟩
  | false =>
    rw [if_pos (show eI false = 0 from rfl)]
    obtain ⟨b, b0, -, b2⟩ := tests_eq (N := N) hN hn hM hC hV hp hl (lN a)
    have b2' : fX11_holds N (S.2.1 89) (S.2.1 90) (S.2.1 74) (S.2.1 75) (S.2.1 84) (lN a) (S.2.1 77) (S.2.1 78) (S.2.1 79) (S.2.1 92) (S.2.1 91) (nI p) (nI l) = some b := b2
    dsimp only
    rw [b2', Option.bind_some, b2]
    rcases b0 with rfl | rfl
    · rw [if_pos (rfl : (0 : Int32) = 0), if_neg (show ¬ (false = true) by decide), if_neg (show ¬ (some (0 : Int32) = some 1) by decide)]
      exact ⟨rfl, hs⟩
    · have hs' : a ≤ 1000000000 := hs
      rw [if_neg one_ne, if_neg (show ¬ (false = true) by decide), if_pos (rfl : some (1 : Int32) = some 1), nz_ald (show l < 64 by omega) (by omega), m94 l hl16, Option.bind_some, nz_let, nz_ald (show l < 64 by omega) (by omega), m93 l hl16, Option.bind_some]
      by_cases h14 : X 93 l = 14
      · rw [if_pos h14, h14]
        refine ⟨?_, hs⟩
        refine (if_neg (by decide)).trans ((if_neg (by decide)).trans ((if_neg (by decide)).trans ((if_neg (by decide)).trans ((if_neg (by decide)).trans ((if_neg (by decide)).trans ?_)))))
        rw [cap_eq (by omega), Nat.min_eq_left hs']
        rfl
      · rw [if_neg h14]
        have hle := actN_le (k := X 93 l) (x := X 94 l) (d := X 95 l) hs' fx
        refine ⟨?_, hle⟩
        have h6 : X 93 l = 8 ∨ X 93 l = 9 ∨ X 93 l = 10 ∨ X 93 l = 11 ∨ X 93 l = 12 ∨ X 93 l = 13 := by omega
        rcases h6 with h | h | h | h | h | h
        · have hx := fx (by omega)
          rw [h, show actN 8 (X 94 l) (X 95 l) a = min (a + X 94 l) 1000000000 from rfl]
          refine (if_pos rfl).trans ?_
          rw [nz_let, nI_l (by omega), lN_add, cap_eq (by omega)]
        · have hx := fx (by omega)
          rw [h, show actN 9 (X 94 l) (X 95 l) a = a - X 94 l from rfl]
          refine (if_neg (by decide)).trans ((if_pos rfl).trans ?_)
          rw [nI_l (by omega), iteq (propext (lg_cmp_le _ _))]
          unfold gX11_bills_101
          by_cases q : a ≤ X 94 l
          · rw [if_pos ((pk_lLE (by omega) (by omega)).mpr q), lN0, cap_eq (by omega), Nat.sub_eq_zero_of_le q]
            rfl
          · rw [if_neg (fun z => q ((pk_lLE (by omega) (by omega)).mp z)), lN_sub (by omega), cap_eq (by omega), Nat.min_eq_left (by omega)]
        · have hx := fx (by omega)
          obtain ⟨d1, d2⟩ := fd h
          have hax : a * X 94 l < 2 ^ 63 := by
            have : a * X 94 l ≤ 1000000000 * 100000 := Nat.mul_le_mul hs' (by omega)
            omega
          have hq : a * X 94 l / X 95 l < 2 ^ 63 := Nat.lt_of_le_of_lt (Nat.div_le_self _ _) hax
          rw [h, show actN 10 (X 94 l) (X 95 l) a = min (a * X 94 l / X 95 l) 1000000000 from rfl]
          refine (if_neg (by decide)).trans ((if_neg (by decide)).trans ((if_pos rfl).trans ?_))
          rw [nz_ald (show l < 64 by omega) (by omega), m95 l hl16, Option.bind_some, nI_l (by omega), nI_l (by omega), lN_mul]
          unfold ns_dv
          rw [if_neg (show ¬ lN (X 95 l) = 0 from fun z => by have := (pk_lEQ (b := 0) (by omega) (by omega)).mp z; omega), Option.bind_some, pk_lDiv hax (by omega) (by omega), cap_eq hq]
        · have hx := fx (by omega)
          rw [h, show actN 11 (X 94 l) (X 95 l) a = max a (X 94 l) from rfl]
          refine (if_neg (by decide)).trans ((if_neg (by decide)).trans ((if_neg (by decide)).trans ((if_pos rfl).trans ?_)))
          rw [nI_l (by omega), iteq (propext (lg_cmp_ge _ _))]
          unfold gX11_bills_146
          by_cases q : X 94 l ≤ a
          · rw [if_pos ((pk_lLE (by omega) (by omega)).mpr q), cap_eq (by omega), Nat.max_eq_left q, Nat.min_eq_left hs']
          · rw [if_neg (fun z => q ((pk_lLE (by omega) (by omega)).mp z)), cap_eq (by omega), Nat.max_eq_right (by omega), Nat.min_eq_left (by omega)]
        · have hx := fx (by omega)
          rw [h, show actN 12 (X 94 l) (X 95 l) a = min a (X 94 l) from rfl]
          refine (if_neg (by decide)).trans ((if_neg (by decide)).trans ((if_neg (by decide)).trans ((if_neg (by decide)).trans ((if_pos rfl).trans ?_))))
          rw [nI_l (by omega), iteq (propext (lg_cmp_le _ _))]
          unfold gX11_bills_170
          by_cases q : a ≤ X 94 l
          · rw [if_pos ((pk_lLE (by omega) (by omega)).mpr q), cap_eq (by omega), Nat.min_eq_left hs', Nat.min_eq_left q]
          · rw [if_neg (fun z => q ((pk_lLE (by omega) (by omega)).mp z)), cap_eq (by omega), Nat.min_eq_left (by omega), Nat.min_eq_right (by omega)]
        · rw [h, show actN 13 (X 94 l) (X 95 l) a = 0 from rfl]
          refine (if_neg (by decide)).trans ((if_neg (by decide)).trans ((if_neg (by decide)).trans ((if_neg (by decide)).trans ((if_neg (by decide)).trans ((if_pos rfl).trans ?_)))))
          rw [lN0, cap_eq (by omega)]
          rfl
theorem prices_eq (hN : 20000 ≤ N) (hM : M0 S X) (hC : CB S 28 X) (hV : IV X n) {p : Nat} (hp : p < 30) {bl : Int64} {en : Int32} : fX6_pricesOf N (nI (X 67 0)) (S.2.1 47) (S.2.1 36) (nI p) = some (lN (sm (prc X p) (X 67 0))) ∧ fX11_beginBill N bl en (S.2.1 67) (S.2.1 84) (S.2.1 72) (nI p) = some (lN (sm (prc X p) (X 67 0)), 0) ∧ sm (prc X p) (X 67 0) ≤ 1000000000 := by
  have m67 : S.2.1 67 0 = nI (X 67 0) := hM 67 (by decide) (by decide) 0 Nat.one_pos
  have m72 : rA (S.2.1 72) (X 72) 10 := hM 72 (by decide) (by decide)
  have m84 : rA (S.2.1 84) (X 84) 30 := hM 84 (by decide) (by decide)
  have c72 : rA (S.2.1 36) (X 72) 10 := hC.1.2.2.2.2.2.2.2
  have c84 : rA (S.2.1 47) (X 84) 30 := hC.2.2.1.2.2.2.2
  have e0 := E0_of hV
  have hlt := hs_lt hV p hp
  have hnc := e0.2.1
  refine ⟨?_, ?_, ?_⟩
  · have loop : ∀ d i m, i + d = X 67 0 → d < m → fX6_pricesOf_5 N m (nI (X 67 0)) (S.2.1 47) (S.2.1 36) (nI p) (lN (sm (prc X p) i)) (nI i) = some (lN (sm (prc X p) (X 67 0))) := by
      intro d
      induction d with
      | zero =>
        intro i m h1 h2
        obtain ⟨m, rfl⟩ : ∃ z, m = z + 1 := ⟨m - 1, by omega⟩
        rw [show fX6_pricesOf_5 N (m + 1) = gX6_pricesOf_5 N (fX6_pricesOf_5 N m) from rfl]
        unfold gX6_pricesOf_5
        rw [if_pos (nI_le (by omega) (by omega)), show i = X 67 0 by omega]
      | succ d ih =>
        intro i m h1 h2
        obtain ⟨m, rfl⟩ : ∃ z, m = z + 1 := ⟨m - 1, by omega⟩
        have h3 := ih (i + 1) m (by omega) (by omega)
        have h4 : sm (prc X p) (i + 1) = sm (prc X p) i + prc X p i := rfl
        have hpr := hV.2.2.1.1 i (by omega)
        rw [show fX6_pricesOf_5 N (m + 1) = gX6_pricesOf_5 N (fX6_pricesOf_5 N m) from rfl]
        unfold gX6_pricesOf_5
        rw [if_neg (nI_ge (by omega) (by omega)), hasCourse_eq hp (c84 p hp) hlt (by omega), Option.bind_some]
        by_cases z : (X 84 p).testBit i = true
        · rw [if_neg (bt_ne z), nz_ald (show i < 10 by omega) (by omega), c72 i (by omega), Option.bind_some, nz_let, nz_let, nI_l (by omega), lN_add, nI_1]
          rw [h4, show prc X p i = X 72 i from if_pos z] at h3
          exact h3
        · rw [if_pos (bt_is z), nz_let, nI_1]
          rw [h4, show prc X p i = 0 from if_neg z] at h3
          exact h3
    exact loop (X 67 0) 0 N (by omega) (by omega)
  · have loop : ∀ d i m, i + d = X 67 0 → d < m → fX11_beginBill_12 N m (lN (sm (prc X p) i)) 0 (S.2.1 67) (S.2.1 84) (S.2.1 72) (nI p) (nI i) = some (lN (sm (prc X p) (X 67 0)), 0) := by
      intro d
      induction d with
      | zero =>
        intro i m h1 h2
        obtain ⟨m, rfl⟩ : ∃ z, m = z + 1 := ⟨m - 1, by omega⟩
        rw [show fX11_beginBill_12 N (m + 1) = gX11_beginBill_12 N (fX11_beginBill_12 N m) from rfl]
        unfold gX11_beginBill_12
        rw [ald0 (by omega) (by omega), m67, Option.bind_some, if_pos (nI_le (by omega) (by omega)), show i = X 67 0 by omega]
      | succ d ih =>
        intro i m h1 h2
        obtain ⟨m, rfl⟩ : ∃ z, m = z + 1 := ⟨m - 1, by omega⟩
        have h3 := ih (i + 1) m (by omega) (by omega)
        have h4 : sm (prc X p) (i + 1) = sm (prc X p) i + prc X p i := rfl
        have hpr := hV.2.2.1.1 i (by omega)
        rw [show fX11_beginBill_12 N (m + 1) = gX11_beginBill_12 N (fX11_beginBill_12 N m) from rfl]
        unfold gX11_beginBill_12
        rw [ald0 (by omega) (by omega), m67, Option.bind_some, if_neg (nI_ge (by omega) (by omega)), nz_ald (show p < 120 by omega) (by omega), m84 p hp, Option.bind_some, bt_shr i (by omega) _ hlt]
        by_cases z : (X 84 p).testBit i = true
        · rw [if_neg (bt_ne z), nz_ald (show i < 40 by omega) (by omega), m72 i (by omega), Option.bind_some, nz_let, nz_let, nI_l (by omega), lN_add, nI_1]
          rw [h4, show prc X p i = X 72 i from if_pos z] at h3
          exact h3
        · rw [if_pos (bt_is z), nz_let, nz_let, nI_1, lN0, lN_add]
          rw [h4, show prc X p i = 0 from if_neg z] at h3
          exact h3
    exact loop (X 67 0) 0 N (by omega) (by omega)
  · have : sm (prc X p) (X 67 0) ≤ X 67 0 * 100000 := sm_le _ (fun k hk => by
      unfold prc
      split
      · have := hV.2.2.1.1 k (by omega); omega
      · omega)
    omega
theorem bF_le (hN : 20000 ≤ N) (hn : n < 2 ^ 31) (hM : M0 S X) (hC : CB S 28 X) (hV : IV X n) {p : Nat} (hp : p < 30) : ∀ l, l ≤ X 88 0 → (bF N S X p l).1 ≤ 1000000000
  | 0, _ => (prices_eq (N := N) hN hM hC hV hp (bl := 0) (en := 0)).2.2
  | l + 1, h => (billsR hN hn hM hC hV hp (by omega) (bF_le hN hn hM hC hV hp l (by omega))).2
theorem bF_end {p : Nat} {l : Nat} (h : (bF N S X p l).2 = true) : ∀ d, bF N S X p (l + d) = bF N S X p l
  | 0 => rfl
  | d + 1 => by
    show stF N S X p (bF N S X p (l + d)) (l + d) = _
    rw [bF_end h d]
    unfold stF
    rw [if_pos h]
theorem sumB (hN : 20000 ≤ N) (hn : n < 2 ^ 31) (hM : M0 S X) (hC : CB S 28 X) (hV : IV X n) {p L : Nat} (hp : p < 30) (hL : L ≤ X 88 0) : fX6_sumBehind N (nI (X 67 0)) (S.2.1 47) (S.2.1 36) (S.2.1 57) (S.2.1 58) (S.2.1 38) (S.2.1 39) (S.2.1 41) (S.2.1 42) (S.1 3072) (S.2.1 59) (S.2.1 60) (S.2.1 54) (S.2.1 55) (S.2.1 56) (nI p) (nI L) = some (nI (bF N S X p L).1) := by
  have h16 := hV.2.2.2.2.2.2.2.1
  have loop : ∀ d i m, i + d = L → d < m → (bF N S X p i).2 = false → fX6_sumBehind_9 N m (nI (X 67 0)) (S.2.1 47) (S.2.1 36) (S.2.1 57) (S.2.1 58) (S.2.1 38) (S.2.1 39) (S.2.1 41) (S.2.1 42) (S.1 3072) (S.2.1 59) (S.2.1 60) (S.2.1 54) (S.2.1 55) (S.2.1 56) (nI p) (nI L) (lN (bF N S X p i).1) (nI i) = some (nI (bF N S X p L).1) := by
    intro d
    induction d with
    | zero =>
      intro i m h1 h2 h3
      obtain ⟨m, rfl⟩ : ∃ z, m = z + 1 := ⟨m - 1, by omega⟩
      rw [show fX6_sumBehind_9 N (m + 1) = gX6_sumBehind_9 N (fX6_sumBehind_9 N m) from rfl]
      unfold gX6_sumBehind_9
      rw [if_pos (nI_le (by omega) (by omega)), lN_i, show i = L by omega]
    | succ d ih =>
      intro i m h1 h2 h3
      obtain ⟨m, rfl⟩ : ∃ z, m = z + 1 := ⟨m - 1, by omega⟩
      have hl : i < X 88 0 := by omega
      have hle := bF_le (N := N) hN hn hM hC hV hp i (by omega)
      obtain ⟨-, f8, f14, fx, fd, -⟩ := hV.2.2.2.2.2.2.2.2 i hl
      obtain ⟨g1, g2, g3, -, -⟩ := hC.2.2.2.2.2 i hl
      have g1' : S.2.1 54 i = nI (X 93 i + 201) := g1
      obtain ⟨b, b0, b1, b2⟩ := tests_eq (N := N) hN hn hM hC hV hp hl (lN (bF N S X p i).1)
      have hst : bF N S X p (i + 1) = if hldR N S p i (lN (bF N S X p i).1) = some 1 then (if X 93 i = 14 then ((bF N S X p i).1, true) else (actN (X 93 i) (X 94 i) (X 95 i) (bF N S X p i).1, false)) else bF N S X p i := by
        show stF N S X p (bF N S X p i) i = _
        unfold stF
        rw [if_neg (by rw [h3]; decide)]
      rw [b2] at hst
      rw [show fX6_sumBehind_9 N (m + 1) = gX6_sumBehind_9 N (fX6_sumBehind_9 N m) from rfl]
      unfold gX6_sumBehind_9
      rw [if_neg (nI_ge (by omega) (by omega)), b1, Option.bind_some]
      rcases b0 with rfl | rfl
      · rw [if_neg (show ¬ (some (0 : Int32) = some 1) by decide)] at hst
        rw [if_pos (rfl : (0 : Int32) = 0), nz_let, nI_1]
        have := ih (i + 1) m (by omega) (by omega) (by rw [hst]; exact h3)
        rw [hst] at this
        exact this
      · rw [if_pos (rfl : some (1 : Int32) = some 1)] at hst
        rw [if_neg one_ne, nz_ald (show i < 16 by omega) (by omega), g1', Option.bind_some]
        by_cases h14 : X 93 i = 14
        · rw [if_pos h14] at hst
          rw [h14, if_pos (show nI (14 + 201) = 215 from rfl), lN_i]
          have := bF_end (N := N) (S := S) (X := X) (p := p) (l := i + 1) (by rw [hst]) d
          rw [show i + 1 + d = L by omega, hst] at this
          rw [this]
        · rw [if_neg h14] at hst
          rw [if_neg (show ¬ nI (X 93 i + 201) = 215 from fun z => by have := (nI_eq (b := 215) (by omega) (by omega)).mp z; omega)]
          rw [actC (N := N) (k := X 93 i) (x := X 94 i) (d := X 95 i) (by omega) f8 (by omega) g1' (fun h => ⟨g2 h, fx h⟩) (fun h => ⟨g3 h, fd h⟩) hle, Option.bind_some, nz_let, nI_1]
          have := ih (i + 1) m (by omega) (by omega) (by rw [hst])
          rw [hst] at this
          exact this
  unfold fX6_sumBehind
  rw [(prices_eq (N := N) hN hM hC hV hp (bl := 0) (en := 0)).1, Option.bind_some]
  exact loop L 0 N (by omega) (by omega) rfl
theorem Rel_bl {v : Int64} {w : Int32} (hR : Rel S n) : Rel (ns_I (ns_L (ns_I S 4025 w) 4024 v) 3968 0) n :=
  Rel_ag (S := S) (by intro i hi; rfl) (by intro u hu; simp (disch := omega) only [ns_L, ns_I, va_up_ne]) rfl hR
theorem op_bill (hN : 20000 ≤ N) (hn : n < 2 ^ 31) (hR : Rel S n) (p1 : Int32) : ∃ o1 o2, aX10_bill N S p1 = some o1 ∧ aX11_bill N S p1 = some o2 ∧ o1 = o2.1 ∧ Rel (uX11_bill S o2) n := by
  have hR0 := hR
  obtain ⟨⟨X, hM, hC, hV⟩, hT, hI⟩ := hR
  have m73 : S.2.1 73 0 = nI (X 73 0) := hM 73 (by decide) (by decide) 0 Nat.one_pos
  have m88 : S.2.1 88 0 = nI (X 88 0) := hM 88 (by decide) (by decide) 0 Nat.one_pos
  have c67 : S.1 1984 = nI (X 67 0) := hC.1.2.2.1
  have c73 : S.1 2368 = nI (X 73 0) := hC.2.1.1
  have c88 : S.1 3392 = nI (X 88 0) := hC.2.2.2.2.1
  have e0 := E0_of hV
  have h16 := hV.2.2.2.2.2.2.2.1
  have key : ∀ o2 : Int32 × Int32 × Int64 × Int32, o2.2.1 = 0 → Rel (uX11_bill S o2) n := fun o2 h => by
    unfold uX11_bill
    rw [h]
    exact Rel_bl hR0
  unfold aX10_bill aX11_bill fX10_bill fX11_bill
  rw [c73]
  rcases isP (N := N) p1 (m := X 73 0) (by have := e0.1; omega) m73 with ⟨p, hpn, rfl, d1, d2⟩ | ⟨d1, d2⟩
  case inr =>
    rw [d1, d2]
    exact ⟨_, _, rfl, rfl, rfl, key _ rfl⟩
  have hp : p < 30 := by have := e0.1; omega
  rw [d1, d2, Option.bind_some, Option.bind_some, if_neg one_ne, if_neg one_ne, c67, c88, sumB hN hn hM hC hV hp (Nat.le_refl _), (prices_eq (N := N) hN hM hC hV hp).2.1, Option.bind_some, Option.bind_some]
  have loop : ∀ d i m, i + d = X 88 0 → d < m → fX11_bill_22 N m 0 (S.2.1 73) (lN (bF N S X p i).1) (eI (bF N S X p i).2) (S.2.1 67) (S.2.1 84) (S.2.1 72) (S.2.1 88) (S.2.1 89) (S.2.1 90) (S.2.1 74) (S.2.1 75) (S.2.1 77) (S.2.1 78) (S.2.1 79) (S.2.1 92) (S.2.1 91) (S.2.1 94) (S.2.1 93) (S.2.1 95) (nI p) (nI i) = some (nI (bF N S X p (X 88 0)).1, 0, lN (bF N S X p (X 88 0)).1, eI (bF N S X p (X 88 0)).2) := by
    intro d
    induction d with
    | zero =>
      intro i m h1 h2
      obtain ⟨m, rfl⟩ : ∃ z, m = z + 1 := ⟨m - 1, by omega⟩
      rw [show fX11_bill_22 N (m + 1) = gX11_bill_22 N (fX11_bill_22 N m) from rfl]
      unfold gX11_bill_22
      rw [ald0 (by omega) (by omega), m88, Option.bind_some, if_pos (nI_le (by omega) (by omega)), lN_i, show i = X 88 0 by omega]
    | succ d ih =>
      intro i m h1 h2
      obtain ⟨m, rfl⟩ : ∃ z, m = z + 1 := ⟨m - 1, by omega⟩
      rw [show fX11_bill_22 N (m + 1) = gX11_bill_22 N (fX11_bill_22 N m) from rfl]
      unfold gX11_bill_22
      rw [ald0 (by omega) (by omega), m88, Option.bind_some, if_neg (nI_ge (by omega) (by omega)), (billsR hN hn hM hC hV hp (by omega) (bF_le hN hn hM hC hV hp i (by omega))).1, Option.bind_some, nz_let, nI_1]
      exact ih (i + 1) m (by omega) (by omega)
  have hl := loop (X 88 0) 0 N (by omega) (by omega)
  exact ⟨_, _, rfl, hl, rfl, key _ rfl⟩
theorem op_line (hN : 20000 ≤ N) (hn : n < 2 ^ 31) (hR : Rel S n) (p1 p2 : Int32) : ∃ o1 o2, aX10_line N S p1 p2 = some o1 ∧ aX11_line N S p1 p2 = some o2 ∧ o1 = o2.1 ∧ Rel (uX11_line S o2) n := by
  have hR0 := hR
  obtain ⟨⟨X, hM, hC, hV⟩, hT, hI⟩ := hR
  have m73 : S.2.1 73 0 = nI (X 73 0) := hM 73 (by decide) (by decide) 0 Nat.one_pos
  have m88 : S.2.1 88 0 = nI (X 88 0) := hM 88 (by decide) (by decide) 0 Nat.one_pos
  have c67 : S.1 1984 = nI (X 67 0) := hC.1.2.2.1
  have c73 : S.1 2368 = nI (X 73 0) := hC.2.1.1
  have c88 : S.1 3392 = nI (X 88 0) := hC.2.2.2.2.1
  have e0 := E0_of hV
  have h16 := hV.2.2.2.2.2.2.2.1
  have key : ∀ o2 : Int32 × Int32 × Int64 × Int32, o2.2.1 = 0 → Rel (uX11_line S o2) n := fun o2 h => by
    unfold uX11_line
    rw [h]
    exact Rel_bl hR0
  unfold aX10_line aX11_line fX10_line fX11_line
  rw [c73, ald0 (by omega) (by omega), m88, c88]
  rcases isP (N := N) p1 (m := X 73 0) (by have := e0.1; omega) m73 with ⟨p, hpn, rfl, d1, d2⟩ | ⟨d1, d2⟩
  case inr =>
    rw [d1, d2]
    exact ⟨_, _, rfl, rfl, rfl, key _ rfl⟩
  have hp : p < 30 := by have := e0.1; omega
  rw [d1, d2, Option.bind_some, Option.bind_some, if_neg one_ne, if_neg one_ne, Option.bind_some]
  rcases in3 (N := N) p2 (m := X 88 0) (by omega) with ⟨k, hk, rfl, d3, d4⟩ | ⟨d3, d4⟩
  case inr =>
    rw [d3, d4]
    exact ⟨_, _, rfl, rfl, rfl, key _ rfl⟩
  rw [d3, d4, Option.bind_some, Option.bind_some, if_neg one_ne, if_neg one_ne, c67, nI_1, sumB hN hn hM hC hV hp (show k + 1 ≤ X 88 0 by omega), sumB hN hn hM hC hV hp (show k ≤ X 88 0 by omega), (prices_eq (N := N) hN hM hC hV hp).2.1, Option.bind_some, Option.bind_some, Option.bind_some]
  have loop : ∀ d i m (b : Int64), i + d = k + 1 → d < m → (d = 0 → b = lN (bF N S X p k).1) → ∃ e, fX11_line_46 N m 0 (S.2.1 73) (S.2.1 88) (lN (bF N S X p i).1) (eI (bF N S X p i).2) (S.2.1 67) (S.2.1 84) (S.2.1 72) (S.2.1 89) (S.2.1 90) (S.2.1 74) (S.2.1 75) (S.2.1 77) (S.2.1 78) (S.2.1 79) (S.2.1 92) (S.2.1 91) (S.2.1 94) (S.2.1 93) (S.2.1 95) (nI p) (nI k) b (nI i) = some (nI (bF N S X p (k + 1)).1 - nI (bF N S X p k).1, 0, e) := by
    intro d
    induction d with
    | zero =>
      intro i m b h1 h2 h3
      obtain ⟨m, rfl⟩ : ∃ z, m = z + 1 := ⟨m - 1, by omega⟩
      obtain rfl : i = k + 1 := by omega
      rw [show fX11_line_46 N (m + 1) = gX11_line_46 N (fX11_line_46 N m) from rfl]
      unfold gX11_line_46
      rw [if_pos (nI_lt (by omega) (by omega)), h3 rfl, Int64.toInt32_sub, lN_i, lN_i]
      exact ⟨_, rfl⟩
    | succ d ih =>
      intro i m b h1 h2 h3
      obtain ⟨m, rfl⟩ : ∃ z, m = z + 1 := ⟨m - 1, by omega⟩
      rw [show fX11_line_46 N (m + 1) = gX11_line_46 N (fX11_line_46 N m) from rfl]
      unfold gX11_line_46
      rw [if_neg (show ¬ nI k < nI i by rw [nz_lt (by omega) (by omega)]; omega), (billsR hN hn hM hC hV hp (by omega) (bF_le hN hn hM hC hV hp i (by omega))).1, Option.bind_some, nz_let, nI_1]
      exact ih (i + 1) m _ (by omega) (by omega) (fun h => by rw [show i = k by omega])
  obtain ⟨e, hl⟩ := loop (k + 1) 0 N (lN (bF N S X p 0).1) (by omega) (by omega) (by omega)
  exact ⟨_, _, rfl, hl, rfl, key _ rfl⟩
end BJ
