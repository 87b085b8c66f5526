/-! person, count, waits -/
def ppf (W : Nat → Nat) (m k : Nat) : Nat := if m.testBit (W k) = true then 6 - k else 0
theorem ptC {N p n m : Nat} {wc wi has : Nat → Int32} {W : Nat → Nat} (hp : p < 30) (hwc : wc p = nI n) (hn : n ≤ 6) (hW : ∀ k, k < n → wi (p * 6 + k) = nI (W k)) (hb : ∀ k, k < n → W k < 10) (hh : has p = nI m) (hm : m < 1024) : ∀ d i q, i + d = n → d < q → fX6_pointsOf_4 N q wc wi has (nI p) (nI (sm (ppf W m) i)) (nI i) = some (nI (sm (ppf W m) n)) := by
  intro d
  induction d with
  | zero =>
    intro i q h1 h2
    obtain ⟨q, rfl⟩ : ∃ z, q = z + 1 := ⟨q - 1, by omega⟩
    rw [show fX6_pointsOf_4 N (q + 1) = gX6_pointsOf_4 N (fX6_pointsOf_4 N q) from rfl]
    unfold gX6_pointsOf_4
    rw [nz_ald hp (by omega), hwc, Option.bind_some, if_pos (nI_le (by omega) (by omega)), show i = n by omega]
  | succ d ih =>
    intro i q h1 h2
    obtain ⟨q, rfl⟩ : ∃ z, q = z + 1 := ⟨q - 1, by omega⟩
    rw [show fX6_pointsOf_4 N (q + 1) = gX6_pointsOf_4 N (fX6_pointsOf_4 N q) from rfl]
    unfold gX6_pointsOf_4 fX4_courseOfRank
    rw [nz_ald hp (by omega), hwc, Option.bind_some, if_neg (nI_ge (by omega) (by omega)), nz6, pk_mul, nI_add, nz_ald (by omega) (by omega), hW i (by omega), Option.bind_some, Option.bind_some, hasCourse_eq hp hh hm (hb i (by omega)), Option.bind_some]
    have h3 := ih (i + 1) q (by omega) (by omega)
    have h4 : sm (ppf W m) (i + 1) = sm (ppf W m) i + ppf W m i := rfl
    by_cases z : m.testBit (W i) = true
    · rw [if_neg (bt_ne z), nz_let, nz_let, pk_sub (by omega), nI_add, nI_1]
      rw [h4, show ppf W m i = 6 - i from if_pos z] at h3
      exact h3
    · rw [if_pos (bt_is z), nz_let, nI_1]
      rw [h4, show ppf W m i = 0 from if_neg z] at h3
      exact h3
theorem ptR {N p n m : Nat} {wc wi has : Nat → Int32} {W : Nat → Nat} (hp : p < 30) (hwc : wc p = nI n) (hn : n ≤ 6) (hW : ∀ k, k < n → wi (p * 6 + k) = nI (W k)) (hb : ∀ k, k < n → W k < 10) (hh : has p = nI m) (hm : m < 1024) : ∀ d i q, i + d = n → d < q → fX11_pointsOf_4 N q wc has wi (nI p) (nI (sm (ppf W m) i)) (nI i) = some (nI (sm (ppf W m) n)) := by
  intro d
  induction d with
  | zero =>
    intro i q h1 h2
    obtain ⟨q, rfl⟩ : ∃ z, q = z + 1 := ⟨q - 1, by omega⟩
    rw [show fX11_pointsOf_4 N (q + 1) = gX11_pointsOf_4 N (fX11_pointsOf_4 N q) from rfl]
    unfold gX11_pointsOf_4
    rw [nz_ald (by omega) (by omega), hwc, Option.bind_some, if_pos (nI_le (by omega) (by omega)), show i = n by omega]
  | succ d ih =>
    intro i q h1 h2
    obtain ⟨q, rfl⟩ : ∃ z, q = z + 1 := ⟨q - 1, by omega⟩
    rw [show fX11_pointsOf_4 N (q + 1) = gX11_pointsOf_4 N (fX11_pointsOf_4 N q) from rfl]
    unfold gX11_pointsOf_4
    rw [nz_ald (by omega) (by omega), hwc, Option.bind_some, if_neg (nI_ge (by omega) (by omega)), nz_ald (by omega) (by omega), hh, Option.bind_some, nz6, pk_mul, nI_add, Nat.mul_comm 6 p, nz_ald (by omega) (by omega), hW i (by omega), Option.bind_some, bt_shr _ (hb i (by omega)) _ hm]
    have h3 := ih (i + 1) q (by omega) (by omega)
    have h4 : sm (ppf W m) (i + 1) = sm (ppf W m) i + ppf W m i := rfl
    by_cases z : m.testBit (W i) = true
    · rw [if_neg (bt_ne z), nz_let, nz_let, pk_sub (by omega), nI_add, nI_1]
      rw [h4, show ppf W m i = 6 - i from if_pos z] at h3
      exact h3
    · rw [if_pos (bt_is z), nz_let, nz_let, nI_1, nz_add0]
      rw [h4, show ppf W m i = 0 from if_neg z] at h3
      exact h3
theorem sm_swap (f : Nat → Nat → Nat) : ∀ a b, sm (fun i => sm (fun j => f i j) b) a = sm (fun j => sm (fun i => f i j) a) b
  | 0, b => (sm_zero b).symm
  | a + 1, b => by
    show sm (fun i => sm (fun j => f i j) b) a + sm (fun j => f a j) b = sm (fun j => sm (fun i => f i j) a + f a j) b
    rw [sm_swap f a b]
    have : ∀ b, sm (fun j => sm (fun i => f i j) a) b + sm (fun j => f a j) b = sm (fun j => sm (fun i => f i j) a + f a j) b := by
      intro b
      induction b with
      | zero => rfl
      | succ b ih =>
        show sm (fun j => sm (fun i => f i j) a) b + sm (fun i => f i b) a + (sm (fun j => f a j) b + f a b) = sm (fun j => sm (fun i => f i j) a + f a j) b + (sm (fun i => f i b) a + f a b)
        omega
    exact this b
theorem sm_ext0 {f : Nat → Nat} {n : Nat} : ∀ d, (∀ j, n ≤ j → j < n + d → f j = 0) → sm f (n + d) = sm f n
  | 0, _ => rfl
  | d + 1, h => by
    show sm f (n + d) + f (n + d) = sm f n
    rw [sm_ext0 d (fun j a b => h j a (by omega)), h (n + d) (by omega) (by omega), Nat.add_zero]
theorem pop_sm {m nc : Nat} (hnc : nc ≤ 10) (h : m < 2 ^ nc) : sm (fun c => bt m c) nc = pop m := by
  have h1 : sm (fun c => bt m c) 10 = pop m := by
    show 0 + bt m 0 + bt m 1 + bt m 2 + bt m 3 + bt m 4 + bt m 5 + bt m 6 + bt m 7 + bt m 8 + bt m 9 = bt m 0 + bt m 1 + bt m 2 + bt m 3 + bt m 4 + bt m 5 + bt m 6 + bt m 7 + bt m 8 + bt m 9
    omega
  rw [← h1]
  have h2 := sm_ext0 (f := fun c => bt m c) (n := nc) (10 - nc) (fun j a b => bt_f (fun q => by have := tb_lt h q; omega))
  rw [show nc + (10 - nc) = 10 by omega] at h2
  exact h2.symm
theorem nI_dec {a : Nat} (h : 0 < a) : nI a + (-1) = nI (a - 1) := by
  obtain ⟨k, rfl⟩ : ∃ z, a = z + 1 := ⟨a - 1, by omega⟩
  rw [← nI_1, Int32.add_assoc, show (1 : Int32) + (-1) = 0 by decide, Int32.add_zero]
  rfl
section Q2
variable {N n : Nat} {S : ns_S}
theorem opq_person (hN : 20000 ≤ N) (hR : Rel S n) (p1 p2 : Int32) : ∃ r, aX10_person N S p1 p2 = some r ∧ aX11_person N S p1 p2 = some (r, 0) := by
  obtain ⟨⟨X, hM, hC, hV⟩, hT, hI⟩ := hR
  have m67 : S.2.1 67 0 = nI (X 67 0) := hM 67 (by decide) (by decide) 0 Nat.one_pos
  have m68 : rA (S.2.1 68) (X 68) 10 := hM 68 (by decide) (by decide)
  have m73 : S.2.1 73 0 = nI (X 73 0) := hM 73 (by decide) (by decide) 0 Nat.one_pos
  have m74 : rA (S.2.1 74) (X 74) 30 := hM 74 (by decide) (by decide)
  have m75 : rA (S.2.1 75) (X 75) 30 := hM 75 (by decide) (by decide)
  have m76 : rA (S.2.1 76) (X 76) 30 := hM 76 (by decide) (by decide)
  have m77 : rA (S.2.1 77) (X 77) 30 := hM 77 (by decide) (by decide)
  have m78 : rA (S.2.1 78) (X 78) 180 := hM 78 (by decide) (by decide)
  have m84 : rA (S.2.1 84) (X 84) 30 := hM 84 (by decide) (by decide)
  have m85 : rA (S.2.1 85) (X 85) 30 := hM 85 (by decide) (by decide)
  have c67 : S.1 1984 = nI (X 67 0) := hC.1.2.2.1
  have c68 : rA (S.2.1 32) (X 68) 10 := hC.1.2.2.2.1
  have c73 : S.1 2368 = nI (X 73 0) := hC.2.1.1
  have c74 : rA (S.2.1 38) (X 74) 30 := hC.2.1.2.1
  have c75 : rA (S.2.1 39) (X 75) 30 := hC.2.1.2.2.1
  have c76 : rA (S.2.1 40) (X 76) 30 := hC.2.1.2.2.2.1
  have c77 : rA (S.2.1 41) (X 77) 30 := hC.2.1.2.2.2.2.1
  have c78 : rA (S.2.1 42) (X 78) 180 := hC.2.1.2.2.2.2.2
  have c84 : rA (S.2.1 47) (X 84) 30 := hC.2.2.1.2.2.2.2
  have c85 : rA (S.2.1 49) (X 85) 30 := hC.2.2.2.1.2.2.1
  have e0 := E0_of hV
  unfold aX10_person aX11_person fX10_person fX11_person gX10_person_35 gX10_person_76
  rw [c67, c73]
  rcases isP (N := N) p1 (m := X 73 0) (by have := e0.1; omega) m73 with ⟨p, a, b, c, d⟩ | ⟨a, b⟩
  · subst b
    have hp : p < 30 := by have := e0.1; omega
    have hn := e0.2.2.2.1 p hp
    have hlt := hs_lt hV p hp
    rw [c, d, Option.bind_some, Option.bind_some, if_neg one_ne, if_neg one_ne]
    clear c d
    have hwR : ns_ald (S.2.1 77) 120 (nI p) = some (nI (X 77 p)) := by rw [nz_ald (by omega) (by omega), m77 p hp]
    have hwC : ns_ald (S.2.1 41) 30 (nI p) = some (nI (X 77 p)) := by rw [nz_ald (by omega) (by omega), c77 p hp]
    by_cases hneg : p2 < 0
    · have h0 : ∀ k, k < 2 ^ 31 → ¬ p2 = nI k := fun k hk e => nI_lt0 hk (e ▸ hneg)
      have hl : ∀ k, k < 2 ^ 31 → p2 < nI k := fun k hk => by
        have a1 := Int32.lt_iff_toInt_lt.mp hneg
        have h0 : (0 : Int32).toInt = 0 := by decide
        refine Int32.lt_iff_toInt_lt.mpr ?_
        rw [nI_toInt hk]
        omega
      have i1 : ∀ hi, fX11_in N p2 10 hi = some 0 := fun hi => if_pos (hl 10 (by decide))
      have i2 : ∀ hi, fX11_in N p2 20 hi = some 0 := fun hi => if_pos (hl 20 (by decide))
      simp only [if_pos (show p2 < 20 from hl 20 (by decide)), if_pos (show p2 < 10 from hl 10 (by decide)), if_neg (show ¬ p2 = 0 from h0 0 (by decide)), if_neg (show ¬ p2 = 1 from h0 1 (by decide)), if_neg (show ¬ p2 = 2 from h0 2 (by decide)), if_neg (show ¬ p2 = 3 from h0 3 (by decide)), if_neg (show ¬ p2 = 4 from h0 4 (by decide)), if_neg (show ¬ p2 = 5 from h0 5 (by decide)), if_neg (show ¬ p2 = 6 from h0 6 (by decide)), hwR, Option.bind_some, i1, i2, if_true]
      exact ⟨_, rfl, rfl⟩
    obtain ⟨w, w1, rfl⟩ := nn_ex hneg
    by_cases hs : w < 7
    · rw [if_pos (show nI w < 20 from (show nI w < nI 20 from nI_lt (by omega) (by omega))), if_pos (show nI w < 10 from (show nI w < nI 10 from nI_lt (by omega) (by omega)))]
      have h7 : w = 0 ∨ w = 1 ∨ w = 2 ∨ w = 3 ∨ w = 4 ∨ w = 5 ∨ w = 6 := by omega
      rcases h7 with rfl | rfl | rfl | rfl | rfl | rfl | rfl
      · refine ⟨nI (X 74 p), ?_, ?_⟩
        · refine (if_pos rfl).trans ?_; rw [nz_ald (by omega) (by omega), c74 p hp]; rfl
        · refine (if_pos rfl).trans ?_; rw [nz_ald (by omega) (by omega), m74 p hp]; rfl
      · refine ⟨nI (X 75 p), ?_, ?_⟩
        · refine (if_neg (by decide)).trans ((if_pos rfl).trans ?_); rw [nz_ald (by omega) (by omega), c75 p hp]; rfl
        · refine (if_neg (by decide)).trans ((if_pos rfl).trans ?_); rw [nz_ald (by omega) (by omega), m75 p hp]; rfl
      · refine ⟨nI (X 76 p), ?_, ?_⟩
        · refine (if_neg (by decide)).trans ((if_neg (by decide)).trans ((if_pos rfl).trans ?_)); rw [nz_ald (by omega) (by omega), c76 p hp]; rfl
        · refine (if_neg (by decide)).trans ((if_neg (by decide)).trans ((if_pos rfl).trans ?_)); rw [nz_ald (by omega) (by omega), m76 p hp]; rfl
      · refine ⟨nI (X 84 p), ?_, ?_⟩
        · refine (if_neg (by decide)).trans ((if_neg (by decide)).trans ((if_neg (by decide)).trans ((if_pos rfl).trans ?_))); rw [nz_ald (by omega) (by omega), c84 p hp]; rfl
        · refine (if_neg (by decide)).trans ((if_neg (by decide)).trans ((if_neg (by decide)).trans ((if_pos rfl).trans ?_))); rw [nz_ald (by omega) (by omega), m84 p hp]; rfl
      · refine ⟨nI (X 77 p), ?_, ?_⟩
        · refine (if_neg (by decide)).trans ((if_neg (by decide)).trans ((if_neg (by decide)).trans ((if_neg (by decide)).trans ((if_pos rfl).trans ?_)))); rw [hwC]; rfl
        · refine (if_neg (by decide)).trans ((if_neg (by decide)).trans ((if_neg (by decide)).trans ((if_neg (by decide)).trans ((if_pos rfl).trans ?_)))); rw [hwR]; rfl
      · refine ⟨nI (sm (ppf (WX X p) (X 84 p)) (X 77 p)), ?_, ?_⟩
        · refine (if_neg (by decide)).trans ((if_neg (by decide)).trans ((if_neg (by decide)).trans ((if_neg (by decide)).trans ((if_neg (by decide)).trans ((if_pos rfl).trans ?_)))))
          unfold fX6_pointsOf
          have := ptC (N := N) hp (c77 p hp) hn.1 (W := WX X p) (fun k hk => c78 (p * 6 + k) (by omega)) (e0.2.2.2.2.1 p hp) (c84 p hp) hlt (X 77 p) 0 N (by omega) (by omega)
          rw [show nI (sm (ppf (WX X p) (X 84 p)) 0) = 0 from rfl, ← nz0] at this
          rw [this]; rfl
        · refine (if_neg (by decide)).trans ((if_neg (by decide)).trans ((if_neg (by decide)).trans ((if_neg (by decide)).trans ((if_neg (by decide)).trans ((if_pos rfl).trans ?_)))))
          unfold fX11_pointsOf
          have := ptR (N := N) hp (m77 p hp) hn.1 (W := WX X p) (fun k hk => m78 (p * 6 + k) (by omega)) (e0.2.2.2.2.1 p hp) (m84 p hp) hlt (X 77 p) 0 N (by omega) (by omega)
          rw [show nI (sm (ppf (WX X p) (X 84 p)) 0) = 0 from rfl, ← nz0] at this
          rw [this]; rfl
      · refine ⟨nI (X 85 p), ?_, ?_⟩
        · refine (if_neg (by decide)).trans ((if_neg (by decide)).trans ((if_neg (by decide)).trans ((if_neg (by decide)).trans ((if_neg (by decide)).trans ((if_neg (by decide)).trans ((if_pos rfl).trans ?_)))))); rw [nz_ald (by omega) (by omega), c85 p hp]; rfl
        · refine (if_neg (by decide)).trans ((if_neg (by decide)).trans ((if_neg (by decide)).trans ((if_neg (by decide)).trans ((if_neg (by decide)).trans ((if_neg (by decide)).trans ((if_pos rfl).trans ?_)))))); rw [nz_ald (by omega) (by omega), m85 p hp]; rfl
    have hne : ∀ k, k < 7 → ¬ nI w = nI k := fun k hk e => by have := (nI_eq w1 (by omega)).mp e; omega
    simp only [if_neg (show ¬ nI w = 0 from hne 0 (by decide)), if_neg (show ¬ nI w = 1 from hne 1 (by decide)), if_neg (show ¬ nI w = 2 from hne 2 (by decide)), if_neg (show ¬ nI w = 3 from hne 3 (by decide)), if_neg (show ¬ nI w = 4 from hne 4 (by decide)), if_neg (show ¬ nI w = 5 from hne 5 (by decide)), if_neg (show ¬ nI w = 6 from hne 6 (by decide)), hwR, hwC, Option.bind_some, fX4_courseOfRank]
    rw [show (9 : Int32) + nI (X 77 p) = nI (9 + X 77 p) from nI_add 9 _, show (10 : Int32) + nI (X 77 p) = nI (10 + X 77 p) from nI_add 10 _, show (20 : Int32) = nI 20 from rfl, show (24 : Int32) = nI 24 from rfl, show (10 : Int32) = nI 10 from rfl, show (25 : Int32) = nI 25 from rfl]
    simp only [nz_lt w1 (show 20 < 2 ^ 31 by decide), nz_lt w1 (show 10 < 2 ^ 31 by decide), nz_le (show 25 < 2 ^ 31 by decide) w1, nz_le (show 10 + X 77 p < 2 ^ 31 by omega) w1]
    rcases in2 (N := N) (nI w) (lo := 10) (hi := 9 + X 77 p) (by omega) (by omega) with ⟨k, a1, b1, c1, d1, e1⟩ | ⟨d1, e1, f1⟩
    · have hk : w = k := (nI_eq w1 (by omega)).mp c1
      subst hk
      rw [e1, if_pos (show w < 20 by omega), if_neg (show ¬ w < 10 by omega), if_neg (show ¬ 10 + X 77 p ≤ w by omega), Option.bind_some, if_neg one_ne, nz6, pk_mul, pk_mul, pk_sub (by omega), nI_add, nI_add, pk_sub (by omega), nz_ald (by omega) (by omega), nz_ald (by omega) (by omega), c78 _ (by omega), m78 _ (by omega), show 6 * p + w - 10 = p * 6 + (w - 10) by omega]
      exact ⟨_, rfl, rfl⟩
    · rw [e1, Option.bind_some, if_pos (rfl : (0 : Int32) = 0)]
      have hw : ¬ (10 ≤ w ∧ w ≤ 9 + X 77 p) := fun q => f1 w q.1 q.2 rfl
      rcases in2 (N := N) (nI w) (lo := 20) (hi := 24) (by omega) (by omega) with ⟨k, a2, b2, c2, d2, e2⟩ | ⟨d2, e2, f2⟩
      · have hk : w = k := (nI_eq w1 (by omega)).mp c2
        subst hk
        rw [e2, if_neg (show ¬ w < 20 by omega), if_neg (show ¬ 25 ≤ w by omega), Option.bind_some, if_neg one_ne, pk_sub (by omega)]
        rw [courseOn_eq (by omega) hp (c84 p hp) hlt c68 (fun i hi => (e0.2.2.2.2.2 i hi).1) e0.2.1 (by omega), on_eq (by omega) hp (m84 p hp) hlt m68 (fun i hi => (e0.2.2.2.2.2 i hi).1) m67 e0.2.1 (by omega)]
        exact ⟨_, rfl, rfl⟩
      · rw [e2, Option.bind_some, if_pos (rfl : (0 : Int32) = 0)]
        have hw2 : ¬ (20 ≤ w ∧ w ≤ 24) := fun q => f2 w q.1 q.2 rfl
        refine ⟨-1, ?_, rfl⟩
        by_cases z : w < 20
        · rw [if_pos z]
          by_cases z2 : w < 10
          · rw [if_pos z2]
          · rw [if_neg z2, if_pos (by omega)]
        · rw [if_neg z, if_pos (by omega), if_neg (by omega), if_pos (by omega)]
  · rw [a, b]; exact ⟨_, rfl, rfl⟩
end Q2
