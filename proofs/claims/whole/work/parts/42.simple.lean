/-! the calls that only tell -/
theorem nn_ex {x : Int32} (h : ¬ x < 0) : ∃ k, k < 2 ^ 31 ∧ x = nI k := by
  have h0 : (0 : Int32).toInt = 0 := by decide
  have h1 : 0 ≤ x.toInt := Int.not_lt.mp (fun q => h (Int32.lt_iff_toInt_lt.mpr (by rw [h0]; exact q)))
  have h2 := x.toInt_lt
  refine ⟨x.toInt.toNat, by omega, Int32.toInt_inj.mp ?_⟩
  rw [nI_toInt (by omega)]
  omega
theorem nI_lt0 {k : Nat} (h : k < 2 ^ 31) : ¬ nI k < 0 := by rw [nz0, nz_lt h (by decide)]; omega
theorem in2 {N : Nat} (x : Int32) {lo hi : Nat} (h1 : lo < 2 ^ 31) (h2 : hi < 2 ^ 31) : (∃ k, lo ≤ k ∧ k ≤ hi ∧ x = nI k ∧ fX10_isWithin N x (nI lo) (nI hi) = some 1 ∧ fX11_in N x (nI lo) (nI hi) = some 1) ∨ (fX10_isWithin N x (nI lo) (nI hi) = some 0 ∧ fX11_in N x (nI lo) (nI hi) = some 0 ∧ ∀ k, lo ≤ k → k ≤ hi → x ≠ nI k) := by
  unfold fX10_isWithin fX11_in
  by_cases h : x < 0
  · have h3 : x < nI lo := by
      have a1 := Int32.lt_iff_toInt_lt.mp h
      have h0 : (0 : Int32).toInt = 0 := by decide
      refine Int32.lt_iff_toInt_lt.mpr ?_
      rw [nI_toInt h1]
      omega
    refine Or.inr ⟨if_pos h3, if_pos h3, fun k a b e => ?_⟩
    rw [e] at h
    exact nI_lt0 (by omega) h
  · obtain ⟨k, k1, rfl⟩ := nn_ex h
    by_cases a : k < lo
    · have h3 : nI k < nI lo := by rw [nz_lt k1 h1]; exact a
      refine Or.inr ⟨if_pos h3, if_pos h3, fun z a b e => ?_⟩
      have := (nI_eq k1 (by omega)).mp e
      omega
    · have h3 : ¬ nI k < nI lo := by rw [nz_lt k1 h1]; exact a
      by_cases b : hi < k
      · have h4 : nI hi < nI k := by rw [nz_lt h2 k1]; exact b
        refine Or.inr ⟨(if_neg h3).trans (if_pos h4), (if_neg h3).trans (if_pos h4), fun z a b e => ?_⟩
        have := (nI_eq k1 (by omega)).mp e
        omega
      · have h4 : ¬ nI hi < nI k := by rw [nz_lt h2 k1]; exact b
        exact Or.inl ⟨k, by omega, by omega, rfl, (if_neg h3).trans (if_neg h4), (if_neg h3).trans (if_neg h4)⟩
theorem ald0 {f : Nat → Int32} {n : Nat} (h : 0 < n) (hn : n < 1000) : ns_ald f n 0 = some (f 0) := nz_ald (k := 0) h hn
theorem ast0 {f : Nat → Int32} {n : Nat} {v : Int32} (h : 0 < n) (hn : n < 1000) : ns_ast f n 0 v = some (upd f 0 v) := nz_ast (k := 0) h hn
theorem nI_m1 {m : Nat} (h : 0 < m) : nI m - 1 = nI (m - 1) := by
  obtain ⟨k, rfl⟩ : ∃ z, m = z + 1 := ⟨m - 1, by omega⟩
  rw [← nI_1]
  show nI k + 1 - 1 = nI k
  rw [Int32.add_sub_cancel]
theorem in3 {N : Nat} (x : Int32) {m : Nat} (hm : m < 1000) : (∃ k, k < m ∧ x = nI k ∧ fX10_isWithin N x 0 (nI m - 1) = some 1 ∧ fX11_in N x 0 (nI m - 1) = some 1) ∨ (fX10_isWithin N x 0 (nI m - 1) = some 0 ∧ fX11_in N x 0 (nI m - 1) = some 0) := by
  by_cases h : 0 < m
  · rw [nI_m1 h]
    rcases in2 (N := N) x (lo := 0) (hi := m - 1) (by omega) (by omega) with ⟨k, a, b, c, d, e⟩ | ⟨a, b, -⟩
    · exact Or.inl ⟨k, by omega, c, d, e⟩
    · exact Or.inr ⟨a, b⟩
  · obtain rfl : m = 0 := by omega
    refine Or.inr ?_
    unfold fX10_isWithin fX11_in
    by_cases y : x < 0
    · exact ⟨if_pos y, if_pos y⟩
    · obtain ⟨k, k1, rfl⟩ := nn_ex y
      have h3 : nI 0 - 1 < nI k := by
        show nM < nI k
        rw [nz_Mlt k1]; trivial
      exact ⟨(if_neg y).trans (if_pos h3), (if_neg y).trans (if_pos h3)⟩
theorem isC {N : Nat} (x : Int32) {m : Nat} (hm : m < 1000) {cs : Nat → Int32} (hcs : cs 0 = nI m) : (∃ k, k < m ∧ x = nI k ∧ fX10_isCourse N (nI m) x = some 1 ∧ fX11_isCourse N cs x = some 1) ∨ (fX10_isCourse N (nI m) x = some 0 ∧ fX11_isCourse N cs x = some 0) := by
  unfold fX10_isCourse fX11_isCourse
  rw [ald0 (by omega) (by omega), hcs, Option.bind_some]
  rcases in3 (N := N) x hm with ⟨k, a, b, c, d⟩ | ⟨a, b⟩
  · rw [c, d]; exact Or.inl ⟨k, a, b, rfl, rfl⟩
  · rw [a, b]; exact Or.inr ⟨rfl, rfl⟩
theorem isP {N : Nat} (x : Int32) {m : Nat} (hm : m < 1000) {cs : Nat → Int32} (hcs : cs 0 = nI m) : (∃ k, k < m ∧ x = nI k ∧ fX10_isPupil N (nI m) x = some 1 ∧ fX11_isPupil N cs x = some 1) ∨ (fX10_isPupil N (nI m) x = some 0 ∧ fX11_isPupil N cs x = some 0) := by
  unfold fX10_isPupil fX11_isPupil
  rw [ald0 (by omega) (by omega), hcs, Option.bind_some]
  rcases in3 (N := N) x hm with ⟨k, a, b, c, d⟩ | ⟨a, b⟩
  · rw [c, d]; exact Or.inl ⟨k, a, b, rfl, rfl⟩
  · rw [a, b]; exact Or.inr ⟨rfl, rfl⟩
theorem Rel_cd {S : ns_S} {n : Nat} {v : Int32} (h : Rel S n) : Rel (ns_I S 3968 v) n := by
  obtain ⟨⟨X, hM, hC, hV⟩, hT, hI⟩ := h
  exact ⟨⟨X, hM, CB_fr (S := S) (fun _ _ _ => rfl) (fun u h1 h2 => va_up_ne _ _ (by omega)) hC, hV⟩, hT, Im_fr FR.cd (Nat.le_refl _) hI⟩
theorem Rel.mono {S : ns_S} {n n' : Nat} (h : Rel S n) (hn : n ≤ n') : Rel S n' := by
  obtain ⟨⟨X, hM, hC, hV⟩, hT, hI⟩ := h
  exact ⟨⟨X, hM, hC, hV.mono hn⟩, hT, Im_fr FR.rf hn hI⟩
theorem one_ne : ¬ (1 : Int32) = 0 := by decide
section Q
variable {N n : Nat} {S : ns_S}
theorem opq_fault (hR : Rel S n) (p1 : Int32) : ∃ r, aX10_fault N S p1 = some r ∧ aX11_fault N S p1 = some (r, 0) := by
  obtain ⟨-, ⟨-, -, h1, h2⟩, -⟩ := hR
  unfold aX10_fault aX11_fault fX10_fault fX11_fault
  rw [h1, h2]
  by_cases a : p1 = 0
  · rw [if_pos a, if_pos a]; exact ⟨_, rfl, rfl⟩
  · rw [if_neg a, if_neg a]
    by_cases b : p1 = 1
    · rw [if_pos b, if_pos b]; exact ⟨_, rfl, rfl⟩
    · rw [if_neg b, if_neg b]; exact ⟨_, rfl, rfl⟩
theorem opq_tell (hN : 20000 ≤ N) (hR : Rel S n) (p1 p2 : Int32) : ∃ r, aX10_tell N S p1 p2 = some r ∧ aX11_tell N S p1 p2 = some (r, 0) := by
  obtain ⟨⟨X, hM, hC, hV⟩, hT, hI⟩ := hR
  have m67 : S.2.1 67 0 = nI (X 67 0) := hM 67 (by decide) (by decide) 0 Nat.one_pos
  have m68 : rA (S.2.1 68) (X 68) 10 := hM 68 (by decide) (by decide)
  have m69 : rA (S.2.1 69) (X 69) 10 := hM 69 (by decide) (by decide)
  have m70 : rA (S.2.1 70) (X 70) 10 := hM 70 (by decide) (by decide)
  have m71 : rA (S.2.1 71) (X 71) 10 := hM 71 (by decide) (by decide)
  have m72 : rA (S.2.1 72) (X 72) 10 := hM 72 (by decide) (by decide)
  have m73 : S.2.1 73 0 = nI (X 73 0) := hM 73 (by decide) (by decide) 0 Nat.one_pos
  have m80 : S.2.1 80 0 = nI (X 80 0) := hM 80 (by decide) (by decide) 0 Nat.one_pos
  have m81 : ∀ j, j < szM X 81 → S.2.1 81 j = dI (X 81 j) := hM 81 (by decide) (by decide)
  have m82 : rA (S.2.1 82) (X 82) 10 := hM 82 (by decide) (by decide)
  have m83 : rA (S.2.1 83) (X 83) 10 := hM 83 (by decide) (by decide)
  have m84 : rA (S.2.1 84) (X 84) 30 := hM 84 (by decide) (by decide)
  have c67 : S.1 1984 = nI (X 67 0) := hC.1.2.2.1
  have c68 : rA (S.2.1 32) (X 68) 10 := hC.1.2.2.2.1
  have c69 : rA (S.2.1 33) (X 69) 10 := hC.1.2.2.2.2.1
  have c70 : rA (S.2.1 34) (X 70) 10 := hC.1.2.2.2.2.2.1
  have c71 : rA (S.2.1 35) (X 71) 10 := hC.1.2.2.2.2.2.2.1
  have c72 : rA (S.2.1 36) (X 72) 10 := hC.1.2.2.2.2.2.2.2
  have c80 : S.1 2752 = nI (X 80 0) := hC.2.2.1.1
  have c81 : rD (S.2.1 44) (X 81) 10 := hC.2.2.1.2.1
  have c82 : rA (S.2.1 45) (X 82) 10 := hC.2.2.1.2.2.1
  have c83 : rA (S.2.1 50) (X 83) 10 := hC.2.2.2.1.2.2.2.1
  have ctk : rA (S.2.1 46) (fun c => cnt (X 84) c (X 73 0)) 10 := hC.2.2.1.2.2.2.1
  have e0 := E0_of hV
  unfold aX10_tell aX11_tell fX10_tell fX11_tell
  rw [c67, c80]
  rcases isC (N := N) p1 (m := X 67 0) (by have := e0.2.1; omega) m67 with ⟨k, a, b, c, d⟩ | ⟨a, b⟩
  · subst b
    have hk : k < 10 := by have := e0.2.1; omega
    rw [c, d, Option.bind_some, Option.bind_some, if_neg one_ne, if_neg one_ne]
    by_cases q : p2 = 0
    · rw [if_pos q, if_pos q, nz_ald hk (by omega), nz_ald (by omega) (by omega), m68 k hk, c68 k hk]; exact ⟨_, rfl, rfl⟩
    rw [if_neg q, if_neg q]; clear q
    by_cases q : p2 = 1
    · rw [if_pos q, if_pos q, nz_ald hk (by omega), nz_ald (by omega) (by omega), m69 k hk, c69 k hk]; exact ⟨_, rfl, rfl⟩
    rw [if_neg q, if_neg q]; clear q
    by_cases q : p2 = 2
    · rw [if_pos q, if_pos q, nz_ald hk (by omega), nz_ald (by omega) (by omega), m70 k hk, c70 k hk]; exact ⟨_, rfl, rfl⟩
    rw [if_neg q, if_neg q]; clear q
    by_cases q : p2 = 3
    · rw [if_pos q, if_pos q, nz_ald hk (by omega), nz_ald (by omega) (by omega), m71 k hk, c71 k hk]; exact ⟨_, rfl, rfl⟩
    rw [if_neg q, if_neg q]; clear q
    by_cases q : p2 = 4
    · rw [if_pos q, if_pos q, nz_ald hk (by omega), nz_ald (by omega) (by omega), m72 k hk, c72 k hk]; exact ⟨_, rfl, rfl⟩
    rw [if_neg q, if_neg q]; clear q
    by_cases q : p2 = 5
    · rw [if_pos q, if_pos q, isHeld_eq e0.2.2.1 hk, ald0 (by omega) (by omega), m80, Option.bind_some, Option.bind_some, bt_shr k hk _ e0.2.2.1]
      by_cases z : (X 80 0).testBit k = true
      · rw [bt_t z]; exact ⟨_, rfl, rfl⟩
      · rw [bt_f z]; exact ⟨_, rfl, rfl⟩
    rw [if_neg q, if_neg q]; clear q
    by_cases q : p2 = 6
    · rw [if_pos q, if_pos q, nz_ald hk (by omega), nz_ald (by omega) (by omega), m81 k (szM_ge hV.1.2.1 (by assumption)), c81 k hk]; exact ⟨_, rfl, rfl⟩
    rw [if_neg q, if_neg q]; clear q
    by_cases q : p2 = 7
    · rw [if_pos q, if_pos q, nz_ald hk (by omega), nz_ald (by omega) (by omega), m82 k hk, c82 k hk]; exact ⟨_, rfl, rfl⟩
    rw [if_neg q, if_neg q]; clear q
    by_cases q : p2 = 8
    · rw [if_pos q, if_pos q, nz_ald hk (by omega), ctk k hk, hasNow_eq (by omega) m73 e0.1 m84 (hs_lt hV) hk]; exact ⟨_, rfl, rfl⟩
    rw [if_neg q, if_neg q]; clear q
    by_cases q : p2 = 9
    · rw [if_pos q, if_pos q, nz_ald hk (by omega), nz_ald (by omega) (by omega), m83 k hk, c83 k hk]; exact ⟨_, rfl, rfl⟩
    rw [if_neg q, if_neg q]; clear q
    exact ⟨_, rfl, rfl⟩
  · rw [a, b]; exact ⟨_, rfl, rfl⟩
/-- settled: no 6 is ever told -/
theorem st56 {X : SX} (hV : IV X n) {p c : Nat} (hp : p < X 73 0) (hc : c < X 67 0) : r56 (rs5 (X 84 p) (X 77 p) (WX X p) (X 80 0) (X 68) (X 67 0) (X 76 p) c) (cnt (X 84) c (X 73 0)) (X 82 c) = rs5 (X 84 p) (X 77 p) (WX X p) (X 80 0) (X 68) (X 67 0) (X 76 p) c := by
  unfold r56
  by_cases h5 : rs5 (X 84 p) (X 77 p) (WX X p) (X 80 0) (X 68) (X 67 0) (X 76 p) c = 5
  · rw [if_pos h5, h5]
    refine if_neg (fun hlt => ?_)
    have hs := hV.2.2.2.2.2.1
    unfold sX stp at hs
    cases e : fst2 (cm (X 73 0) (X 67 0) (X 80 0) (X 77) (X 76) (X 82) (X 68) (WX X) (X 84)) (X 77) (X 73 0) 0 with
    | some q => rw [e] at hs; cases hs
    | none =>
      have h1 := fst2_none _ _ e p
      have hr : ∃ k, k < X 77 p ∧ WX X p k = c := by
        unfold rs5 at h5
        cases hr : rkN (WX X p) c (X 77 p) 0 with
        | none => simp [hr] at h5; split at h5 <;> simp at h5
        | some r =>
          obtain ⟨-, a, b⟩ := rkN_lt _ _ _ hr
          exact ⟨r, by omega, b⟩
      obtain ⟨k, k1, k2⟩ := hr
      refine h1 k (by omega) (by omega) k1 ?_
      unfold cm
      rw [k2]
      exact decide_eq_true ⟨h5, hlt⟩
  · rw [if_neg h5]
theorem opq_why (hN : 20000 ≤ N) (hR : Rel S n) (p1 p2 : Int32) : ∃ r, aX10_why N S p1 p2 = some r ∧ aX11_why N S p1 p2 = some (r, 0) := by
  obtain ⟨⟨X, hM, hC, hV⟩, hT, hI⟩ := hR
  have m67 : S.2.1 67 0 = nI (X 67 0) := hM 67 (by decide) (by decide) 0 Nat.one_pos
  have m68 : rA (S.2.1 68) (X 68) 10 := hM 68 (by decide) (by decide)
  have m73 : S.2.1 73 0 = nI (X 73 0) := hM 73 (by decide) (by decide) 0 Nat.one_pos
  have m76 : rA (S.2.1 76) (X 76) 30 := hM 76 (by decide) (by decide)
  have m77 : rA (S.2.1 77) (X 77) 30 := hM 77 (by decide) (by decide)
  have m78 : rA (S.2.1 78) (X 78) 180 := hM 78 (by decide) (by decide)
  have m80 : S.2.1 80 0 = nI (X 80 0) := hM 80 (by decide) (by decide) 0 Nat.one_pos
  have m82 : rA (S.2.1 82) (X 82) 10 := hM 82 (by decide) (by decide)
  have m84 : rA (S.2.1 84) (X 84) 30 := hM 84 (by decide) (by decide)
  have c67 : S.1 1984 = nI (X 67 0) := hC.1.2.2.1
  have c68 : rA (S.2.1 32) (X 68) 10 := hC.1.2.2.2.1
  have c73 : S.1 2368 = nI (X 73 0) := hC.2.1.1
  have c76 : rA (S.2.1 40) (X 76) 30 := hC.2.1.2.2.2.1
  have c77 : rA (S.2.1 41) (X 77) 30 := hC.2.1.2.2.2.2.1
  have c78 : rA (S.2.1 42) (X 78) 180 := hC.2.1.2.2.2.2.2
  have c80 : S.1 2752 = nI (X 80 0) := hC.2.2.1.1
  have c84 : rA (S.2.1 47) (X 84) 30 := hC.2.2.1.2.2.2.2
  have e0 := E0_of hV
  unfold aX10_why aX11_why fX10_why fX11_why
  rw [c67, c80, c73]
  rcases isP (N := N) p1 (m := X 73 0) (by have := e0.1; omega) m73 with ⟨p, a, b, c, d⟩ | ⟨a, b⟩
  · subst b
    have hp : p < 30 := by have := e0.1; omega
    rw [c, d, Option.bind_some, Option.bind_some, if_neg one_ne, if_neg one_ne]
    rcases isC (N := N) p2 (m := X 67 0) (by have := e0.2.1; omega) m67 with ⟨k, a', b, c, d⟩ | ⟨a, b⟩
    · subst b
      have hk : k < 10 := by have := e0.2.1; omega
      have hn := e0.2.2.2.1 p hp
      rw [c, d, Option.bind_some, Option.bind_some, if_neg one_ne, if_neg one_ne]
      rw [reasonFor_eq (by omega) hp hk (c84 p hp) (hs_lt hV p hp) (c77 p hp) hn.1 (W := WX X p) (fun k hk => c78 (p * 6 + k) (by omega)) (e0.2.2.2.2.1 p hp) e0.2.2.1 c68 (fun i hi => (e0.2.2.2.2.2 i hi).1) e0.2.1 (c76 p hp) hn.2]
      rw [reason_eq (by omega) hp hk m84 (hs_lt hV) rfl (m77 p hp) hn.1 (W := WX X p) (fun k hk => m78 (p * 6 + k) (by omega)) (e0.2.2.2.2.1 p hp) e0.2.2.1 m80 m68 (fun i hi => (e0.2.2.2.2.2 i hi).1) m67 e0.2.1 m73 e0.1 (m76 p hp) hn.2 m82 (fun i hi => (e0.2.2.2.2.2 i hi).2)]
      rw [st56 hV a a']
      exact ⟨_, rfl, rfl⟩
    · rw [a, b]; exact ⟨_, rfl, rfl⟩
  · rw [a, b]; exact ⟨_, rfl, rfl⟩
theorem opq_hours (hN : 20000 ≤ N) (hR : Rel S n) (p1 p2 : Int32) : ∃ r, aX10_hours N S p1 p2 = some r ∧ aX11_hours N S p1 p2 = some (r, 0) := by
  obtain ⟨⟨X, hM, hC, hV⟩, hT, hI⟩ := hR
  have m65 : S.2.1 65 0 = nI (X 65 0) := hM 65 (by decide) (by decide) 0 Nat.one_pos
  have m86 : rA (S.2.1 86) (X 86) 6 := hM 86 (by decide) (by decide)
  have m87 : rA (S.2.1 87) (X 87) 5 := hM 87 (by decide) (by decide)
  have c65 : S.1 1856 = nI (X 65 0) := hC.1.1
  have c86 : rA (S.2.1 51) (X 86) 6 := hC.2.2.2.1.2.2.2.2.1
  have c87 : rA (S.2.1 52) (X 87) 5 := hC.2.2.2.1.2.2.2.2.2
  have hE := hV.1
  unfold aX10_hours aX11_hours fX10_hours fX11_hours gX10_hours_26
  rw [c65]
  by_cases q : p1 = 0
  · rw [if_pos q, if_pos q, if_neg (show ¬ p1 = 1 by rw [q]; decide)]
    rcases in2 (N := N) p2 (lo := 0) (hi := 5) (by omega) (by omega) with ⟨k, a, b, c, d, e⟩ | ⟨a, b, -⟩
    · subst c
      rw [nz5, nz0, d, e, Option.bind_some, Option.bind_some, if_neg (show ¬ (1 : Int32) = nI 0 by decide), if_neg (show ¬ (1 : Int32) = nI 0 by decide), nz_ald (by omega) (by omega), nz_ald (by omega) (by omega), c86 k (by omega), m86 k (by omega)]
      exact ⟨_, rfl, rfl⟩
    · rw [nz5, nz0, a, b]; exact ⟨_, rfl, rfl⟩
  · rw [if_neg q, if_neg q]
    by_cases q2 : p1 = 1
    · rw [if_pos q2, if_pos q2, ald0 (by omega) (by omega), m65, Option.bind_some]
      rcases in3 (N := N) p2 (m := X 65 0) (by have := hE.1; omega) with ⟨k, a, c, d, e⟩ | ⟨a, b⟩
      · subst c
        have hk : k < 5 := by have := hE.1; omega
        rw [d, e, Option.bind_some, Option.bind_some, if_neg one_ne, if_neg one_ne, nz_ald (by omega) (by omega), nz_ald (by omega) (by omega), c87 k hk, m87 k hk]
        exact ⟨_, rfl, rfl⟩
      · rw [a, b]; exact ⟨_, rfl, rfl⟩
    · rw [if_neg q2, if_neg q2]; exact ⟨_, rfl, rfl⟩
end Q
