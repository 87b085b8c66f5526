/-! count and waits -/
section Q3
variable {N n : Nat} {S : ns_S}
theorem phC {nc : Nat} {tk : Nat → Int32} {f : Nat → Nat} (hnc : nc ≤ 10) (ht : rA tk f 10) : ∀ d i q, i + d = nc → d < q → fX6_placesHad_4 N q (nI nc) tk (nI (sm f i)) (nI i) = some (nI (sm f nc)) := by
  intro d
  induction d with
  | zero =>
    intro i q h1 h2
    obtain ⟨q, rfl⟩ : ∃ z, q = z + 1 := ⟨q - 1, by omega⟩
    rw [show fX6_placesHad_4 N (q + 1) = gX6_placesHad_4 N (fX6_placesHad_4 N q) from rfl]
    unfold gX6_placesHad_4
    rw [if_pos (nI_le (by omega) (by omega)), show i = nc by omega]
  | succ d ih =>
    intro i q h1 h2
    obtain ⟨q, rfl⟩ : ∃ z, q = z + 1 := ⟨q - 1, by omega⟩
    rw [show fX6_placesHad_4 N (q + 1) = gX6_placesHad_4 N (fX6_placesHad_4 N q) from rfl]
    unfold gX6_placesHad_4
    rw [if_neg (nI_ge (by omega) (by omega)), nz_ald (by omega) (by omega), ht i (by omega), Option.bind_some, nz_let, nz_let, nI_add, nI_1]
    exact ih (i + 1) q (by omega) (by omega)
theorem ct93 {np : Nat} {cod : Int32} {ro cs ps hl wk ln mv ws has wi : Nat → Int32} {hs : Nat → Nat} (hN : 20 < N) (hps : ps 0 = nI np) (hnp : np ≤ 30) (hh : rA has hs 30) (hm : ∀ p, p < 30 → hs p < 1024) : ∀ d i q, i + d = np → d < q → fX11_count_93 N q cod ro cs ps hl wk ln mv ws has wi (nI (sm (fun p => pop (hs p)) i)) (nI i) = some (nI (sm (fun p => pop (hs p)) np), cod) := by
  intro d
  induction d with
  | zero =>
    intro i q h1 h2
    obtain ⟨q, rfl⟩ : ∃ z, q = z + 1 := ⟨q - 1, by omega⟩
    rw [show fX11_count_93 N (q + 1) = gX11_count_93 N (fX11_count_93 N q) from rfl]
    unfold gX11_count_93
    rw [ald0 (by omega) (by omega), hps, Option.bind_some, if_pos (nI_le (by omega) (by omega)), show i = np by omega]
  | succ d ih =>
    intro i q h1 h2
    obtain ⟨q, rfl⟩ : ∃ z, q = z + 1 := ⟨q - 1, by omega⟩
    rw [show fX11_count_93 N (q + 1) = gX11_count_93 N (fX11_count_93 N q) from rfl]
    unfold gX11_count_93
    rw [ald0 (by omega) (by omega), hps, Option.bind_some, if_neg (nI_ge (by omega) (by omega)), nz_ald (by omega) (by omega), hh i (by omega), Option.bind_some, ones_eq hN (hm i (by omega)), Option.bind_some, nz_let, nz_let, nI_add, nI_1]
    exact ih (i + 1) q (by omega) (by omega)
theorem ct167 {np : Nat} {cod : Int32} {ro cs ps hl wk ln mva ws has wi : Nat → Int32} {mv : Nat → Nat} (hps : ps 0 = nI np) (hnp : np ≤ 30) (hh : rA mva mv 30) : ∀ d i q, i + d = np → d < q → fX11_count_167 N q cod ro cs ps hl wk ln mva ws has wi (nI (sm mv i)) (nI i) = some (nI (sm mv np), cod) := by
  intro d
  induction d with
  | zero =>
    intro i q h1 h2
    obtain ⟨q, rfl⟩ : ∃ z, q = z + 1 := ⟨q - 1, by omega⟩
    rw [show fX11_count_167 N (q + 1) = gX11_count_167 N (fX11_count_167 N q) from rfl]
    unfold gX11_count_167
    rw [ald0 (by omega) (by omega), hps, Option.bind_some, if_pos (nI_le (by omega) (by omega)), show i = np by omega]
  | succ d ih =>
    intro i q h1 h2
    obtain ⟨q, rfl⟩ : ∃ z, q = z + 1 := ⟨q - 1, by omega⟩
    rw [show fX11_count_167 N (q + 1) = gX11_count_167 N (fX11_count_167 N q) from rfl]
    unfold gX11_count_167
    rw [ald0 (by omega) (by omega), hps, Option.bind_some, if_neg (nI_ge (by omega) (by omega)), nz_ald (by omega) (by omega), hh i (by omega), Option.bind_some, nz_let, nz_let, nI_add, nI_1]
    exact ih (i + 1) q (by omega) (by omega)
theorem ct125 {np : Nat} {cod : Int32} {ro cs ps hl wk ln mva wc has wi : Nat → Int32} {f : Nat → Nat} (hps : ps 0 = nI np) (hnp : np ≤ 30) (hf : ∀ p, p < 30 → fX11_pointsOf N wc has wi (nI p) = some (nI (f p))) : ∀ d i q, i + d = np → d < q → fX11_count_125 N q cod ro cs ps hl wk ln mva wc has wi (nI (sm f i)) (nI i) = some (nI (sm f np), cod) := by
  intro d
  induction d with
  | zero =>
    intro i q h1 h2
    obtain ⟨q, rfl⟩ : ∃ z, q = z + 1 := ⟨q - 1, by omega⟩
    rw [show fX11_count_125 N (q + 1) = gX11_count_125 N (fX11_count_125 N q) from rfl]
    unfold gX11_count_125
    rw [ald0 (by omega) (by omega), hps, Option.bind_some, if_pos (nI_le (by omega) (by omega)), show i = np by omega]
  | succ d ih =>
    intro i q h1 h2
    obtain ⟨q, rfl⟩ : ∃ z, q = z + 1 := ⟨q - 1, by omega⟩
    rw [show fX11_count_125 N (q + 1) = gX11_count_125 N (fX11_count_125 N q) from rfl]
    unfold gX11_count_125
    rw [ald0 (by omega) (by omega), hps, Option.bind_some, if_neg (nI_ge (by omega) (by omega)), hf i (by omega), Option.bind_some, nz_let, nz_let, nI_add, nI_1]
    exact ih (i + 1) q (by omega) (by omega)
theorem piC {np : Nat} {wc has wi : Nat → Int32} {f : Nat → Nat} (hnp : np ≤ 30) (hf : ∀ p, p < 30 → fX6_pointsOf N wc wi has (nI p) = some (nI (f p))) : ∀ d i q, i + d = np → d < q → fX6_pointsInAll_4 N q (nI np) wc wi has (nI (sm f i)) (nI i) = some (nI (sm f np)) := by
  intro d
  induction d with
  | zero =>
    intro i q h1 h2
    obtain ⟨q, rfl⟩ : ∃ z, q = z + 1 := ⟨q - 1, by omega⟩
    rw [show fX6_pointsInAll_4 N (q + 1) = gX6_pointsInAll_4 N (fX6_pointsInAll_4 N q) from rfl]
    unfold gX6_pointsInAll_4
    rw [if_pos (nI_le (by omega) (by omega)), show i = np by omega]
  | succ d ih =>
    intro i q h1 h2
    obtain ⟨q, rfl⟩ : ∃ z, q = z + 1 := ⟨q - 1, by omega⟩
    rw [show fX6_pointsInAll_4 N (q + 1) = gX6_pointsInAll_4 N (fX6_pointsInAll_4 N q) from rfl]
    unfold gX6_pointsInAll_4
    rw [if_neg (nI_ge (by omega) (by omega)), hf i (by omega), Option.bind_some, nz_let, nz_let, nI_add, nI_1]
    exact ih (i + 1) q (by omega) (by omega)
theorem opq_count (hN : 20000 ≤ N) (hR : Rel S n) (p1 : Int32) : ∃ r, aX10_count N S p1 = some r ∧ aX11_count N S p1 = some (r, 0) := by
  obtain ⟨⟨X, hM, hC, hV⟩, hT, hI⟩ := hR
  have m65 : S.2.1 65 0 = nI (X 65 0) := hM 65 (by decide) (by decide) 0 Nat.one_pos
  have m67 : S.2.1 67 0 = nI (X 67 0) := hM 67 (by decide) (by decide) 0 Nat.one_pos
  have m73 : S.2.1 73 0 = nI (X 73 0) := hM 73 (by decide) (by decide) 0 Nat.one_pos
  have m77 : rA (S.2.1 77) (X 77) 30 := hM 77 (by decide) (by decide)
  have m78 : rA (S.2.1 78) (X 78) 180 := hM 78 (by decide) (by decide)
  have m79 : S.2.1 79 0 = dI (X 79 0) := hM 79 (by decide) (by decide) 0 Nat.one_pos
  have m80 : S.2.1 80 0 = nI (X 80 0) := hM 80 (by decide) (by decide) 0 Nat.one_pos
  have m84 : rA (S.2.1 84) (X 84) 30 := hM 84 (by decide) (by decide)
  have m85 : rA (S.2.1 85) (X 85) 30 := hM 85 (by decide) (by decide)
  have m88 : S.2.1 88 0 = nI (X 88 0) := hM 88 (by decide) (by decide) 0 Nat.one_pos
  have c65 : S.1 1856 = nI (X 65 0) := hC.1.1
  have c67 : S.1 1984 = nI (X 67 0) := hC.1.2.2.1
  have c73 : S.1 2368 = nI (X 73 0) := hC.2.1.1
  have c77 : rA (S.2.1 41) (X 77) 30 := hC.2.1.2.2.2.2.1
  have c78 : rA (S.2.1 42) (X 78) 180 := hC.2.1.2.2.2.2.2
  have c79 : S.1 3072 = dI (X 79 0) := hC.2.2.2.1.1
  have c80 : S.1 2752 = nI (X 80 0) := hC.2.2.1.1
  have c84 : rA (S.2.1 47) (X 84) 30 := hC.2.2.1.2.2.2.2
  have c85 : rA (S.2.1 49) (X 85) 30 := hC.2.2.2.1.2.2.1
  have c88 : S.1 3392 = nI (X 88 0) := hC.2.2.2.2.1
  have ctk : rA (S.2.1 46) (fun c => cnt (X 84) c (X 73 0)) 10 := hC.2.2.1.2.2.2.1
  have cmia : S.1 3073 = nI (sm (X 85) (X 73 0)) := hC.2.2.2.1.2.1
  have e0 := E0_of hV
  unfold aX10_count aX11_count fX10_count fX11_count
  rw [c65, c67, c73, c80, c79, c88, cmia]
  by_cases q : p1 = 0
  · rw [if_pos q, if_pos q, ald0 (by omega) (by omega), m65]; exact ⟨_, rfl, rfl⟩
  rw [if_neg q, if_neg q]; clear q
  by_cases q : p1 = 1
  · rw [if_pos q, if_pos q, ald0 (by omega) (by omega), m67]; exact ⟨_, rfl, rfl⟩
  rw [if_neg q, if_neg q]; clear q
  by_cases q : p1 = 2
  · rw [if_pos q, if_pos q, ald0 (by omega) (by omega), m73]; exact ⟨_, rfl, rfl⟩
  rw [if_neg q, if_neg q]; clear q
  by_cases q : p1 = 3
  · rw [if_pos q, if_pos q, ald0 (by omega) (by omega), m80, Option.bind_some, ones_eq (by omega) e0.2.2.1, bitCount_eq e0.2.2.1]; exact ⟨_, rfl, rfl⟩
  rw [if_neg q, if_neg q]; clear q
  by_cases q : p1 = 4
  · rw [if_pos q, if_pos q]
    have h1 := phC (N := N) e0.2.1 ctk (X 67 0) 0 N (by omega) (by have := e0.2.1; omega)
    have h2 := ct93 (N := N) (cod := 0) (ro := S.2.1 65) (cs := S.2.1 67) (hl := S.2.1 80) (wk := S.2.1 79) (ln := S.2.1 88) (mv := S.2.1 85) (ws := S.2.1 77) (wi := S.2.1 78) (by omega) m73 e0.1 m84 (hs_lt hV) (X 73 0) 0 N (by omega) (by have := e0.1; omega)
    have h3 : sm (fun c => cnt (X 84) c (X 73 0)) (X 67 0) = sm (fun p => pop (X 84 p)) (X 73 0) := by
      rw [sm_congr (g := fun c => sm (fun p => bt (X 84 p) c) (X 73 0)) _ (fun c _ => cnt_sm _ c _), sm_swap]
      refine sm_congr _ (fun p hp => pop_sm e0.2.1 ?_)
      have hp3 : p < 30 := by have := e0.1; omega
      have h4 := hV.2.2.2.1
      refine Nat.lt_pow_two_of_testBit _ (fun i hi => ?_)
      by_cases z : (X 84 p).testBit i = true
      · have := tb_lt h4.1 (h4.2.1 p hp3 i z).1
        omega
      · exact Bool.eq_false_iff.mpr z
    unfold fX6_placesHad
    rw [h3] at h1
    refine ⟨nI (sm (fun p => pop (X 84 p)) (X 73 0)), ?_, h2⟩
    rw [show (0 : Int32) = nI (sm (fun c => cnt (X 84) c (X 73 0)) 0) from rfl]
    have h1' : fX6_placesHad_4 N N (nI (X 67 0)) (S.2.1 46) (nI (sm (fun c => cnt (X 84) c (X 73 0)) 0)) (nI (sm (fun c => cnt (X 84) c (X 73 0)) 0)) = _ := h1
    rw [h1']; rfl
  rw [if_neg q, if_neg q]; clear q
  by_cases q : p1 = 5
  · rw [if_pos q, if_pos q]
    have hfC : ∀ p, p < 30 → fX6_pointsOf N (S.2.1 41) (S.2.1 42) (S.2.1 47) (nI p) = some (nI ((fun p => sm (ppf (WX X p) (X 84 p)) (X 77 p)) p)) := fun p hp => ptC (N := N) hp (c77 p hp) (e0.2.2.2.1 p hp).1 (W := WX X p) (fun k hk => c78 (p * 6 + k) (by have := (e0.2.2.2.1 p hp).1; omega)) (e0.2.2.2.2.1 p hp) (c84 p hp) (hs_lt hV p hp) (X 77 p) 0 N (by omega) (by have := (e0.2.2.2.1 p hp).1; omega)
    have hfR : ∀ p, p < 30 → fX11_pointsOf N (S.2.1 77) (S.2.1 84) (S.2.1 78) (nI p) = some (nI ((fun p => sm (ppf (WX X p) (X 84 p)) (X 77 p)) p)) := fun p hp => ptR (N := N) hp (m77 p hp) (e0.2.2.2.1 p hp).1 (W := WX X p) (fun k hk => m78 (p * 6 + k) (by have := (e0.2.2.2.1 p hp).1; omega)) (e0.2.2.2.2.1 p hp) (m84 p hp) (hs_lt hV p hp) (X 77 p) 0 N (by omega) (by have := (e0.2.2.2.1 p hp).1; omega)
    have h1 := piC (N := N) e0.1 hfC (X 73 0) 0 N (by omega) (by have := e0.1; omega)
    have h2 := ct125 (N := N) (cod := 0) (ro := S.2.1 65) (cs := S.2.1 67) (hl := S.2.1 80) (wk := S.2.1 79) (ln := S.2.1 88) (mva := S.2.1 85) m73 e0.1 hfR (X 73 0) 0 N (by omega) (by have := e0.1; omega)
    unfold fX6_pointsInAll
    refine ⟨_, ?_, h2⟩
    have h1' : fX6_pointsInAll_4 N N (nI (X 73 0)) (S.2.1 41) (S.2.1 42) (S.2.1 47) 0 0 = _ := h1
    rw [h1']; rfl
  rw [if_neg q, if_neg q]; clear q
  by_cases q : p1 = 6
  · rw [if_pos q, if_pos q, ald0 (by omega) (by omega), m79]; exact ⟨_, rfl, rfl⟩
  rw [if_neg q, if_neg q]; clear q
  by_cases q : p1 = 7
  · rw [if_pos q, if_pos q, ald0 (by omega) (by omega), m88]; exact ⟨_, rfl, rfl⟩
  rw [if_neg q, if_neg q]; clear q
  by_cases q : p1 = 8
  · rw [if_pos q, if_pos q]
    have h2 := ct167 (N := N) (cod := 0) (ro := S.2.1 65) (cs := S.2.1 67) (hl := S.2.1 80) (wk := S.2.1 79) (ln := S.2.1 88) (ws := S.2.1 77) (has := S.2.1 84) (wi := S.2.1 78) m73 e0.1 m85 (X 73 0) 0 N (by omega) (by have := e0.1; omega)
    exact ⟨_, rfl, h2⟩
  rw [if_neg q, if_neg q]
  exact ⟨_, rfl, rfl⟩
theorem opq_waits (hN : 20000 ≤ N) (hR : Rel S n) (p1 p2 : Int32) : ∃ r, aX10_waits N S p1 p2 = some r ∧ aX11_waits N S p1 p2 = some (r, 0) := by
  obtain ⟨⟨X, hM, hC, hV⟩, hT, hI⟩ := hR
  have m67 : S.2.1 67 0 = nI (X 67 0) := hM 67 (by decide) (by decide) 0 Nat.one_pos
  have m68 : rA (S.2.1 68) (X 68) 10 := hM 68 (by decide) (by decide)
  have m73 : S.2.1 73 0 = nI (X 73 0) := hM 73 (by decide) (by decide) 0 Nat.one_pos
  have m76 : rA (S.2.1 76) (X 76) 30 := hM 76 (by decide) (by decide)
  have m77 : rA (S.2.1 77) (X 77) 30 := hM 77 (by decide) (by decide)
  have m78 : rA (S.2.1 78) (X 78) 180 := hM 78 (by decide) (by decide)
  have m80 : S.2.1 80 0 = nI (X 80 0) := hM 80 (by decide) (by decide) 0 Nat.one_pos
  have m82 : rA (S.2.1 82) (X 82) 10 := hM 82 (by decide) (by decide)
  have m84 : rA (S.2.1 84) (X 84) 30 := hM 84 (by decide) (by decide)
  have c67 : S.1 1984 = nI (X 67 0) := hC.1.2.2.1
  have c68 : rA (S.2.1 32) (X 68) 10 := hC.1.2.2.2.1
  have c73 : S.1 2368 = nI (X 73 0) := hC.2.1.1
  have c76 : rA (S.2.1 40) (X 76) 30 := hC.2.1.2.2.2.1
  have c77 : rA (S.2.1 41) (X 77) 30 := hC.2.1.2.2.2.2.1
  have c78 : rA (S.2.1 42) (X 78) 180 := hC.2.1.2.2.2.2.2
  have c80 : S.1 2752 = nI (X 80 0) := hC.2.2.1.1
  have c84 : rA (S.2.1 47) (X 84) 30 := hC.2.2.1.2.2.2.2
  have e0 := E0_of hV
  have hnp := e0.1
  unfold aX10_waits aX11_waits fX10_waits fX11_waits
  rw [c67, c80, c73]
  obtain ⟨N0, hN0⟩ : ∃ z, N = z + 1 := ⟨N - 1, by omega⟩
  have hnone : (fX11_isCourse N (S.2.1 67) p1 = some 0 ∨ p2 < 0) → fX11_waits_10 N N 0 (S.2.1 73) (S.2.1 67) (S.2.1 84) (S.2.1 77) (S.2.1 78) (S.2.1 80) (S.2.1 68) (S.2.1 76) (S.2.1 82) p1 p2 0 = some (-1, 0) := by
    intro hor
    have : fX11_waits_10 N N = gX11_waits_10 N (fX11_waits_10 N N0) := by rw [hN0]; rfl
    rw [this]
    unfold gX11_waits_10
    rw [ald0 (by omega) (by omega), m73, Option.bind_some]
    by_cases z : nI (X 73 0) ≤ 0
    · rw [if_pos z]
    · rw [if_neg z]
      rcases isC (N := N) p1 (m := X 67 0) (by have := e0.2.1; omega) m67 with ⟨k, a', b, c, d⟩ | ⟨a, b⟩
      · rw [d, Option.bind_some, if_neg one_ne]
        rcases hor with h | h
        · rw [d] at h; exact absurd (Option.some.inj h) one_ne
        · rw [if_pos h]
      · rw [b]; rfl
  rcases isC (N := N) p1 (m := X 67 0) (by have := e0.2.1; omega) m67 with ⟨c, a', b, hcC, hcR⟩ | ⟨a, b⟩
  · rw [hcC, Option.bind_some, if_neg one_ne]
    by_cases hneg : p2 < 0
    · rw [hnone (Or.inr hneg)]
      refine ⟨_, if_neg (fun h => ?_), rfl⟩
      have a1 := Int32.lt_iff_toInt_lt.mp hneg
      have a2 := Int32.le_iff_toInt_le.mp h
      omega
    · obtain ⟨k, k1, rfl⟩ := nn_ex hneg
      subst b
      have hc : c < 10 := by have := e0.2.1; omega
      rw [if_pos (show (0 : Int32) ≤ nI k from nI_le (a := 0) (by omega) (by omega))]
      have loop : ∀ d i m b, i + d = X 73 0 → d < m → b ≤ k → b ≤ i → ∃ r, fX10_waits_19 N m (nI (X 67 0)) (nI (X 73 0)) (S.2.1 47) (S.2.1 41) (S.2.1 42) (nI (X 80 0)) (S.2.1 32) (S.2.1 40) (nI c) (nI k) (nI b) (nI i) = some r ∧ fX11_waits_10 N m 0 (S.2.1 73) (S.2.1 67) (S.2.1 84) (S.2.1 77) (S.2.1 78) (S.2.1 80) (S.2.1 68) (S.2.1 76) (S.2.1 82) (nI c) (nI (k - b)) (nI i) = some (r, 0) := by
        intro d
        induction d with
        | zero =>
          intro i m b h1 h2 h3 h4
          obtain ⟨m, rfl⟩ : ∃ z, m = z + 1 := ⟨m - 1, by omega⟩
          rw [show fX10_waits_19 N (m + 1) = gX10_waits_19 N (fX10_waits_19 N m) from rfl, show fX11_waits_10 N (m + 1) = gX11_waits_10 N (fX11_waits_10 N m) from rfl]
          unfold gX10_waits_19 gX11_waits_10
          rw [ald0 (by omega) (by omega), m73, Option.bind_some, if_pos (nI_le (by omega) (by omega)), if_pos (nI_le (by omega) (by omega))]
          exact ⟨_, rfl, rfl⟩
        | succ d ih =>
          intro i m b h1 h2 h3 h4
          obtain ⟨m, rfl⟩ : ∃ z, m = z + 1 := ⟨m - 1, by omega⟩
          have hp : i < 30 := by omega
          have hn := e0.2.2.2.1 i hp
          rw [show fX10_waits_19 N (m + 1) = gX10_waits_19 N (fX10_waits_19 N m) from rfl, show fX11_waits_10 N (m + 1) = gX11_waits_10 N (fX11_waits_10 N m) from rfl]
          unfold gX10_waits_19 gX11_waits_10
          rw [ald0 (by omega) (by omega), m73, Option.bind_some, if_neg (nI_ge (by omega) (by omega)), if_neg (nI_ge (by omega) (by omega)), hcR, Option.bind_some, if_neg one_ne, if_neg (nI_lt0 (by omega))]
          rw [reasonFor_eq (by omega) hp hc (c84 i hp) (hs_lt hV i hp) (c77 i hp) hn.1 (W := WX X i) (fun k hk => c78 (i * 6 + k) (by omega)) (e0.2.2.2.2.1 i hp) e0.2.2.1 c68 (fun i hi => (e0.2.2.2.2.2 i hi).1) e0.2.1 (c76 i hp) hn.2]
          rw [reason_eq (by omega) hp hc m84 (hs_lt hV) rfl (m77 i hp) hn.1 (W := WX X i) (fun k hk => m78 (i * 6 + k) (by omega)) (e0.2.2.2.2.1 i hp) e0.2.2.1 m80 m68 (fun i hi => (e0.2.2.2.2.2 i hi).1) m67 e0.2.1 m73 e0.1 (m76 i hp) hn.2 m82 (fun i hi => (e0.2.2.2.2.2 i hi).2)]
          rw [st56 hV (by omega) a', Option.bind_some, Option.bind_some]
          by_cases h5 : nI (rs5 (X 84 i) (X 77 i) (WX X i) (X 80 0) (X 68) (X 67 0) (X 76 i) c) = 5
          · rw [if_pos h5, if_pos h5]
            by_cases hb : b = k
            · rw [if_pos (show nI b = nI k by rw [hb]), if_pos (show nI (k - b) = 0 by rw [hb, Nat.sub_self]; rfl)]
              exact ⟨_, rfl, rfl⟩
            · rw [if_neg (show ¬ nI b = nI k from fun e => hb ((nI_eq (by omega) k1).mp e)), if_neg (show ¬ nI (k - b) = 0 from fun e => by have := (nI_eq (b := 0) (by omega) (by omega)).mp e; omega), nz_let, nz_let, nz_let, nz_let, nI_1, nI_1, nI_dec (by omega), show k - b - 1 = k - (b + 1) by omega]
              exact ih (i + 1) m (b + 1) (by omega) (by omega) (by omega) (by omega)
          · rw [if_neg h5, if_neg h5, nz_let, nz_let, nI_1]
            exact ih (i + 1) m b (by omega) (by omega) h3 (by omega)
      exact loop (X 73 0) 0 N 0 (by omega) (by omega) (by omega) (by omega)
  · rw [a, Option.bind_some, if_pos (rfl : (0 : Int32) = 0), hnone (Or.inl b)]
    exact ⟨_, rfl, rfl⟩
end Q3
