/-! weeks -/
theorem IV.to0 {X : SX} {n : Nat} (h : IV X n) : IV0 X n := ⟨h.1, h.2.1, h.2.2.1, h.2.2.2.1, h.2.2.2.2.1, h.2.2.2.2.2.2.1, h.2.2.2.2.2.2.2⟩
abbrev wkz (z : Nat) : Prop := z ≠ 79 ∧ z ≠ 80 ∧ z ≠ 81 ∧ z ≠ 82 ∧ z ≠ 83 ∧ z ≠ 84 ∧ z ≠ 85 ∧ z ≠ 86 ∧ z ≠ 87
theorem pw_k {X : SX} {z : Nat} (h : wkz z) : pw X z = X z := pw_ne ⟨h.2.2.2.2.1, h.2.2.2.2.2.2.2.1, h.2.2.2.2.2.2.2.2⟩ ⟨h.2.1, h.2.2.1, h.2.2.2.1, h.2.2.2.2.2.1⟩ h.1 h.2.2.2.2.2.2.1
theorem KC_eq {X X' : SX} {wc wi eva wnt lea tea : Nat → Int32} (h : KC X wc wi eva wnt lea tea) (e : ∀ z, wkz z → X' z = X z) : KC X' wc wi eva wnt lea tea := by
  unfold KC
  rw [e 77 (by decide), e 78 (by decide), e 68 (by decide), e 76 (by decide), e 70 (by decide), e 69 (by decide)]
  exact h
section WM
variable {N : Nat} {S : ns_S}
theorem wks (hN : 20000 ≤ N) {cod : Int32} {wc wi eva wnt lea tea csR psR wcR wiR evaR wntR leaR teaR : Nat → Int32} {k ncv npv : Nat} (hk : k ≤ 20) (h67 : csR 0 = nI ncv) (h73 : psR 0 = nI npv) : ∀ d i m n (X : SX) (wk hd mia : Int32) (wh th ro rh tk pl has mv wkR hlR whR thR roR rhR plR hasR mvR : Nat → Int32), i + d = k → d < m → n + d < 2 ^ 31 → IV X n → X 79 0 ≠ 0 → X 67 0 = ncv → X 73 0 = npv → CW X wk hd wh th ro rh tk pl has mv mia → KC X wc wi eva wnt lea tea → MW X wkR hlR whR thR roR rhR plR hasR mvR → KC X wcR wiR evaR wntR leaR teaR →
    ∃ (X' : SX) (wk' hd' mia' : Int32) (wh' th' ro' rh' tk' pl' has' mv' wkR' hlR' whR' thR' roR' rhR' plR' hasR' mvR' : Nat → Int32), fX10_weeks_27 N m wk (nI ncv) hd wh tea th ro rh (nI npv) wc wi tk pl has eva wnt mv mia lea (nI k) (nI i) = some (wk', wk', wh', th', rh', has', tk', mv', mia', hd', ro', pl') ∧ fX11_weeks_29 N m cod wkR csR hlR whR teaR thR roR rhR psR wcR wiR hasR evaR wntR plR mvR leaR (nI k) (nI i) = some (wkR' 0, cod, whR', thR', rhR', wkR', hasR', mvR', hlR', roR', plR') ∧ CW X' wk' hd' wh' th' ro' rh' tk' pl' has' mv' mia' ∧ MW X' wkR' hlR' whR' thR' roR' rhR' plR' hasR' mvR' ∧ IV X' (n + d) ∧ (∀ z, wkz z → X' z = X z) ∧ kpW wkR hlR whR thR roR rhR plR hasR mvR wkR' hlR' whR' thR' roR' rhR' plR' hasR' mvR' := by
  intro d
  induction d with
  | zero =>
    intro i m n X wk hd mia wh th ro rh tk pl has mv wkR hlR whR thR roR rhR plR hasR mvR h1 h2 h3 hV hw e67 e73 hC hK hM hKR
    obtain ⟨m, rfl⟩ : ∃ z, m = z + 1 := ⟨m - 1, by omega⟩
    refine ⟨X, wk, hd, mia, wh, th, ro, rh, tk, pl, has, mv, wkR, hlR, whR, thR, roR, rhR, plR, hasR, mvR, ?_, ?_, hC, hM, hV, fun _ _ => rfl, kp.rf, kp.rf, kp.rf, kp.rf, kp.rf, kp.rf, kp.rf, kp.rf, kp.rf⟩
    · rw [show fX10_weeks_27 N (m + 1) = gX10_weeks_27 N (fX10_weeks_27 N m) from rfl]
      unfold gX10_weeks_27
      rw [if_pos (nI_le (by omega) (by omega))]
    · rw [show fX11_weeks_29 N (m + 1) = gX11_weeks_29 N (fX11_weeks_29 N m) from rfl]
      unfold gX11_weeks_29
      rw [if_pos (nI_le (by omega) (by omega)), ald0 (by omega) (by omega)]
      rfl
  | succ d ih =>
    intro i m n X wk hd mia wh th ro rh tk pl has mv wkR hlR whR thR roR rhR plR hasR mvR h1 h2 h3 hV hw e67 e73 hC hK hM hKR
    obtain ⟨m, rfl⟩ : ∃ z, m = z + 1 := ⟨m - 1, by omega⟩
    obtain ⟨⟨wk', hd', mia', wh', th', ro', rh', tk', pl', has', mv', a1, a2⟩, ⟨wkR', hlR', whR', thR', roR', rhR', plR', hasR', mvR', b1, b2, b3⟩, c1, c2⟩ := pass_both (N := N) (n := n) (X := X) hN (by omega) hV.to0 hw hC hK (r29 := fX11_weeks_29 N m) (cod := cod) (l1 := nI k) (l2 := nI i) hM hKR (by rw [e67]; exact h67) (by rw [e73]; exact h73)
    obtain ⟨X2, wk2, hd2, mia2, wh2, th2, ro2, rh2, tk2, pl2, has2, mv2, wkR2, hlR2, whR2, thR2, roR2, rhR2, plR2, hasR2, mvR2, f1, f2, f3, f4, f5, f6, f7⟩ := ih (i + 1) m (n + 1) (pw X) wk' hd' mia' wh' th' ro' rh' tk' pl' has' mv' wkR' hlR' whR' thR' roR' rhR' plR' hasR' mvR' (by omega) (by omega) (by omega) c1 (by rw [c2]; omega) (by rw [pw_k (by decide)]; exact e67) (by rw [pw_k (by decide)]; exact e73) a2 (KC_eq hK (fun z h => pw_k h)) b2 (KC_eq hKR (fun z h => pw_k h))
    refine ⟨X2, wk2, hd2, mia2, wh2, th2, ro2, rh2, tk2, pl2, has2, mv2, wkR2, hlR2, whR2, thR2, roR2, rhR2, plR2, hasR2, mvR2, ?_, ?_, f3, f4, ?_, fun z h => (f6 z h).trans (pw_k h), kp.tr b3.1 f7.1, kp.tr b3.2.1 f7.2.1, kp.tr b3.2.2.1 f7.2.2.1, kp.tr b3.2.2.2.1 f7.2.2.2.1, kp.tr b3.2.2.2.2.1 f7.2.2.2.2.1, kp.tr b3.2.2.2.2.2.1 f7.2.2.2.2.2.1, kp.tr b3.2.2.2.2.2.2.1 f7.2.2.2.2.2.2.1, kp.tr b3.2.2.2.2.2.2.2.1 f7.2.2.2.2.2.2.2.1, kp.tr b3.2.2.2.2.2.2.2.2 f7.2.2.2.2.2.2.2.2⟩
    · rw [show fX10_weeks_27 N (m + 1) = gX10_weeks_27 N (fX10_weeks_27 N m) from rfl]
      unfold gX10_weeks_27
      rw [if_neg (nI_ge (by omega) (by omega)), ← e67, ← e73, a1, Option.bind_some, nz_let, nI_1, e67, e73]
      exact f1
    · rw [show fX11_weeks_29 N (m + 1) = gX11_weeks_29 N (fX11_weeks_29 N m) from rfl]
      unfold gX11_weeks_29
      rw [if_neg (nI_ge (by omega) (by omega)), b1, nI_1]
      exact f2
    · rw [show n + (d + 1) = n + 1 + d by omega]; exact f5
theorem op_weeks {n : Nat} (hN : 20000 ≤ N) (hn : n + 20 < 2 ^ 31) (hR : Rel S n) (p1 : Int32) : ∃ o1 o2, aX10_weeks N S p1 = some o1 ∧ aX11_weeks N S p1 = some o2 ∧ o1.1 = o2.1 ∧ Rel (uX11_weeks (uX10_weeks S o1) o2) (n + 20) := by
  have hR0 := hR
  obtain ⟨⟨X, hM, hC, hV⟩, hT, hI⟩ := hR
  have m67 : S.2.1 67 0 = nI (X 67 0) := hM 67 (by decide) (by decide) 0 Nat.one_pos
  have m68 : rA (S.2.1 68) (X 68) 10 := hM 68 (by decide) (by decide)
  have m69 : rA (S.2.1 69) (X 69) 10 := hM 69 (by decide) (by decide)
  have m70 : rA (S.2.1 70) (X 70) 10 := hM 70 (by decide) (by decide)
  have m73 : S.2.1 73 0 = nI (X 73 0) := hM 73 (by decide) (by decide) 0 Nat.one_pos
  have m76 : rA (S.2.1 76) (X 76) 30 := hM 76 (by decide) (by decide)
  have m77 : rA (S.2.1 77) (X 77) 30 := hM 77 (by decide) (by decide)
  have m78 : rA (S.2.1 78) (X 78) 180 := hM 78 (by decide) (by decide)
  have m79 : S.2.1 79 0 = dI (X 79 0) := hM 79 (by decide) (by decide) 0 Nat.one_pos
  have m80 : S.2.1 80 0 = nI (X 80 0) := hM 80 (by decide) (by decide) 0 Nat.one_pos
  have m81 : ∀ j, j < szM X 81 → S.2.1 81 j = dI (X 81 j) := hM 81 (by decide) (by decide)
  have m82 : rA (S.2.1 82) (X 82) 10 := hM 82 (by decide) (by decide)
  have m83 : rA (S.2.1 83) (X 83) 10 := hM 83 (by decide) (by decide)
  have m84 : rA (S.2.1 84) (X 84) 30 := hM 84 (by decide) (by decide)
  have m85 : rA (S.2.1 85) (X 85) 30 := hM 85 (by decide) (by decide)
  have m86 : rA (S.2.1 86) (X 86) 6 := hM 86 (by decide) (by decide)
  have m87 : rA (S.2.1 87) (X 87) 5 := hM 87 (by decide) (by decide)
  have c67 : S.1 1984 = nI (X 67 0) := hC.1.2.2.1
  have c68 : rA (S.2.1 32) (X 68) 10 := hC.1.2.2.2.1
  have c69 : rA (S.2.1 33) (X 69) 10 := hC.1.2.2.2.2.1
  have c70 : rA (S.2.1 34) (X 70) 10 := hC.1.2.2.2.2.2.1
  have c73 : S.1 2368 = nI (X 73 0) := hC.2.1.1
  have c76 : rA (S.2.1 40) (X 76) 30 := hC.2.1.2.2.2.1
  have c77 : rA (S.2.1 41) (X 77) 30 := hC.2.1.2.2.2.2.1
  have c78 : rA (S.2.1 42) (X 78) 180 := hC.2.1.2.2.2.2.2
  have c79 : S.1 3072 = dI (X 79 0) := hC.2.2.2.1.1
  have c80 : S.1 2752 = nI (X 80 0) := hC.2.2.1.1
  have c81 : rD (S.2.1 44) (X 81) 10 := hC.2.2.1.2.1
  have c82 : rA (S.2.1 45) (X 82) 10 := hC.2.2.1.2.2.1
  have c83 : rA (S.2.1 50) (X 83) 10 := hC.2.2.2.1.2.2.2.1
  have c84 : rA (S.2.1 47) (X 84) 30 := hC.2.2.1.2.2.2.2
  have c85 : rA (S.2.1 49) (X 85) 30 := hC.2.2.2.1.2.2.1
  have c86 : rA (S.2.1 51) (X 86) 6 := hC.2.2.2.1.2.2.2.2.1
  have c87 : rA (S.2.1 52) (X 87) 5 := hC.2.2.2.1.2.2.2.2.2
  have ctk : rA (S.2.1 46) (fun c => cnt (X 84) c (X 73 0)) 10 := hC.2.2.1.2.2.2.1
  have cmia : S.1 3073 = nI (sm (X 85) (X 73 0)) := hC.2.2.2.1.2.1
  have hw : X 79 0 < 2 ^ 31 := by have := hV.2.2.2.2.2.2.1; omega
  have no : ∀ r : Int32, Rel (uX11_weeks (uX10_weeks S (r, S.1 3072, S.2.1 50, S.2.1 51, S.2.1 52, S.2.1 47, S.2.1 46, S.2.1 49, S.1 3073, S.1 2752, S.2.1 44, S.2.1 45)) (r, 0, S.2.1 83, S.2.1 86, S.2.1 87, S.2.1 79, S.2.1 84, S.2.1 85, S.2.1 80, S.2.1 81, S.2.1 82)) (n + 20) := fun r => by
    have h1 : uX10_weeks S (r, S.1 3072, S.2.1 50, S.2.1 51, S.2.1 52, S.2.1 47, S.2.1 46, S.2.1 49, S.1 3073, S.1 2752, S.2.1 44, S.2.1 45) = S := by
      unfold uX10_weeks
      dsimp only
      simp only [ns_I_id, ns_A_id]
    rw [h1]
    have h2 : uX11_weeks S (r, 0, S.2.1 83, S.2.1 86, S.2.1 87, S.2.1 79, S.2.1 84, S.2.1 85, S.2.1 80, S.2.1 81, S.2.1 82) = ns_I S 3968 0 := by
      unfold uX11_weeks
      dsimp only
      simp only [ns_A_id]
    rw [h2]
    exact (Rel_cd hR0).mono (by omega)
  unfold aX10_weeks aX11_weeks fX10_weeks fX11_weeks
  by_cases hoff : X 79 0 = 0
  · refine ⟨_, _, ?_, ?_, ?_, no (-1)⟩
    · rw [c79, isOn_eq hw, if_pos hoff, Option.bind_some, if_pos (rfl : (0 : Int32) = 0), ← c79]
    · rw [ald0 (by omega) (by omega), m79, Option.bind_some, if_pos (show dI (X 79 0) = -1 by rw [dI_off hw]; exact hoff)]
    · rfl
  have g : ¬ dI (X 79 0) = -1 := by rw [dI_off hw]; exact hoff
  rcases in2 (N := N) p1 (lo := 1) (hi := 20) (by omega) (by omega) with ⟨k, k1, k2, rfl, d, e⟩ | ⟨d, e, -⟩
  case inr =>
    refine ⟨_, _, ?_, ?_, ?_, no (-1)⟩
    · rw [c79, isOn_eq hw, if_neg hoff, Option.bind_some, if_neg one_ne, show fX10_isWithin N p1 1 20 = some 0 from d, Option.bind_some, if_pos (rfl : (0 : Int32) = 0), ← c79]
    · rw [ald0 (by omega) (by omega), m79, Option.bind_some, if_neg g, show fX11_in N p1 1 20 = some 0 from e]; rfl
    · rfl
  have m81 : rD (S.2.1 81) (X 81) 10 := fun j hj => m81 j (by rw [szM_on hoff]; exact hj)
  obtain ⟨X2, wk2, hd2, mia2, wh2, th2, ro2, rh2, tk2, pl2, has2, mv2, wkR2, hlR2, whR2, thR2, roR2, rhR2, plR2, hasR2, mvR2, f1, f2, f3, f4, f5, f6, f7⟩ := wks (N := N) hN (cod := 0) (k := k) k2 m67 m73 k 0 N n X (S.1 3072) (S.1 2752) (S.1 3073) (S.2.1 50) (S.2.1 51) (S.2.1 44) (S.2.1 52) (S.2.1 46) (S.2.1 45) (S.2.1 47) (S.2.1 49) (S.2.1 79) (S.2.1 80) (S.2.1 83) (S.2.1 86) (S.2.1 81) (S.2.1 87) (S.2.1 82) (S.2.1 84) (S.2.1 85) (by omega) (by omega) (by omega) hV hoff rfl rfl ⟨c79, ⟨c83, c86, c87⟩, ⟨c80, c81, c82, ctk, c84⟩, c85, cmia⟩ ⟨c77, c78, c68, c76, c70, c69⟩ ⟨m79, ⟨m83, m86, m87⟩, ⟨m80, m81, m82, m84⟩, m85⟩ ⟨m77, m78, m68, m76, m70, m69⟩
  obtain ⟨g1, ⟨g2, g3, g4⟩, ⟨g5, g6, g7, g8, g9⟩, g10, g11⟩ := f3
  obtain ⟨h1, ⟨h2, h3, h4⟩, ⟨h5, h6, h7, h8⟩, h9⟩ := f4
  refine ⟨(wk2, wk2, wh2, th2, rh2, has2, tk2, mv2, mia2, hd2, ro2, pl2), (wkR2 0, 0, whR2, thR2, rhR2, wkR2, hasR2, mvR2, hlR2, roR2, plR2), ?_, ?_, ?_, ⟨⟨X2, ?_, ?_, f5.mono (by omega)⟩, hT, Im_fr (S := S) ⟨all31 kp.rf kp.rf kp.rf kp.rf kp.rf kp.rf kp.rf kp.rf kp.rf kp.rf kp.rf kp.rf kp.rf kp.rf (f7.1) (f7.2.1) (f7.2.2.2.2.1) (f7.2.2.2.2.2.2.1) (f7.2.2.1) (f7.2.2.2.2.2.2.2.1) (f7.2.2.2.2.2.2.2.2) (f7.2.2.2.1) (f7.2.2.2.2.2.1) kp.rf kp.rf kp.rf kp.rf kp.rf kp.rf kp.rf kp.rf, by intro i hi; simp (disch := omega) only [uX11_weeks, uX10_weeks, ns_A, ns_I, va_up_ne], by intro u hu; simp (disch := omega) only [uX11_weeks, uX10_weeks, ns_A, ns_I, va_up_ne], rfl⟩ (by omega) hI⟩⟩
  · rw [c79, isOn_eq hw, if_neg hoff, Option.bind_some, if_neg one_ne, show fX10_isWithin N (nI k) 1 20 = some 1 from d, Option.bind_some, if_neg one_ne, c67, c73, ← c79]
    exact f1
  · rw [ald0 (by omega) (by omega), m79, Option.bind_some, if_neg g, show fX11_in N (nI k) 1 20 = some 1 from e, Option.bind_some, if_neg one_ne]
    exact f2
  · show wk2 = wkR2 0
    rw [g1, h1]
  · have hMY : ∀ z, 65 ≤ z → z < 96 → wkz z → ∀ j, j < szs z → S.2.1 z j = en z (X2 z j) := fun z a b c j hj => by
      rw [f6 z c]
      refine hM z a b j ?_
      unfold szM
      rw [if_neg (fun q => c.2.2.1 q.1)]
      exact hj
    refine all31 (hMY 65 (by decide) (by decide) (by decide)) (hMY 66 (by decide) (by decide) (by decide)) (hMY 67 (by decide) (by decide) (by decide)) (hMY 68 (by decide) (by decide) (by decide)) (hMY 69 (by decide) (by decide) (by decide)) (hMY 70 (by decide) (by decide) (by decide)) (hMY 71 (by decide) (by decide) (by decide)) (hMY 72 (by decide) (by decide) (by decide)) (hMY 73 (by decide) (by decide) (by decide)) (hMY 74 (by decide) (by decide) (by decide)) (hMY 75 (by decide) (by decide) (by decide)) (hMY 76 (by decide) (by decide) (by decide)) (hMY 77 (by decide) (by decide) (by decide)) (hMY 78 (by decide) (by decide) (by decide)) (fun j hj => ?_) (fun j hj => ?_) (fun j hj => h6 j (szM_le hj (by rw [f6 67 (by decide)]; exact hV.1.2.1))) (h7) (h2) (h8) (h9) (h3) (h4) (hMY 88 (by decide) (by decide) (by decide)) (hMY 89 (by decide) (by decide) (by decide)) (hMY 90 (by decide) (by decide) (by decide)) (hMY 91 (by decide) (by decide) (by decide)) (hMY 92 (by decide) (by decide) (by decide)) (hMY 93 (by decide) (by decide) (by decide)) (hMY 94 (by decide) (by decide) (by decide)) (hMY 95 (by decide) (by decide) (by decide))
    · obtain rfl : j = 0 := by have : j < 1 := hj; omega
      exact h1
    · obtain rfl : j = 0 := by have : j < 1 := hj; omega
      exact h5
  · unfold CB C1 C2 C5
    rw [f6 65 (by decide), f6 66 (by decide), f6 67 (by decide), f6 68 (by decide), f6 69 (by decide), f6 70 (by decide), f6 71 (by decide), f6 72 (by decide), f6 73 (by decide), f6 74 (by decide), f6 75 (by decide), f6 76 (by decide), f6 77 (by decide), f6 78 (by decide), f6 88 (by decide), f6 89 (by decide), f6 90 (by decide), f6 91 (by decide), f6 92 (by decide), f6 93 (by decide), f6 94 (by decide), f6 95 (by decide)]
    exact ⟨hC.1, hC.2.1, ⟨g5, g6, g7, g8, g9⟩, ⟨g1, g11, g10, g2, g3, g4⟩, hC.2.2.2.2⟩
end WM
