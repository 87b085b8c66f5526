/-! moving up, in a school; wish -/
def IV0 (X : SX) (n : Nat) : Prop := EX X ∧ IJ X ∧ IA X ∧ IH X ∧ IO X ∧ X 79 0 ≤ n ∧ FE X
def muX (X : SX) : HM := mus (X 73 0) (X 67 0) (X 80 0) (X 77) (X 76) (X 82) (X 68) (WX X) 1080 (X 84, X 85)
def mvX (X : SX) : SX := va_up (va_up X 85 (muX X).2) 84 (muX X).1
theorem E0_of0 {X : SX} {n : Nat} (h : IV0 X n) : Env0 (X 73 0) (X 67 0) (X 80 0) (X 77) (X 76) (X 82) (X 68) (WX X) := by
  obtain ⟨hE, hJ, hA, hH, hO, hn, hF⟩ := h
  have hp : 2 ^ X 67 0 ≤ 1024 := Nat.pow_le_pow_right (n := 2) (by decide) hE.2.1
  have := hH.1
  exact ⟨hE.2.2.1, hE.2.1, by omega, fun p hp => ⟨(hE.2.2.2.2.2.2 p hp).1, (hE.2.2.2.2.2.2 p hp).2.1⟩, fun p hp k hk => by have := (hE.2.2.2.2.2.2 p hp).2.2 k hk; have := hE.2.1; omega, fun c hc => ⟨by have := (hE.2.2.2.2.1 c hc).2.2.1; omega, (hH.2.2.2 c hc).2⟩⟩
theorem sub_lt {h m : Nat} (hh : h < 1024) (hs : ∀ c, m.testBit c = true → h.testBit c = true) : m < 1024 := by
  refine Nat.lt_pow_two_of_testBit (n := 10) _ (fun i hi => ?_)
  by_cases q : m.testBit i = true
  · have h3 := hs i q
    rw [Nat.testBit_lt_two_pow (Nat.lt_of_lt_of_le hh (Nat.pow_le_pow_right (n := 2) (by decide) hi))] at h3
    cases h3
  · exact Bool.eq_false_iff.mpr q
theorem hs_lt0 {X : SX} {n : Nat} (h : IV0 X n) : ∀ p, p < 30 → X 84 p < 1024 := fun p hp => sub_lt (E0_of0 h).2.2.1 (fun c hc => (h.2.2.2.1.2.1 p hp c hc).1)
theorem muX_HI {X : SX} {n : Nat} (h : IV0 X n) : HI (X 73 0) (X 80 0) (X 77) (WX X) (muX X) := mus_HI 1080 _ ⟨h.2.2.2.1.2.1, h.2.2.2.1.2.2.1⟩
theorem muX_off {X : SX} {n : Nat} (h : IV0 X n) (h0 : X 79 0 = 0) : muX X = (X 84, X 85) := by
  unfold muX
  rw [(h.2.2.2.2.1 h0).1]
  exact mus_fix stp_off 1080
theorem IV_mv {X : SX} {n : Nat} (h : IV0 X n) : IV (mvX X) n := by
  have hH := muX_HI h
  refine ⟨h.1, h.2.1, h.2.2.1, ⟨h.2.2.2.1.1, hH.1, hH.2, h.2.2.2.1.2.2.2⟩, fun h0 => ?_, mus_end (E0_of0 h) h.2.1 1080 _ (by omega), h.2.2.2.2.2.1, h.2.2.2.2.2.2⟩
  have h0' : X 79 0 = 0 := h0
  have e := muX_off h h0'
  have o := h.2.2.2.2.1 h0'
  refine ⟨o.1, o.2.1, fun p hp => ?_, o.2.2.2⟩
  show (muX X).1 p = 0 ∧ (muX X).2 p = 0
  rw [e]
  exact o.2.2.1 p hp
section W
variable {N n : Nat} {S : ns_S} {X : SX}
theorem mv_X (hN : 20000 ≤ N) (hn : n < 2 ^ 31) (h : IV0 X n) {wc wi pla eva wnt has tk mva : Nat → Int32} (c77 : rA wc (X 77) 30) (c78 : rA wi (X 78) 180) (c82 : rA pla (X 82) 10) (c68 : rA eva (X 68) 10) (c76 : rA wnt (X 76) 30) (c84 : rA has (X 84) 30) (ctk : rA tk (fun c => cnt (X 84) c (X 73 0)) 10) (c85 : rA mva (X 85) 30) {wcR wiR plaR evaR wntR hasR mvaR ps cs hl wk : Nat → Int32} (m77 : rA wcR (X 77) 30) (m78 : rA wiR (X 78) 180) (m82 : rA plaR (X 82) 10) (m68 : rA evaR (X 68) 10) (m76 : rA wntR (X 76) 30) (m84 : rA hasR (X 84) 30) (m85 : rA mvaR (X 85) 30) (m73 : ps 0 = nI (X 73 0)) (m67 : cs 0 = nI (X 67 0)) (m80 : hl 0 = nI (X 80 0)) (m79 : wk 0 = dI (X 79 0)) :
    ∃ has' tk' mva' hasR' mvaR' : Nat → Int32, fX6_moveUp N (nI (X 73 0)) wc wi tk pla has (nI (X 80 0)) eva (nI (X 67 0)) wnt mva (nI (sm (X 85) (X 73 0))) = some (has', tk', mva', nI (sm (muX X).2 (X 73 0))) ∧ fX11_moveUp N wk ps wcR wiR hasR hl evaR cs wntR plaR mvaR = some (hasR', mvaR') ∧ rA has' (muX X).1 30 ∧ rA tk' (fun c => cnt (muX X).1 c (X 73 0)) 10 ∧ rA mva' (muX X).2 30 ∧ rA hasR' (muX X).1 30 ∧ rA mvaR' (muX X).2 30 ∧ kp hasR hasR' 30 ∧ kp mvaR mvaR' 30 := by
  have e0 := E0_of0 h
  obtain ⟨has', tk', mva', a0, a1, a2, a3, a4⟩ := moveUp_eq (N := N) hN e0 h.2.1 c77 (rW_of c78) c82 c68 c76 c84 (hs_lt0 h) ctk c85
  cases hw : X 79 0 with
  | zero =>
    rw [hw] at m79
    have hq := moveUpR_off (N := N) (ps := ps) (wc := wcR) (wi := wiR) (hl := hl) (eva := evaR) (cs := cs) (wnt := wntR) (pla := plaR) hN (has := hasR) (mva := mvaR) (wka := wk) m79
    refine ⟨has', tk', mva', hasR, mvaR, a0, hq, a1, a3, a4, ?_, ?_, kp.rf, kp.rf⟩
    · rw [muX_off h hw]; exact m84
    · rw [muX_off h hw]; exact m85
  | succ r =>
    rw [hw] at m79
    have hr : r < 2 ^ 31 := by have := h.2.2.2.2.2.1; omega
    obtain ⟨hasR', mvaR', b0, b1, b2, b3, b4⟩ := moveUpR_on (N := N) hN e0 h.2.1 m73 m67 m80 m77 (rW_of m78) m82 m68 m76 m84 (hs_lt0 h) m85 (wk := r) m79 hr
    exact ⟨has', tk', mva', hasR', mvaR', a0, b0, a1, a3, a4, b1, b2, b3, b4⟩
theorem rkN_none {W : Nat → Nat} {c : Nat} : ∀ d i, rkN W c d i = none → ∀ k, i ≤ k → k < i + d → W k ≠ c := by
  intro d
  induction d with
  | zero => intro i _ k h1 h2; omega
  | succ d ih =>
    intro i h k h1 h2
    unfold rkN at h
    split at h
    · cases h
    · rename_i hne
      by_cases q : k = i
      · rw [q]; exact hne
      · exact ih (i + 1) h k (by omega) (by omega)
theorem op_wish (hN : 20000 ≤ N) (hn : n < 2 ^ 31) (hR : Rel S n) (p1 p2 : Int32) : ∃ o1 o2, aX10_wish N S p1 p2 = some o1 ∧ aX11_wish N S p1 p2 = some o2 ∧ o1.1 = o2.1 ∧ Rel (uX11_wish (uX10_wish S o1) o2) n := by
  have hR0 := hR
  obtain ⟨⟨X, hM, hC, hV⟩, hT, hI⟩ := hR
  have m67 : S.2.1 67 0 = nI (X 67 0) := hM 67 (by decide) (by decide) 0 Nat.one_pos
  have m68 : rA (S.2.1 68) (X 68) 10 := hM 68 (by decide) (by decide)
  have m73 : S.2.1 73 0 = nI (X 73 0) := hM 73 (by decide) (by decide) 0 Nat.one_pos
  have m76 : rA (S.2.1 76) (X 76) 30 := hM 76 (by decide) (by decide)
  have m77 : rA (S.2.1 77) (X 77) 30 := hM 77 (by decide) (by decide)
  have m78 : rA (S.2.1 78) (X 78) 180 := hM 78 (by decide) (by decide)
  have m79 : S.2.1 79 0 = dI (X 79 0) := hM 79 (by decide) (by decide) 0 Nat.one_pos
  have m80 : S.2.1 80 0 = nI (X 80 0) := hM 80 (by decide) (by decide) 0 Nat.one_pos
  have m82 : rA (S.2.1 82) (X 82) 10 := hM 82 (by decide) (by decide)
  have m84 : rA (S.2.1 84) (X 84) 30 := hM 84 (by decide) (by decide)
  have m85 : rA (S.2.1 85) (X 85) 30 := hM 85 (by decide) (by decide)
  have c67 : S.1 1984 = nI (X 67 0) := hC.1.2.2.1
  have c68 : rA (S.2.1 32) (X 68) 10 := hC.1.2.2.2.1
  have c73 : S.1 2368 = nI (X 73 0) := hC.2.1.1
  have c76 : rA (S.2.1 40) (X 76) 30 := hC.2.1.2.2.2.1
  have c77 : rA (S.2.1 41) (X 77) 30 := hC.2.1.2.2.2.2.1
  have c78 : rA (S.2.1 42) (X 78) 180 := hC.2.1.2.2.2.2.2
  have c80 : S.1 2752 = nI (X 80 0) := hC.2.2.1.1
  have c81 : rD (S.2.1 44) (X 81) 10 := hC.2.2.1.2.1
  have c82 : rA (S.2.1 45) (X 82) 10 := hC.2.2.1.2.2.1
  have c84 : rA (S.2.1 47) (X 84) 30 := hC.2.2.1.2.2.2.2
  have c85 : rA (S.2.1 49) (X 85) 30 := hC.2.2.2.1.2.2.1
  have ctk : rA (S.2.1 46) (fun c => cnt (X 84) c (X 73 0)) 10 := hC.2.2.1.2.2.2.1
  have cmia : S.1 3073 = nI (sm (X 85) (X 73 0)) := hC.2.2.2.1.2.1
  have hE := hV.1
  have e0 := E0_of hV
  have no : ∀ r : Int32, Rel (uX11_wish (uX10_wish S (r, S.2.1 42, S.2.1 41, S.2.1 47, S.2.1 46, S.2.1 49, S.1 3073)) (r, 0, S.2.1 78, S.2.1 77, S.2.1 84, S.2.1 85)) n := fun r => by
    have h1 : uX10_wish S (r, S.2.1 42, S.2.1 41, S.2.1 47, S.2.1 46, S.2.1 49, S.1 3073) = S := by
      unfold uX10_wish
      dsimp only
      simp only [ns_I_id, ns_A_id]
    rw [h1]
    have h2 : uX11_wish S (r, 0, S.2.1 78, S.2.1 77, S.2.1 84, S.2.1 85) = ns_I S 3968 0 := by
      unfold uX11_wish
      dsimp only
      simp only [ns_A_id]
    rw [h2]
    exact Rel_cd hR0
  unfold aX10_wish aX11_wish fX10_wish fX11_wish
  rcases isP (N := N) p1 (m := X 73 0) (by have := e0.1; omega) m73 with ⟨p, hpn, rfl, d1, d2⟩ | ⟨d1, d2⟩
  case inr => exact ⟨_, _, by rw [c73, d1]; rfl, by rw [d2]; rfl, rfl, no (-1)⟩
  rcases isC (N := N) p2 (m := X 67 0) (by have := e0.2.1; omega) m67 with ⟨c, hcn, rfl, d3, d4⟩ | ⟨d3, d4⟩
  case inr => exact ⟨_, _, by rw [c73, d1, Option.bind_some, if_neg one_ne, c67, d3]; rfl, by rw [d2, Option.bind_some, if_neg one_ne, d4]; rfl, rfl, no (-1)⟩
  have hp : p < 30 := by have := e0.1; omega
  have hc : c < 10 := by have := e0.2.1; omega
  have hn6 := (e0.2.2.2.1 p hp).1
  rw [c73, d1, Option.bind_some, if_neg one_ne, c67, d3, d2, Option.bind_some, if_neg one_ne, d4, Option.bind_some, Option.bind_some, if_neg one_ne, if_neg one_ne, nz_ald hp (by omega), nz_ald (show p < 120 by omega) (by omega), c77 p hp, m77 p hp, Option.bind_some, Option.bind_some]
  by_cases hfull : X 77 p = 6
  · have g1 : 6 ≤ nI (X 77 p) := by rw [hfull]; decide
    have g2 : nI (X 77 p) = 6 := by rw [hfull]; rfl
    rw [if_pos g1, if_pos g2]
    exact ⟨_, _, rfl, rfl, rfl, no (-1)⟩
  have g1 : ¬ 6 ≤ nI (X 77 p) := by rw [nz6, nz_le (by decide) (by omega)]; omega
  have g2 : ¬ nI (X 77 p) = 6 := by rw [nz6, nz_eq (by omega) (by decide)]; exact hfull
  rw [if_neg g1, if_neg g2, rankOf_eq (by omega) hp (c77 p hp) hn6 (W := WX X p) (fun k hk => c78 (p * 6 + k) (by omega)) (e0.2.2.2.2.1 p hp) hc, rank_eq (by omega) hp (m77 p hp) hn6 (W := WX X p) (fun k hk => m78 (p * 6 + k) (by omega)) (e0.2.2.2.2.1 p hp) hc, Option.bind_some, Option.bind_some]
  cases hr : rkN (WX X p) c (X 77 p) 0 with
  | some r =>
    have hr2 := (rkN_lt _ _ _ hr).2.1
    have g3 : ¬ oI (some r) = -1 := by show ¬ nI r = nM; rw [nz_eqM (by omega)]; exact id
    rw [if_neg g3, if_neg g3]
    exact ⟨_, _, rfl, rfl, rfl, no (-1)⟩
  | none =>
    have hnot := rkN_none _ _ hr
    rw [if_pos (show oI none = -1 from rfl), if_pos (show oI none = -1 from rfl)]
    unfold fX4_addWish
    have hlt : p * 6 + X 77 p < 180 := by omega
    -- the school with the wish
    obtain ⟨Y, hY⟩ : ∃ Y : SX, Y = va_up (va_up X 78 (va_up (X 78) (p * 6 + X 77 p) c)) 77 (va_up (X 77) p (X 77 p + 1)) := ⟨_, rfl⟩
    have hW : ∀ q k, k < 6 → (q ≠ p ∨ k ≠ X 77 p) → WX Y q k = WX X q k := by
      intro q k hk hne
      rw [hY]
      show va_up (X 78) (p * 6 + X 77 p) c (q * 6 + k) = X 78 (q * 6 + k)
      exact va_up_ne _ _ (by omega)
    have hWn : WX Y p (X 77 p) = c := by
      rw [hY]
      show va_up (X 78) (p * 6 + X 77 p) c (p * 6 + X 77 p) = c
      exact va_up_self _ _ _
    have h77 : ∀ q, q ≠ p → Y 77 q = X 77 q := fun q hq => by
      rw [hY]
      show va_up (X 77) p (X 77 p + 1) q = X 77 q
      exact va_up_ne _ _ hq
    have h77p : Y 77 p = X 77 p + 1 := by
      rw [hY]
      show va_up (X 77) p (X 77 p + 1) p = _
      exact va_up_self _ _ _
    have hcY : ∀ z, z ≠ 77 → z ≠ 78 → Y z = X z := fun z h1 h2 => by rw [hY, va_up_ne _ _ h1, va_up_ne _ _ h2]
    have hV0 : IV0 Y n := by
      have y65 := hcY 65 (by decide) (by decide)
      have y66 := hcY 66 (by decide) (by decide)
      have y67 := hcY 67 (by decide) (by decide)
      have y68 := hcY 68 (by decide) (by decide)
      have y69 := hcY 69 (by decide) (by decide)
      have y70 := hcY 70 (by decide) (by decide)
      have y71 := hcY 71 (by decide) (by decide)
      have y72 := hcY 72 (by decide) (by decide)
      have y73 := hcY 73 (by decide) (by decide)
      have y74 := hcY 74 (by decide) (by decide)
      have y75 := hcY 75 (by decide) (by decide)
      have y76 := hcY 76 (by decide) (by decide)
      have y79 := hcY 79 (by decide) (by decide)
      have y80 := hcY 80 (by decide) (by decide)
      have y81 := hcY 81 (by decide) (by decide)
      have y82 := hcY 82 (by decide) (by decide)
      have y83 := hcY 83 (by decide) (by decide)
      have y84 := hcY 84 (by decide) (by decide)
      have y85 := hcY 85 (by decide) (by decide)
      have y86 := hcY 86 (by decide) (by decide)
      have y87 := hcY 87 (by decide) (by decide)
      obtain ⟨-, hJ, hA, hH, hO, hs, hk, hF⟩ := hV
      refine ⟨?_, ?_, ?_, ?_, ?_, by rw [y79]; exact hk, ?_⟩
      · unfold EX
        rw [y65, y66, y67, y68, y69, y70, y71, y73, y76]
        refine ⟨hE.1, hE.2.1, hE.2.2.1, hE.2.2.2.1, hE.2.2.2.2.1, hE.2.2.2.2.2.1, fun q hq => ?_⟩
        have e := hE.2.2.2.2.2.2 q hq
        by_cases z : q = p
        · subst z
          rw [h77p]
          refine ⟨by omega, e.2.1, fun k hk => ?_⟩
          by_cases y : k = X 77 q
          · rw [y, hWn]; exact hcn
          · rw [hW q k (by omega) (Or.inr y)]; exact e.2.2 k (by omega)
        · rw [h77 q z]
          refine ⟨e.1, e.2.1, fun k hk => ?_⟩
          rw [hW q k (by omega) (Or.inl z)]; exact e.2.2 k hk
      · intro q hq i j hi hj hij
        by_cases z : q = p
        · subst z
          rw [h77p] at hi hj
          by_cases yi : i = X 77 q
          · by_cases yj : j = X 77 q
            · omega
            · rw [yi, hWn, hW q j (by omega) (Or.inr yj)] at hij
              exact absurd hij.symm (hnot j (by omega) (by omega))
          · by_cases yj : j = X 77 q
            · rw [yj, hWn, hW q i (by omega) (Or.inr yi)] at hij
              exact absurd hij (hnot i (by omega) (by omega))
            · rw [hW q i (by omega) (Or.inr yi), hW q j (by omega) (Or.inr yj)] at hij
              exact hJ q hq i j (by omega) (by omega) hij
        · have e := (hE.2.2.2.2.2.2 q hq).1
          rw [h77 q z] at hi hj
          rw [hW q i (by omega) (Or.inl z), hW q j (by omega) (Or.inl z)] at hij
          exact hJ q hq i j hi hj hij
      · unfold IA
        rw [y72, y73, y74, y75]
        refine ⟨hA.1, hA.2.1, fun q hq hge => ?_⟩
        rw [h77 q (by omega)]
        exact hA.2.2 q hq hge
      · unfold IH
        rw [y67, y73, y80, y81, y82, y84, y85]
        refine ⟨hH.1, fun q hq c' hc' => ?_, hH.2.2.1, hH.2.2.2⟩
        obtain ⟨a, k, b1, b2⟩ := hH.2.1 q hq c' hc'
        have e := (hE.2.2.2.2.2.2 q hq).1
        by_cases z : q = p
        · subst z
          exact ⟨a, k, by rw [h77p]; omega, by rw [hW q k (by omega) (Or.inr (by omega))]; exact b2⟩
        · exact ⟨a, k, by rw [h77 q z]; exact b1, by rw [hW q k (by omega) (Or.inl z)]; exact b2⟩
      · unfold IO
        rw [y79, y80, y81, y82, y83, y84, y85, y86, y87]
        exact hO
      · unfold FE
        rw [hcY 88 (by decide) (by decide), hcY 89 (by decide) (by decide), hcY 90 (by decide) (by decide), hcY 91 (by decide) (by decide), hcY 92 (by decide) (by decide), hcY 93 (by decide) (by decide), hcY 94 (by decide) (by decide), hcY 95 (by decide) (by decide)]
        exact hF
    have r77 : rA (upd (S.2.1 41) p (nI (X 77 p + 1))) (Y 77) 30 := by rw [hY]; exact rA_upd c77
    have r78 : rA (upd (S.2.1 42) (p * 6 + X 77 p) (nI c)) (Y 78) 180 := by rw [hY]; exact rA_upd c78
    have s77 : rA (upd (S.2.1 77) p (nI (X 77 p + 1))) (Y 77) 30 := by rw [hY]; exact rA_upd m77
    have s78 : rA (upd (S.2.1 78) (p * 6 + X 77 p) (nI c)) (Y 78) 180 := by rw [hY]; exact rA_upd m78
    have t73 : Y 73 = X 73 := hcY 73 (by decide) (by decide)
    have t67 : Y 67 = X 67 := hcY 67 (by decide) (by decide)
    have t80 : Y 80 = X 80 := hcY 80 (by decide) (by decide)
    have t79 : Y 79 = X 79 := hcY 79 (by decide) (by decide)
    have t82 : Y 82 = X 82 := hcY 82 (by decide) (by decide)
    have t68 : Y 68 = X 68 := hcY 68 (by decide) (by decide)
    have t76 : Y 76 = X 76 := hcY 76 (by decide) (by decide)
    have t84 : Y 84 = X 84 := hcY 84 (by decide) (by decide)
    have t85 : Y 85 = X 85 := hcY 85 (by decide) (by decide)
    obtain ⟨has', tk', mva', hasR', mvaR', a0, b0, f1, f2, f3, f4, f5, f6, f7⟩ := mv_X (N := N) hN hn hV0 r77 r78 (pla := S.2.1 45) (by rw [t82]; exact c82) (eva := S.2.1 32) (by rw [t68]; exact c68) (wnt := S.2.1 40) (by rw [t76]; exact c76) (has := S.2.1 47) (by rw [t84]; exact c84) (tk := S.2.1 46) (by rw [t84, t73]; exact ctk) (mva := S.2.1 49) (by rw [t85]; exact c85) s77 s78 (plaR := S.2.1 82) (by rw [t82]; exact m82) (evaR := S.2.1 68) (by rw [t68]; exact m68) (wntR := S.2.1 76) (by rw [t76]; exact m76) (hasR := S.2.1 84) (by rw [t84]; exact m84) (mvaR := S.2.1 85) (by rw [t85]; exact m85) (ps := S.2.1 73) (by rw [t73]; exact m73) (cs := S.2.1 67) (by rw [t67]; exact m67) (hl := S.2.1 80) (by rw [t80]; exact m80) (wk := S.2.1 79) (by rw [t79]; exact m79)
    rw [t73, t80, t67, t85] at a0
    rw [nz_ald hp (by omega), c77 p hp]
    simp only [Option.bind_some]
    rw [nz6, pk_mul, pk_mul, nI_add, nI_add, Nat.mul_comm 6 p, nz_ast (show p * 6 + X 77 p < 180 by omega) (by omega), nz_ast (show p * 6 + X 77 p < 720 by omega) (by omega), nI_1]
    simp only [Option.bind_some]
    rw [nz_ast hp (by omega), nz_ast (show p < 120 by omega) (by omega)]
    simp only [Option.bind_some]
    rw [c80, cmia, a0, b0]
    simp only [Option.bind_some]
    rw [nz_ald (show p < 120 by omega) (by omega), pk_us, Option.bind_some, nI_m1 (by omega), Nat.add_sub_cancel]
    refine ⟨_, _, rfl, rfl, rfl, ⟨⟨mvX Y, ?_, ?_, IV_mv hV0⟩, hT, Im_fr (S := S) ⟨all31 kp.rf kp.rf kp.rf kp.rf kp.rf kp.rf kp.rf kp.rf kp.rf kp.rf kp.rf kp.rf (kp.up hp) (kp.up hlt) kp.rf kp.rf kp.rf kp.rf kp.rf (f6) (f7) kp.rf kp.rf kp.rf kp.rf kp.rf kp.rf kp.rf kp.rf kp.rf kp.rf, by intro i hi; simp (disch := omega) only [uX11_wish, uX10_wish, ns_A, ns_I, va_up_ne], by intro u hu; simp (disch := omega) only [uX11_wish, uX10_wish, ns_A, ns_I, va_up_ne], rfl⟩ (Nat.le_refl n) hI⟩⟩
    · have hMY : ∀ z, 65 ≤ z → z < 96 → z ≠ 77 → z ≠ 78 → ∀ j, j < szM Y z → S.2.1 z j = en z (Y z j) := fun z h1 h2 h3 h4 j hj => by
        unfold szM at hj
        rw [hcY 79 (by decide) (by decide), hcY 67 (by decide) (by decide)] at hj
        rw [hcY z h3 h4]; exact hM z h1 h2 j hj
      exact all31 (hMY 65 (by decide) (by decide) (by decide) (by decide)) (hMY 66 (by decide) (by decide) (by decide) (by decide)) (hMY 67 (by decide) (by decide) (by decide) (by decide)) (hMY 68 (by decide) (by decide) (by decide) (by decide)) (hMY 69 (by decide) (by decide) (by decide) (by decide)) (hMY 70 (by decide) (by decide) (by decide) (by decide)) (hMY 71 (by decide) (by decide) (by decide) (by decide)) (hMY 72 (by decide) (by decide) (by decide) (by decide)) (hMY 73 (by decide) (by decide) (by decide) (by decide)) (hMY 74 (by decide) (by decide) (by decide) (by decide)) (hMY 75 (by decide) (by decide) (by decide) (by decide)) (hMY 76 (by decide) (by decide) (by decide) (by decide)) (s77) (s78) (hMY 79 (by decide) (by decide) (by decide) (by decide)) (hMY 80 (by decide) (by decide) (by decide) (by decide)) (hMY 81 (by decide) (by decide) (by decide) (by decide)) (hMY 82 (by decide) (by decide) (by decide) (by decide)) (hMY 83 (by decide) (by decide) (by decide) (by decide)) (f4) (f5) (hMY 86 (by decide) (by decide) (by decide) (by decide)) (hMY 87 (by decide) (by decide) (by decide) (by decide)) (hMY 88 (by decide) (by decide) (by decide) (by decide)) (hMY 89 (by decide) (by decide) (by decide) (by decide)) (hMY 90 (by decide) (by decide) (by decide) (by decide)) (hMY 91 (by decide) (by decide) (by decide) (by decide)) (hMY 92 (by decide) (by decide) (by decide) (by decide)) (hMY 93 (by decide) (by decide) (by decide) (by decide)) (hMY 94 (by decide) (by decide) (by decide) (by decide)) (hMY 95 (by decide) (by decide) (by decide) (by decide))
    · subst hY
      exact ⟨hC.1, ⟨hC.2.1.1, hC.2.1.2.1, hC.2.1.2.2.1, hC.2.1.2.2.2.1, r77, r78⟩, ⟨hC.2.2.1.1, hC.2.2.1.2.1, hC.2.2.1.2.2.1, f2, f1⟩, ⟨hC.2.2.2.1.1, rfl, f3, hC.2.2.2.1.2.2.2⟩, hC.2.2.2.2⟩
end W
