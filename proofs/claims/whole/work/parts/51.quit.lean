/-! quit -/
/-- the wishes from a on, up to b, one earlier -/
def shf (f : Nat → Nat) (a b : Nat) : Nat → Nat := fun j => if a ≤ j ∧ j < b then f (j + 1) else f j
theorem shf_up {f : Nat → Nat} {a b : Nat} (h : a ≤ b) (j : Nat) : va_up (shf f a b) b (f (b + 1)) j = shf f a (b + 1) j := by
  unfold va_up shf
  by_cases q : j = b
  · subst q; rw [if_pos rfl, if_pos ⟨h, by omega⟩]
  · rw [if_neg q]
    by_cases z : a ≤ j ∧ j < b
    · rw [if_pos z, if_pos ⟨z.1, by omega⟩]
    · rw [if_neg z, if_neg (by omega)]
section QU
variable {N n : Nat} {S : ns_S} {X : SX}
theorem drop26 {f : Nat → Nat} {p r last : Nat} {wc : Nat → Int32} (hp : p < 30) (hl : last < 6) : ∀ d i m (wi : Nat → Int32), i + d = last → d < m → r ≤ i → rA wi (shf f (p * 6 + r) (p * 6 + i)) 180 → ∃ wi', fX4_dropWish_26 N m wc wi (nI p) (nI last) (nI i) = some (upd wc p (nI last), wi') ∧ rA wi' (shf f (p * 6 + r) (p * 6 + last)) 180 := by
  intro d
  induction d with
  | zero =>
    intro i m wi h1 h2 h3 h4
    obtain ⟨m, rfl⟩ : ∃ z, m = z + 1 := ⟨m - 1, by omega⟩
    obtain rfl : i = last := by omega
    refine ⟨wi, ?_, h4⟩
    rw [show fX4_dropWish_26 N (m + 1) = gX4_dropWish_26 N (fX4_dropWish_26 N m) from rfl]
    unfold gX4_dropWish_26
    rw [if_pos (nI_le (by omega) (by omega)), nz_ast hp (by omega)]
    rfl
  | succ d ih =>
    intro i m wi h1 h2 h3 h4
    obtain ⟨m, rfl⟩ : ∃ z, m = z + 1 := ⟨m - 1, by omega⟩
    have h5 := h4 (p * 6 + (i + 1)) (by omega)
    have h6 : shf f (p * 6 + r) (p * 6 + i) (p * 6 + (i + 1)) = f (p * 6 + i + 1) := if_neg (by omega)
    rw [h6] at h5
    obtain ⟨wi', g1, g2⟩ := ih (i + 1) m (upd wi (p * 6 + i) (nI (f (p * 6 + i + 1)))) (by omega) (by omega) (by omega) (rA_congr (rA_upd h4) (fun j _ => shf_up (by omega) j))
    refine ⟨wi', ?_, g2⟩
    rw [show fX4_dropWish_26 N (m + 1) = gX4_dropWish_26 N (fX4_dropWish_26 N m) from rfl]
    unfold gX4_dropWish_26 fX4_courseOfRank
    rw [if_neg (nI_ge (by omega) (by omega)), nz6, nI_1, pk_mul, nI_add, nI_add, nz_ald (by omega) (by omega), h5, Option.bind_some, Option.bind_some, nz_ast (by omega) (by omega), Option.bind_some, nz_let]
    exact g1
theorem quit57 {f : Nat → Nat} {p r last : Nat} {cod : Int32} {ps cs has wc wk hl eva wnt pla mva : Nat → Int32} (hp : p < 30) (hl' : last < 6) (hwc : wc p = nI (last + 1)) : ∀ d i m (wi : Nat → Int32), i + d = last → d < m → r ≤ i → rA wi (shf f (p * 6 + r) (p * 6 + i)) 180 → ∃ wi', fX11_quit_57 N m cod ps cs has wc wi wk hl eva wnt pla mva (nI p) (nI i) = (fX11_moveUp N wk ps (upd wc p (nI last)) wi' has hl eva cs wnt pla mva).bind (fun o4 => some (1, cod, o4.1, upd wc p (nI last), o4.2, wi')) ∧ rA wi' (shf f (p * 6 + r) (p * 6 + last)) 180 ∧ kp wi wi' 180 := by
  intro d
  induction d with
  | zero =>
    intro i m wi h1 h2 h3 h4
    obtain ⟨m, rfl⟩ : ∃ z, m = z + 1 := ⟨m - 1, by omega⟩
    obtain rfl : i = last := by omega
    refine ⟨wi, ?_, h4, kp.rf⟩
    rw [show fX11_quit_57 N (m + 1) = gX11_quit_57 N (fX11_quit_57 N m) from rfl]
    unfold gX11_quit_57
    rw [nz_ald (show p < 120 by omega) (by omega), hwc, Option.bind_some, nI_1, if_pos (nI_le (by omega) (by omega)), Option.bind_some, nI_m1 (by omega), Nat.add_sub_cancel, nz_ast (show p < 120 by omega) (by omega), Option.bind_some]
  | succ d ih =>
    intro i m wi h1 h2 h3 h4
    obtain ⟨m, rfl⟩ : ∃ z, m = z + 1 := ⟨m - 1, by omega⟩
    have h5 := h4 (p * 6 + (i + 1)) (by omega)
    have h6 : shf f (p * 6 + r) (p * 6 + i) (p * 6 + (i + 1)) = f (p * 6 + i + 1) := if_neg (by omega)
    rw [h6] at h5
    obtain ⟨wi', g1, g2, g3⟩ := ih (i + 1) m (upd wi (p * 6 + i) (nI (f (p * 6 + i + 1)))) (by omega) (by omega) (by omega) (rA_congr (rA_upd h4) (fun j _ => shf_up (by omega) j))
    refine ⟨wi', ?_, g2, kp.tr (kp.up (by omega)) g3⟩
    rw [show fX11_quit_57 N (m + 1) = gX11_quit_57 N (fX11_quit_57 N m) from rfl]
    unfold gX11_quit_57
    rw [nz_ald (show p < 120 by omega) (by omega), hwc, Option.bind_some, nI_1, if_neg (nI_ge (by omega) (by omega)), nz6, pk_mul, nI_add, nI_1, Nat.mul_comm 6 p, show p * 6 + i + 1 = p * 6 + (i + 1) by omega, nz_ald (by omega) (by omega), h5, Option.bind_some, nz_ast (by omega) (by omega), Option.bind_some, nz_let]
    exact g1
theorem op_quit (hN : 20000 ≤ N) (hn : n < 2 ^ 31) (hR : Rel S n) (p1 p2 : Int32) : ∃ o1 o2, aX10_quit N S p1 p2 = some o1 ∧ aX11_quit N S p1 p2 = some o2 ∧ o1.1 = o2.1 ∧ Rel (uX11_quit (uX10_quit S o1) o2) n := by
  have hR0 := hR
  obtain ⟨⟨X, hM, hC, hV⟩, hT, hI⟩ := hR
  have m67 : S.2.1 67 0 = nI (X 67 0) := hM 67 (by decide) (by decide) 0 Nat.one_pos
  have m68 : rA (S.2.1 68) (X 68) 10 := hM 68 (by decide) (by decide)
  have m73 : S.2.1 73 0 = nI (X 73 0) := hM 73 (by decide) (by decide) 0 Nat.one_pos
  have m76 : rA (S.2.1 76) (X 76) 30 := hM 76 (by decide) (by decide)
  have m77 : rA (S.2.1 77) (X 77) 30 := hM 77 (by decide) (by decide)
  have m78 : rA (S.2.1 78) (X 78) 180 := hM 78 (by decide) (by decide)
  have m79 : S.2.1 79 0 = dI (X 79 0) := hM 79 (by decide) (by decide) 0 Nat.one_pos
  have m80 : S.2.1 80 0 = nI (X 80 0) := hM 80 (by decide) (by decide) 0 Nat.one_pos
  have m82 : rA (S.2.1 82) (X 82) 10 := hM 82 (by decide) (by decide)
  have m84 : rA (S.2.1 84) (X 84) 30 := hM 84 (by decide) (by decide)
  have m85 : rA (S.2.1 85) (X 85) 30 := hM 85 (by decide) (by decide)
  have c67 : S.1 1984 = nI (X 67 0) := hC.1.2.2.1
  have c68 : rA (S.2.1 32) (X 68) 10 := hC.1.2.2.2.1
  have c73 : S.1 2368 = nI (X 73 0) := hC.2.1.1
  have c76 : rA (S.2.1 40) (X 76) 30 := hC.2.1.2.2.2.1
  have c77 : rA (S.2.1 41) (X 77) 30 := hC.2.1.2.2.2.2.1
  have c78 : rA (S.2.1 42) (X 78) 180 := hC.2.1.2.2.2.2.2
  have c80 : S.1 2752 = nI (X 80 0) := hC.2.2.1.1
  have c81 : rD (S.2.1 44) (X 81) 10 := hC.2.2.1.2.1
  have c82 : rA (S.2.1 45) (X 82) 10 := hC.2.2.1.2.2.1
  have c84 : rA (S.2.1 47) (X 84) 30 := hC.2.2.1.2.2.2.2
  have c85 : rA (S.2.1 49) (X 85) 30 := hC.2.2.2.1.2.2.1
  have ctk : rA (S.2.1 46) (fun c => cnt (X 84) c (X 73 0)) 10 := hC.2.2.1.2.2.2.1
  have cmia : S.1 3073 = nI (sm (X 85) (X 73 0)) := hC.2.2.2.1.2.1
  have hE := hV.1
  have e0 := E0_of hV
  have no : ∀ r : Int32, Rel (uX11_quit (uX10_quit S (r, S.2.1 47, S.2.1 46, S.2.1 41, S.2.1 42, S.2.1 49, S.1 3073)) (r, 0, S.2.1 84, S.2.1 77, S.2.1 85, S.2.1 78)) n := fun r => by
    have h1 : uX10_quit S (r, S.2.1 47, S.2.1 46, S.2.1 41, S.2.1 42, S.2.1 49, S.1 3073) = S := by
      unfold uX10_quit
      dsimp only
      simp only [ns_I_id, ns_A_id]
    rw [h1]
    have h2 : uX11_quit S (r, 0, S.2.1 84, S.2.1 77, S.2.1 85, S.2.1 78) = ns_I S 3968 0 := by
      unfold uX11_quit
      dsimp only
      simp only [ns_A_id]
    rw [h2]
    exact Rel_cd hR0
  unfold aX10_quit aX11_quit fX10_quit fX11_quit
  rcases isP (N := N) p1 (m := X 73 0) (by have := e0.1; omega) m73 with ⟨p, hpn, rfl, d1, d2⟩ | ⟨d1, d2⟩
  case inr => exact ⟨_, _, by rw [c73, d1]; rfl, by rw [d2]; rfl, rfl, no 0⟩
  rcases isC (N := N) p2 (m := X 67 0) (by have := e0.2.1; omega) m67 with ⟨c, hcn, rfl, d3, d4⟩ | ⟨d3, d4⟩
  case inr => exact ⟨_, _, by rw [c73, d1, Option.bind_some, if_neg one_ne, c67, d3]; rfl, by rw [d2, Option.bind_some, if_neg one_ne, d4]; rfl, rfl, no 0⟩
  have hp : p < 30 := by have := e0.1; omega
  have hc : c < 10 := by have := e0.2.1; omega
  have hn6 := (e0.2.2.2.1 p hp).1
  have hlt := hs_lt hV p hp
  rw [c73, d1, Option.bind_some, if_neg one_ne, c67, d3, d2, Option.bind_some, if_neg one_ne, d4, Option.bind_some, Option.bind_some, if_neg one_ne, if_neg one_ne, hasCourse_eq hp (c84 p hp) hlt hc, nz_ald (show p < 120 by omega) (by omega), m84 p hp, Option.bind_some, Option.bind_some, bt_shr c hc _ hlt]
  by_cases hb : ¬ (X 84 p).testBit c = true
  · rw [if_pos (bt_is hb), if_pos (bt_is hb)]
    exact ⟨_, _, rfl, rfl, rfl, no 0⟩
  replace hb : (X 84 p).testBit c = true := Classical.not_not.mp hb
  rw [if_neg (bt_ne hb), if_neg (bt_ne hb)]
  cases hr : rkN (WX X p) c (X 77 p) 0 with
  | none =>
    obtain ⟨-, k, k1, k2⟩ := hV.2.2.2.1.2.1 p hp c hb
    exact absurd k2 (rkN_none _ _ hr k (by omega) (by omega))
  | some r =>
    obtain ⟨-, hr2, hr3⟩ := rkN_lt _ _ _ hr
    obtain ⟨last, hlast⟩ : ∃ z, X 77 p = z + 1 := ⟨X 77 p - 1, by omega⟩
    unfold fX7_takeAway fX4_dropWish
    obtain ⟨Y, hY⟩ : ∃ Y : SX, Y = va_up (va_up (va_up X 84 (va_up (X 84) p (clr (X 84 p) c))) 78 (shf (X 78) (p * 6 + r) (p * 6 + last))) 77 (va_up (X 77) p last) := ⟨_, rfl⟩
    have hWo : ∀ q k, k < 6 → q ≠ p → WX Y q k = WX X q k := by
      intro q k hk hne
      rw [hY]
      show shf (X 78) (p * 6 + r) (p * 6 + last) (q * 6 + k) = X 78 (q * 6 + k)
      exact if_neg (by omega)
    have hWl : ∀ k, k < r → WX Y p k = WX X p k := by
      intro k hk
      rw [hY]
      show shf (X 78) (p * 6 + r) (p * 6 + last) (p * 6 + k) = X 78 (p * 6 + k)
      exact if_neg (by omega)
    have hWg : ∀ k, r ≤ k → k < last → WX Y p k = WX X p (k + 1) := by
      intro k hk hk2
      rw [hY]
      show shf (X 78) (p * 6 + r) (p * 6 + last) (p * 6 + k) = X 78 (p * 6 + (k + 1))
      exact if_pos (by omega)
    have h77 : ∀ q, q ≠ p → Y 77 q = X 77 q := fun q hq => by
      rw [hY]
      show va_up (X 77) p last q = X 77 q
      exact va_up_ne _ _ hq
    have h77p : Y 77 p = last := by
      rw [hY]
      show va_up (X 77) p last p = _
      exact va_up_self _ _ _
    have h84 : ∀ q, q ≠ p → Y 84 q = X 84 q := fun q hq => by
      rw [hY]
      show va_up (X 84) p _ q = X 84 q
      exact va_up_ne _ _ hq
    have h84p : Y 84 p = clr (X 84 p) c := by
      rw [hY]
      show va_up (X 84) p _ p = _
      exact va_up_self _ _ _
    have hcY : ∀ z, z ≠ 77 → z ≠ 78 → z ≠ 84 → Y z = X z := fun z h1 h2 h3 => by rw [hY, va_up_ne _ _ h1, va_up_ne _ _ h2, va_up_ne _ _ h3]
    have hV0 : IV0 Y n := by
      have y65 := hcY 65 (by decide) (by decide) (by decide)
      have y66 := hcY 66 (by decide) (by decide) (by decide)
      have y67 := hcY 67 (by decide) (by decide) (by decide)
      have y68 := hcY 68 (by decide) (by decide) (by decide)
      have y69 := hcY 69 (by decide) (by decide) (by decide)
      have y70 := hcY 70 (by decide) (by decide) (by decide)
      have y71 := hcY 71 (by decide) (by decide) (by decide)
      have y72 := hcY 72 (by decide) (by decide) (by decide)
      have y73 := hcY 73 (by decide) (by decide) (by decide)
      have y74 := hcY 74 (by decide) (by decide) (by decide)
      have y75 := hcY 75 (by decide) (by decide) (by decide)
      have y76 := hcY 76 (by decide) (by decide) (by decide)
      have y79 := hcY 79 (by decide) (by decide) (by decide)
      have y80 := hcY 80 (by decide) (by decide) (by decide)
      have y81 := hcY 81 (by decide) (by decide) (by decide)
      have y82 := hcY 82 (by decide) (by decide) (by decide)
      have y83 := hcY 83 (by decide) (by decide) (by decide)
      have y85 := hcY 85 (by decide) (by decide) (by decide)
      have y86 := hcY 86 (by decide) (by decide) (by decide)
      have y87 := hcY 87 (by decide) (by decide) (by decide)
      obtain ⟨-, hJ, hA, hH, hO, hs, hk, hF⟩ := hV
      refine ⟨?_, ?_, ?_, ?_, ?_, by rw [y79]; exact hk, ?_⟩
      · unfold EX
        rw [y65, y66, y67, y68, y69, y70, y71, y73, y76]
        refine ⟨hE.1, hE.2.1, hE.2.2.1, hE.2.2.2.1, hE.2.2.2.2.1, hE.2.2.2.2.2.1, fun q hq => ?_⟩
        have e := hE.2.2.2.2.2.2 q hq
        by_cases z : q = p
        · subst z
          rw [h77p]
          refine ⟨by omega, e.2.1, fun k hk => ?_⟩
          by_cases y : k < r
          · rw [hWl k y]; exact e.2.2 k (by omega)
          · rw [hWg k (by omega) hk]; exact e.2.2 (k + 1) (by omega)
        · rw [h77 q z]
          refine ⟨e.1, e.2.1, fun k hk => ?_⟩
          rw [hWo q k (by omega) z]; exact e.2.2 k hk
      · intro q hq i j hi hj hij
        by_cases z : q = p
        · subst z
          rw [h77p] at hi hj
          by_cases yi : i < r
          · by_cases yj : j < r
            · rw [hWl i yi, hWl j yj] at hij
              exact hJ q hq i j (by omega) (by omega) hij
            · rw [hWl i yi, hWg j (by omega) hj] at hij
              have := hJ q hq i (j + 1) (by omega) (by omega) hij
              omega
          · by_cases yj : j < r
            · rw [hWg i (by omega) hi, hWl j yj] at hij
              have := hJ q hq (i + 1) j (by omega) (by omega) hij
              omega
            · rw [hWg i (by omega) hi, hWg j (by omega) hj] at hij
              have := hJ q hq (i + 1) (j + 1) (by omega) (by omega) hij
              omega
        · have e := (hE.2.2.2.2.2.2 q hq).1
          rw [h77 q z] at hi hj
          rw [hWo q i (by omega) z, hWo q j (by omega) z] at hij
          exact hJ q hq i j hi hj hij
      · unfold IA
        rw [y72, y73, y74, y75]
        refine ⟨hA.1, hA.2.1, fun q hq hge => ?_⟩
        rw [h77 q (by omega)]
        exact hA.2.2 q hq hge
      · unfold IH
        rw [y67, y73, y80, y81, y82, y85]
        refine ⟨hH.1, fun q hq c' hc' => ?_, fun q hq hge => ?_, hH.2.2.2⟩
        · by_cases z : q = p
          · subst z
            rw [h84p, tb_clr] at hc'
            simp only [Bool.and_eq_true, Bool.not_eq_true', decide_eq_false_iff_not] at hc'
            obtain ⟨a, k, b1, b2⟩ := hH.2.1 q hq c' hc'.1
            have hkr : k ≠ r := fun e => hc'.2 (by rw [← b2, e]; exact hr3.symm)
            refine ⟨a, ?_⟩
            by_cases y : k < r
            · exact ⟨k, by rw [h77p]; omega, by rw [hWl k y]; exact b2⟩
            · refine ⟨k - 1, by rw [h77p]; omega, ?_⟩
              rw [hWg (k - 1) (by omega) (by omega), show k - 1 + 1 = k by omega]; exact b2
          · rw [h84 q z] at hc'
            obtain ⟨a, k, b1, b2⟩ := hH.2.1 q hq c' hc'
            have e := (hE.2.2.2.2.2.2 q hq).1
            exact ⟨a, k, by rw [h77 q z]; exact b1, by rw [hWo q k (by omega) z]; exact b2⟩
        · rw [h84 q (by omega)]; exact hH.2.2.1 q hq hge
      · intro h0
        rw [y79] at h0
        have o := hO h0
        rw [(o.2.2.1 p hp).1, Nat.zero_testBit] at hb
        cases hb
      · unfold FE
        rw [hcY 88 (by decide) (by decide) (by decide), hcY 89 (by decide) (by decide) (by decide), hcY 90 (by decide) (by decide) (by decide), hcY 91 (by decide) (by decide) (by decide), hcY 92 (by decide) (by decide) (by decide), hcY 93 (by decide) (by decide) (by decide), hcY 94 (by decide) (by decide) (by decide), hcY 95 (by decide) (by decide) (by decide)]
        exact hF
    have t73 : Y 73 = X 73 := hcY 73 (by decide) (by decide) (by decide)
    have t67 : Y 67 = X 67 := hcY 67 (by decide) (by decide) (by decide)
    have t80 : Y 80 = X 80 := hcY 80 (by decide) (by decide) (by decide)
    have t79 : Y 79 = X 79 := hcY 79 (by decide) (by decide) (by decide)
    have t82 : Y 82 = X 82 := hcY 82 (by decide) (by decide) (by decide)
    have t68 : Y 68 = X 68 := hcY 68 (by decide) (by decide) (by decide)
    have t76 : Y 76 = X 76 := hcY 76 (by decide) (by decide) (by decide)
    have t85 : Y 85 = X 85 := hcY 85 (by decide) (by decide) (by decide)
    obtain ⟨wiC, w1, w2⟩ := drop26 (N := N) (f := X 78) (p := p) (r := r) (last := last) (wc := S.2.1 41) hp (by omega) (last - r) r N (S.2.1 42) (by omega) (by omega) (Nat.le_refl r) (rA_congr c78 (fun j _ => (if_neg (by omega)).symm))
    obtain ⟨wiR, v1, v2, v3⟩ := quit57 (N := N) (f := X 78) (p := p) (r := r) (last := last) (cod := 0) (ps := S.2.1 73) (cs := S.2.1 67) (has := upd (S.2.1 84) p (nI (clr (X 84 p) c))) (wc := S.2.1 77) (wk := S.2.1 79) (hl := S.2.1 80) (eva := S.2.1 68) (wnt := S.2.1 76) (pla := S.2.1 82) (mva := S.2.1 85) hp (by omega) (by rw [m77 p hp, hlast]) (last - r) r N (S.2.1 78) (by omega) (by omega) (Nat.le_refl r) (rA_congr m78 (fun j _ => (if_neg (by omega)).symm))
    have r77 : rA (upd (S.2.1 41) p (nI last)) (Y 77) 30 := by rw [hY]; exact rA_upd c77
    have s77 : rA (upd (S.2.1 77) p (nI last)) (Y 77) 30 := by rw [hY]; exact rA_upd m77
    have r78 : rA wiC (Y 78) 180 := by rw [hY]; exact w2
    have s78 : rA wiR (Y 78) 180 := by rw [hY]; exact v2
    have r84 : rA (upd (S.2.1 47) p (nI (clr (X 84 p) c))) (Y 84) 30 := by rw [hY]; exact rA_upd c84
    have s84 : rA (upd (S.2.1 84) p (nI (clr (X 84 p) c))) (Y 84) 30 := by rw [hY]; exact rA_upd m84
    have hcn1 : ∀ z, cnt (Y 84) z (X 73 0) + bt (X 84 p) z = cnt (X 84) z (X 73 0) + bt (clr (X 84 p) c) z := fun z => by
      rw [hY]
      exact cnt_up hpn
    have hcc : cnt (Y 84) c (X 73 0) + 1 = cnt (X 84) c (X 73 0) := by
      have := hcn1 c
      rw [bt_t hb, bt_f (show ¬ (clr (X 84 p) c).testBit c = true by rw [tb_clr]; simp)] at this
      omega
    have rtk : rA (upd (S.2.1 46) c (nI (cnt (X 84) c (X 73 0)) - 1)) (fun z => cnt (Y 84) z (Y 73 0)) 10 := by
      intro j hj
      rw [t73]
      by_cases q : j = c
      · subst q
        rw [pk_us, nI_m1 (by omega)]
        show nI (cnt (X 84) j (X 73 0) - 1) = nI (cnt (Y 84) j (X 73 0))
        rw [← hcc, Nat.add_sub_cancel]
      · rw [pk_un q, ctk j hj]
        have h1 := hcn1 j
        have h2 : bt (clr (X 84 p) c) j = bt (X 84 p) j := by
          unfold bt
          rw [tb_clr, decide_eq_false (Ne.symm q)]
          simp
        rw [h2] at h1
        show nI (cnt (X 84) j (X 73 0)) = nI (cnt (Y 84) j (X 73 0))
        congr 1
        omega
    obtain ⟨has', tk', mva', hasR', mvaR', a0, b0, f1, f2, f3, f4, f5, f6, f7⟩ := mv_X (N := N) hN hn hV0 r77 r78 (pla := S.2.1 45) (by rw [t82]; exact c82) (eva := S.2.1 32) (by rw [t68]; exact c68) (wnt := S.2.1 40) (by rw [t76]; exact c76) r84 rtk (mva := S.2.1 49) (by rw [t85]; exact c85) s77 s78 (plaR := S.2.1 82) (by rw [t82]; exact m82) (evaR := S.2.1 68) (by rw [t68]; exact m68) (wntR := S.2.1 76) (by rw [t76]; exact m76) s84 (mvaR := S.2.1 85) (by rw [t85]; exact m85) (ps := S.2.1 73) (by rw [t73]; exact m73) (cs := S.2.1 67) (by rw [t67]; exact m67) (hl := S.2.1 80) (by rw [t80]; exact m80) (wk := S.2.1 79) (by rw [t79]; exact m79)
    rw [t73, t80, t67, t85] at a0
    rw [rankOf_eq (by omega) hp (c77 p hp) hn6 (W := WX X p) (fun k hk => c78 (p * 6 + k) (by omega)) (e0.2.2.2.2.1 p hp) hc, rank_eq (by omega) hp (m77 p hp) hn6 (W := WX X p) (fun k hk => m78 (p * 6 + k) (by omega)) (e0.2.2.2.2.1 p hp) hc, hr, nz_ald hp (by omega), nz_ald hp (by omega), c84 p hp, nz_ald hc (by omega), ctk c hc, c77 p hp, hlast]
    simp only [Option.bind_some]
    have g3 : ¬ oI (some r) = -1 := by show ¬ nI r = nM; rw [nz_eqM (by omega)]; exact id
    rw [bt_clr c hc _ hlt, nz_ast hp (by omega), nz_ast (show p < 120 by omega) (by omega), nz_ast hc (by omega), if_neg g3, nz_let, show nI (last + 1) - 1 = nI last from nI_m1 (m := last + 1) (by omega)]
    simp only [Option.bind_some]
    rw [show oI (some r) = nI r from rfl, w1, v1]
    simp only [Option.bind_some]
    rw [c80, cmia, a0, b0]
    simp only [Option.bind_some]
    refine ⟨_, _, rfl, rfl, rfl, ⟨⟨mvX Y, ?_, ?_, IV_mv hV0⟩, hT, Im_fr (S := S) ⟨all31 kp.rf kp.rf kp.rf kp.rf kp.rf kp.rf kp.rf kp.rf kp.rf kp.rf kp.rf kp.rf (kp.up hp) (v3) kp.rf kp.rf kp.rf kp.rf kp.rf (kp.tr (kp.up hp) f6) (f7) kp.rf kp.rf kp.rf kp.rf kp.rf kp.rf kp.rf kp.rf kp.rf kp.rf, by intro i hi; simp (disch := omega) only [uX11_quit, uX10_quit, ns_A, ns_I, va_up_ne], by intro u hu; simp (disch := omega) only [uX11_quit, uX10_quit, ns_A, ns_I, va_up_ne], rfl⟩ (Nat.le_refl n) hI⟩⟩
    · have hMY : ∀ z, 65 ≤ z → z < 96 → z ≠ 77 → z ≠ 78 → z ≠ 84 → ∀ j, j < szM Y z → S.2.1 z j = en z (Y z j) := fun z h1 h2 h3 h4 h5 j hj => by
        unfold szM at hj
        rw [hcY 79 (by decide) (by decide) (by decide), hcY 67 (by decide) (by decide) (by decide)] at hj
        rw [hcY z h3 h4 h5]; exact hM z h1 h2 j hj
      exact all31 (hMY 65 (by decide) (by decide) (by decide) (by decide) (by decide)) (hMY 66 (by decide) (by decide) (by decide) (by decide) (by decide)) (hMY 67 (by decide) (by decide) (by decide) (by decide) (by decide)) (hMY 68 (by decide) (by decide) (by decide) (by decide) (by decide)) (hMY 69 (by decide) (by decide) (by decide) (by decide) (by decide)) (hMY 70 (by decide) (by decide) (by decide) (by decide) (by decide)) (hMY 71 (by decide) (by decide) (by decide) (by decide) (by decide)) (hMY 72 (by decide) (by decide) (by decide) (by decide) (by decide)) (hMY 73 (by decide) (by decide) (by decide) (by decide) (by decide)) (hMY 74 (by decide) (by decide) (by decide) (by decide) (by decide)) (hMY 75 (by decide) (by decide) (by decide) (by decide) (by decide)) (hMY 76 (by decide) (by decide) (by decide) (by decide) (by decide)) (s77) (s78) (hMY 79 (by decide) (by decide) (by decide) (by decide) (by decide)) (hMY 80 (by decide) (by decide) (by decide) (by decide) (by decide)) (hMY 81 (by decide) (by decide) (by decide) (by decide) (by decide)) (hMY 82 (by decide) (by decide) (by decide) (by decide) (by decide)) (hMY 83 (by decide) (by decide) (by decide) (by decide) (by decide)) (f4) (f5) (hMY 86 (by decide) (by decide) (by decide) (by decide) (by decide)) (hMY 87 (by decide) (by decide) (by decide) (by decide) (by decide)) (hMY 88 (by decide) (by decide) (by decide) (by decide) (by decide)) (hMY 89 (by decide) (by decide) (by decide) (by decide) (by decide)) (hMY 90 (by decide) (by decide) (by decide) (by decide) (by decide)) (hMY 91 (by decide) (by decide) (by decide) (by decide) (by decide)) (hMY 92 (by decide) (by decide) (by decide) (by decide) (by decide)) (hMY 93 (by decide) (by decide) (by decide) (by decide) (by decide)) (hMY 94 (by decide) (by decide) (by decide) (by decide) (by decide)) (hMY 95 (by decide) (by decide) (by decide) (by decide) (by decide))
    · subst hY
      exact ⟨hC.1, ⟨hC.2.1.1, hC.2.1.2.1, hC.2.1.2.2.1, hC.2.1.2.2.2.1, r77, r78⟩, ⟨hC.2.2.1.1, hC.2.2.1.2.1, hC.2.2.1.2.2.1, f2, f1⟩, ⟨hC.2.2.2.1.1, rfl, f3, hC.2.2.2.1.2.2.2⟩, hC.2.2.2.2⟩
end QU
