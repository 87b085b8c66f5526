/-! bill and line -/
section BI
variable {N n : Nat} {S : ns_S} {X : SX}
theorem val_eq (hN : 20000 ≤ N) (hn : n < 2 ^ 31) (hM : M0 S X) (hC : CB S 28 X) (hV : IV X n) {p w : Nat} (hp : p < 30) (h2 : 2 ≤ w) (h7 : w ≤ 7) (s : Int64) : ∃ v, fX6_valueOf N (S.2.1 38) (S.2.1 39) (S.2.1 47) (S.2.1 41) (S.2.1 42) (S.1 3072) (nI (w + 201)) (nI p) s = some v ∧ fX11_tested N (S.2.1 74) (S.2.1 75) (S.2.1 84) s (S.2.1 77) (S.2.1 78) (S.2.1 79) (nI p) (nI w) = some v := by
  have m74 : rA (S.2.1 74) (X 74) 30 := hM 74 (by decide) (by decide)
  have m75 : rA (S.2.1 75) (X 75) 30 := hM 75 (by decide) (by decide)
  have m77 : rA (S.2.1 77) (X 77) 30 := hM 77 (by decide) (by decide)
  have m78 : rA (S.2.1 78) (X 78) 180 := hM 78 (by decide) (by decide)
  have m79 : S.2.1 79 0 = dI (X 79 0) := hM 79 (by decide) (by decide) 0 Nat.one_pos
  have m84 : rA (S.2.1 84) (X 84) 30 := hM 84 (by decide) (by decide)
  have c74 : rA (S.2.1 38) (X 74) 30 := hC.2.1.2.1
  have c75 : rA (S.2.1 39) (X 75) 30 := hC.2.1.2.2.1
  have c77 : rA (S.2.1 41) (X 77) 30 := hC.2.1.2.2.2.2.1
  have c78 : rA (S.2.1 42) (X 78) 180 := hC.2.1.2.2.2.2.2
  have c79 : S.1 3072 = dI (X 79 0) := hC.2.2.2.1.1
  have c84 : rA (S.2.1 47) (X 84) 30 := hC.2.2.1.2.2.2.2
  have e0 := E0_of hV
  have hlt := hs_lt hV p hp
  have hw : X 79 0 < 2 ^ 31 := by have := hV.2.2.2.2.2.2.1; omega
  unfold fX6_valueOf fX11_tested
  have h6 : w = 2 ∨ w = 3 ∨ w = 4 ∨ w = 5 ∨ w = 6 ∨ w = 7 := by omega
  rcases h6 with rfl | rfl | rfl | rfl | rfl | rfl
  · refine ⟨(nI (X 74 p)).toInt64, ?_, ?_⟩
    · refine (if_pos rfl).trans ?_; rw [nz_ald hp (by omega), c74 p hp]; rfl
    · refine (if_pos rfl).trans ?_; rw [nz_ald (by omega) (by omega), m74 p hp]; rfl
  · refine ⟨(nI (X 75 p)).toInt64, ?_, ?_⟩
    · refine (if_neg (by decide)).trans ((if_pos rfl).trans ?_); rw [nz_ald hp (by omega), c75 p hp]; rfl
    · refine (if_neg (by decide)).trans ((if_pos rfl).trans ?_); rw [nz_ald (by omega) (by omega), m75 p hp]; rfl
  · refine ⟨(nI (pop (X 84 p))).toInt64, ?_, ?_⟩
    · refine (if_neg (by decide)).trans ((if_neg (by decide)).trans ((if_pos rfl).trans ?_)); rw [coursesOf_eq hp (c84 p hp) hlt]; rfl
    · refine (if_neg (by decide)).trans ((if_neg (by decide)).trans ((if_pos rfl).trans ?_)); rw [nz_ald (by omega) (by omega), m84 p hp, Option.bind_some, ones_eq (by omega) hlt]; rfl
  · refine ⟨s, ?_, ?_⟩
    · exact (if_neg (by decide)).trans ((if_neg (by decide)).trans ((if_neg (by decide)).trans (if_pos rfl)))
    · exact (if_neg (by decide)).trans ((if_neg (by decide)).trans ((if_neg (by decide)).trans (if_pos rfl)))
  · have hn6 := (e0.2.2.2.1 p hp).1
    refine ⟨if X 77 p = 0 then 0 else if (X 84 p).testBit (WX X p 0) = true then 1 else 0, ?_, ?_⟩
    · refine (if_neg (by decide)).trans ((if_neg (by decide)).trans ((if_neg (by decide)).trans ((if_neg (by decide)).trans ((if_pos rfl).trans ?_))))
      unfold fX6_hasFirstWish fX4_courseOfRank
      rw [nz_ald hp (by omega), c77 p hp, Option.bind_some]
      by_cases z : X 77 p = 0
      · rw [if_pos z, if_pos (show nI (X 77 p) ≤ 0 by rw [z]; decide)]; rfl
      · rw [if_neg z, if_neg (show ¬ nI (X 77 p) ≤ 0 from nI_ge (a := 0) (by omega) (by omega)), nz6, pk_mul, show nI (p * 6) + 0 = nI (p * 6 + 0) from nI_add _ 0, nz_ald (by omega) (by omega), c78 (p * 6 + 0) (by omega), Option.bind_some, Option.bind_some, show X 78 (p * 6 + 0) = WX X p 0 from rfl, hasCourse_eq hp (c84 p hp) hlt (e0.2.2.2.2.1 p hp 0 (by omega)), Option.bind_some]
        by_cases y : (X 84 p).testBit (WX X p 0) = true
        · rw [if_neg (bt_ne y), if_pos y]; rfl
        · rw [if_pos (bt_is y), if_neg y]; rfl
    · refine (if_neg (by decide)).trans ((if_neg (by decide)).trans ((if_neg (by decide)).trans ((if_neg (by decide)).trans ((if_pos rfl).trans ?_))))
      rw [nz_ald (by omega) (by omega), m77 p hp, Option.bind_some]
      by_cases z : X 77 p = 0
      · rw [if_pos z, if_pos (show nI (X 77 p) ≤ 0 by rw [z]; decide)]
      · rw [if_neg z, if_neg (show ¬ nI (X 77 p) ≤ 0 from nI_ge (a := 0) (by omega) (by omega)), nz_ald (by omega) (by omega), m84 p hp, Option.bind_some, nz6, pk_mul, nz_ald (by omega) (by omega), m78 (6 * p) (by omega), Option.bind_some, show X 78 (6 * p) = WX X p 0 by unfold WX; congr 1; omega, bt_shr _ (e0.2.2.2.2.1 p hp 0 (by omega)) _ hlt]
        by_cases y : (X 84 p).testBit (WX X p 0) = true
        · rw [if_neg (bt_ne y), if_pos y]
        · rw [if_pos (bt_is y), if_neg y]
  · refine ⟨if X 79 0 = 0 then 0 else (dI (X 79 0)).toInt64, ?_, ?_⟩
    · refine (if_neg (by decide)).trans ((if_neg (by decide)).trans ((if_neg (by decide)).trans ((if_neg (by decide)).trans ((if_neg (by decide)).trans ((if_pos rfl).trans ?_)))))
      rw [c79, isOn_eq hw, Option.bind_some]
      by_cases z : X 79 0 = 0
      · rw [if_pos z, if_pos z]; rfl
      · rw [if_neg z, if_neg z]; rfl
    · refine (if_neg (by decide)).trans ((if_neg (by decide)).trans ((if_neg (by decide)).trans ((if_neg (by decide)).trans ((if_neg (by decide)).trans ?_))))
      rw [ald0 (by omega) (by omega), m79, Option.bind_some]
      by_cases z : X 79 0 = 0
      · rw [if_pos z, if_pos (by rw [dI_off hw]; exact z)]
      · rw [if_neg z, if_neg (by rw [dI_off hw]; exact z)]; rfl
noncomputable def hldR (N : Nat) (S : ns_S) (p l : Nat) (s : Int64) : Option Int32 := fX11_holds N (S.2.1 89) (S.2.1 90) (S.2.1 74) (S.2.1 75) (S.2.1 84) s (S.2.1 77) (S.2.1 78) (S.2.1 79) (S.2.1 92) (S.2.1 91) (nI p) (nI l)
theorem tests_eq (hN : 20000 ≤ N) (hn : n < 2 ^ 31) (hM : M0 S X) (hC : CB S 28 X) (hV : IV X n) {p l : Nat} (hp : p < 30) (hl : l < X 88 0) (s : Int64) : ∃ b : Int32, (b = 0 ∨ b = 1) ∧ fX6_allTestsHold N (S.2.1 57) (S.2.1 58) (S.2.1 38) (S.2.1 39) (S.2.1 47) (S.2.1 41) (S.2.1 42) (S.1 3072) (S.2.1 59) (S.2.1 60) (nI p) (nI l) s = some b ∧ hldR N S p l s = some b := by
  have m89 : rA (S.2.1 89) (X 89) 16 := hM 89 (by decide) (by decide)
  have m90 : rA (S.2.1 90) (X 90) 64 := hM 90 (by decide) (by decide)
  have m91 : rA (S.2.1 91) (X 91) 64 := hM 91 (by decide) (by decide)
  have m92 : rA (S.2.1 92) (X 92) 64 := hM 92 (by decide) (by decide)
  have h16 := hV.2.2.2.2.2.2.2.1
  obtain ⟨f1, -, -, -, -, f2⟩ := hV.2.2.2.2.2.2.2.2 l hl
  obtain ⟨-, -, -, g1, g2⟩ := hC.2.2.2.2.2 l hl
  have g1' : S.2.1 57 l = nI (X 89 l) := g1
  have hl16 : l < 16 := by omega
  have loop : ∀ d i m, i + d = X 89 l → d < m → ∃ b : Int32, (b = 0 ∨ b = 1) ∧ fX6_allTestsHold_3 N m (S.2.1 57) (S.2.1 58) (S.2.1 38) (S.2.1 39) (S.2.1 47) (S.2.1 41) (S.2.1 42) (S.1 3072) (S.2.1 59) (S.2.1 60) (nI p) (nI l) s (nI i) = some b ∧ fX11_holds_2 N m (S.2.1 89) (S.2.1 90) (S.2.1 74) (S.2.1 75) (S.2.1 84) s (S.2.1 77) (S.2.1 78) (S.2.1 79) (S.2.1 92) (S.2.1 91) (nI p) (nI l) (nI i) = some b := by
    intro d
    induction d with
    | zero =>
      intro i m h1 h2
      obtain ⟨m, rfl⟩ : ∃ z, m = z + 1 := ⟨m - 1, by omega⟩
      refine ⟨1, Or.inr rfl, ?_, ?_⟩
      · rw [show fX6_allTestsHold_3 N (m + 1) = gX6_allTestsHold_3 N (fX6_allTestsHold_3 N m) from rfl]
        unfold gX6_allTestsHold_3
        rw [nz_ald hl16 (by omega), g1', Option.bind_some, if_pos (nI_le (by omega) (by omega))]
      · rw [show fX11_holds_2 N (m + 1) = gX11_holds_2 N (fX11_holds_2 N m) from rfl]
        unfold gX11_holds_2
        rw [nz_ald (by omega) (by omega), m89 l hl16, Option.bind_some, if_pos (nI_le (by omega) (by omega))]
    | succ d ih =>
      intro i m h1 h2
      obtain ⟨m, rfl⟩ : ∃ z, m = z + 1 := ⟨m - 1, by omega⟩
      obtain ⟨b, b0, b1, b2⟩ := ih (i + 1) m (by omega) (by omega)
      obtain ⟨⟨w1, w2⟩, ⟨s1, s2⟩, t1⟩ := f2 i (by omega)
      obtain ⟨x1, x2, x3⟩ := g2 i (by omega)
      have x1' : S.2.1 58 (l * 4 + i) = nI (X 90 (l * 4 + i) + 201) := x1
      have x2' : S.2.1 59 (l * 4 + i) = nI (X 91 (l * 4 + i)) := x2
      have x3' : S.2.1 60 (l * 4 + i) = nI (X 92 (l * 4 + i)) := x3
      obtain ⟨v, v1, v2⟩ := val_eq (N := N) hN hn hM hC hV hp w1 w2 s
      rw [show fX6_allTestsHold_3 N (m + 1) = gX6_allTestsHold_3 N (fX6_allTestsHold_3 N m) from rfl, show fX11_holds_2 N (m + 1) = gX11_holds_2 N (fX11_holds_2 N m) from rfl]
      unfold gX6_allTestsHold_3 gX11_holds_2 fX2_testHolds gX11_holds_112
      rw [nz_ald hl16 (by omega), g1', Option.bind_some, if_neg (nI_ge (by omega) (by omega)), nz_let, nz4, pk_mul, nI_add, nz_ald (show l * 4 + i < 64 by omega) (by omega), x1', Option.bind_some, v1, Option.bind_some, nz_ald (show l * 4 + i < 64 by omega) (by omega), x2', Option.bind_some, nz_ald (show l * 4 + i < 64 by omega) (by omega), x3']
      simp only [Option.bind_some]
      rw [nz_ald (show l < 64 by omega) (by omega), m89 l hl16]
      simp only [Option.bind_some]
      rw [if_neg (show ¬ nI (X 89 l) ≤ nI i from nI_ge (by omega) (by omega))]
      simp only [nz_let]
      rw [pk_mul, nI_add, Nat.mul_comm 4 l, nz_ald (show l * 4 + i < 256 by omega) (by omega), m90 _ (by omega)]
      simp only [Option.bind_some]
      rw [v2]
      simp only [Option.bind_some]
      rw [nz_ald (show l * 4 + i < 256 by omega) (by omega), m92 _ (by omega)]
      simp only [Option.bind_some]
      rw [nz_ald (show l * 4 + i < 256 by omega) (by omega), m91 _ (by omega)]
      simp only [Option.bind_some, nz_let, nI_1]
      have h3 : X 91 (l * 4 + i) = 60 ∨ X 91 (l * 4 + i) = 61 ∨ X 91 (l * 4 + i) = 62 := by omega
      rcases h3 with h3 | h3 | h3
      · rw [h3, if_pos (show nI 60 = 60 from rfl), if_pos (show nI 60 = 60 from rfl)]
        by_cases q : 0 ≤ lg_cmp v (nI (X 92 (l * 4 + i))).toInt64
        · rw [if_pos q, if_pos q]; exact ⟨0, Or.inl rfl, rfl, rfl⟩
        · rw [if_neg q, if_neg q]; exact ⟨b, b0, b1, b2⟩
      · rw [h3, if_neg (show ¬ nI 61 = 60 by decide), if_neg (show ¬ nI 61 = 60 by decide), if_neg (show ¬ nI 61 = 62 by decide), if_neg (show ¬ nI 61 = 62 by decide)]
        by_cases q : lg_cmp v (nI (X 92 (l * 4 + i))).toInt64 = 0
        · rw [if_pos q, if_pos q]; exact ⟨b, b0, b1, b2⟩
        · rw [if_neg q, if_neg q]; exact ⟨0, Or.inl rfl, rfl, rfl⟩
      · rw [h3, if_neg (show ¬ nI 62 = 60 by decide), if_neg (show ¬ nI 62 = 60 by decide), if_pos (show nI 62 = 62 from rfl), if_pos (show nI 62 = 62 from rfl)]
        by_cases q : lg_cmp v (nI (X 92 (l * 4 + i))).toInt64 ≤ 0
        · rw [if_pos q, if_pos q]; exact ⟨0, Or.inl rfl, rfl, rfl⟩
        · rw [if_neg q, if_neg q]; exact ⟨b, b0, b1, b2⟩
  obtain ⟨b, b0, b1, b2⟩ := loop (X 89 l) 0 N (by omega) (by omega)
  exact ⟨b, b0, b1, b2⟩
/-- the sum after an act -/
def actN (k x d a : Nat) : Nat := if k = 8 then min (a + x) 1000000000 else if k = 9 then a - x else if k = 10 then min (a * x / d) 1000000000 else if k = 11 then max a x else if k = 12 then min a x else if k = 13 then 0 else a
theorem actN_le {k x d a : Nat} (ha : a ≤ 1000000000) (hx : k < 13 → x < 100000) : actN k x d a ≤ 1000000000 := by
  unfold actN
  repeat' split
  all_goals omega
theorem lN_lit : (1000000000 : Int64) = lN 1000000000 := rfl
theorem lN0 : (0 : Int64) = lN 0 := rfl
theorem actC {act num div : Nat → Int32} {l k x d a : Nat} (hl : l < 16) (h8 : 8 ≤ k) (h14 : k < 14) (ha : act l = nI (k + 201)) (hx : k < 13 → num l = nI x ∧ x < 100000) (hd : k = 10 → div l = nI d ∧ 1 ≤ d ∧ d < 100000) (hs : a ≤ 1000000000) : fX2_sumAfterAct N act num div (nI l) (lN a) = some (lN (actN k x d a)) := by
  unfold fX2_sumAfterAct
  rw [nz_ald hl (by omega), ha, Option.bind_some]
  have h6 : k = 8 ∨ k = 9 ∨ k = 10 ∨ k = 11 ∨ k = 12 ∨ k = 13 := by omega
  rcases h6 with rfl | rfl | rfl | rfl | rfl | rfl
  · obtain ⟨x1, x2⟩ := hx (by decide)
    refine (if_pos rfl).trans ?_
    rw [nz_ald hl (by omega), x1, Option.bind_some, nI_l (by omega), lN_add, lN_lit]
    rw [show actN 8 x d a = min (a + x) 1000000000 from rfl]
    by_cases q : a + x < 1000000000
    · rw [if_pos ((pk_lLT (by omega) (by omega)).mpr q), Nat.min_eq_left (by omega)]
    · rw [if_neg (fun z => q ((pk_lLT (by omega) (by omega)).mp z)), Nat.min_eq_right (by omega)]
  · obtain ⟨x1, x2⟩ := hx (by decide)
    refine (if_neg (by decide)).trans ((if_pos rfl).trans ?_)
    rw [nz_ald hl (by omega), x1, Option.bind_some, nI_l (by omega)]
    rw [show actN 9 x d a = a - x from rfl]
    by_cases q : a < x
    · have h : lN a - lN x < 0 := by
        refine Int64.lt_iff_toInt_lt.mpr ?_
        rw [Int64.toInt_sub, pk_lT (by omega), pk_lT (by omega), Int.bmod_eq_of_le (by omega) (by omega)]
        show (a : Int) - x < 0
        omega
      rw [if_pos h, Nat.sub_eq_zero_of_le (by omega)]; rfl
    · rw [lN_sub (by omega), lN0, if_neg (fun z => by have := (pk_lLT (by omega) (by omega)).mp z; omega)]
  · obtain ⟨x1, x2⟩ := hx (by decide)
    obtain ⟨d1, d2, d3⟩ := hd rfl
    refine (if_neg (by decide)).trans ((if_neg (by decide)).trans ((if_pos rfl).trans ?_))
    have hax : a * x < 2 ^ 63 := by
      have : a * x ≤ 1000000000 * 100000 := Nat.mul_le_mul hs (by omega)
      omega
    rw [nz_ald hl (by omega), d1, Option.bind_some, if_neg (show ¬ nI d = 0 by rw [nz_e0 (by omega)]; omega), nz_ald hl (by omega), x1, Option.bind_some, Option.bind_some, nI_l (by omega), nI_l (by omega), lN_mul]
    unfold ns_dv
    rw [if_neg (show ¬ lN d = 0 from fun z => by have := (pk_lEQ (b := 0) (by omega) (by omega)).mp z; omega), Option.bind_some, pk_lDiv hax (by omega) (by omega), lN_lit]
    have hq : a * x / d < 2 ^ 63 := Nat.lt_of_le_of_lt (Nat.div_le_self _ _) hax
    rw [show actN 10 x d a = min (a * x / d) 1000000000 from rfl]
    by_cases q : a * x / d < 1000000000
    · rw [if_pos ((pk_lLT hq (by omega)).mpr q), Nat.min_eq_left (by omega)]
    · rw [if_neg (fun z => q ((pk_lLT hq (by omega)).mp z)), Nat.min_eq_right (by omega)]
  · obtain ⟨x1, x2⟩ := hx (by decide)
    refine (if_neg (by decide)).trans ((if_neg (by decide)).trans ((if_neg (by decide)).trans ((if_pos rfl).trans ?_)))
    rw [nz_ald hl (by omega), x1, Option.bind_some, nI_l (by omega)]
    rw [show actN 11 x d a = max a x from rfl]
    by_cases q : x < a
    · rw [if_pos ((pk_lLT (by omega) (by omega)).mpr q), Nat.max_eq_left (by omega)]
    · rw [if_neg (fun z => q ((pk_lLT (by omega) (by omega)).mp z)), Nat.max_eq_right (by omega)]
  · obtain ⟨x1, x2⟩ := hx (by decide)
    refine (if_neg (by decide)).trans ((if_neg (by decide)).trans ((if_neg (by decide)).trans ((if_neg (by decide)).trans ((if_pos rfl).trans ?_))))
    rw [nz_ald hl (by omega), x1, Option.bind_some, nI_l (by omega)]
    rw [show actN 12 x d a = min a x from rfl]
    by_cases q : x < a
    · rw [if_pos ((pk_lLT (by omega) (by omega)).mpr q), Nat.min_eq_right (by omega)]
    · rw [if_neg (fun z => q ((pk_lLT (by omega) (by omega)).mp z)), Nat.min_eq_left (by omega)]
  · refine (if_neg (by decide)).trans ((if_neg (by decide)).trans ((if_neg (by decide)).trans ((if_neg (by decide)).trans ((if_neg (by decide)).trans ((if_pos rfl).trans ?_)))))
    rfl
end BI
