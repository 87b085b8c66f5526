/-! course, pupil -/
theorem in_01 {N : Nat} (x a b : Int32) : fX11_in N x a b = some 0 ∨ fX11_in N x a b = some 1 := by
  unfold fX11_in
  split
  · exact Or.inl rfl
  · split
    · exact Or.inl rfl
    · exact Or.inr rfl
theorem va_lt {f : Nat → Nat} {k v b j : Nat} (hv : v < b) (h : f j < b) : va_up f k v j < b := by
  unfold va_up
  split
  · exact hv
  · exact h
section E2
variable {N n : Nat} {S : ns_S}
theorem op_course (hn : n < 2 ^ 31) (hR : Rel S n) (p1 p2 p3 p4 p5 : Int32) : ∃ o1 o2, aX10_course N S p1 p2 p3 p4 p5 = some o1 ∧ aX11_course N S p1 p2 p3 p4 p5 = some o2 ∧ o1.1 = o2.1 ∧ Rel (uX11_course (uX10_course S o1) o2) n := by
  have hR0 := hR
  obtain ⟨⟨X, hM, hC, hV⟩, hT, hI⟩ := hR
  have m67 : S.2.1 67 0 = nI (X 67 0) := hM 67 (by decide) (by decide) 0 Nat.one_pos
  have m68 : rA (S.2.1 68) (X 68) 10 := hM 68 (by decide) (by decide)
  have m69 : rA (S.2.1 69) (X 69) 10 := hM 69 (by decide) (by decide)
  have m70 : rA (S.2.1 70) (X 70) 10 := hM 70 (by decide) (by decide)
  have m71 : rA (S.2.1 71) (X 71) 10 := hM 71 (by decide) (by decide)
  have m72 : rA (S.2.1 72) (X 72) 10 := hM 72 (by decide) (by decide)
  have m79 : S.2.1 79 0 = dI (X 79 0) := hM 79 (by decide) (by decide) 0 Nat.one_pos
  have m81 : ∀ j, j < szM X 81 → S.2.1 81 j = dI (X 81 j) := hM 81 (by decide) (by decide)
  have m82 : rA (S.2.1 82) (X 82) 10 := hM 82 (by decide) (by decide)
  have m83 : rA (S.2.1 83) (X 83) 10 := hM 83 (by decide) (by decide)
  have c67 : S.1 1984 = nI (X 67 0) := hC.1.2.2.1
  have c68 : rA (S.2.1 32) (X 68) 10 := hC.1.2.2.2.1
  have c69 : rA (S.2.1 33) (X 69) 10 := hC.1.2.2.2.2.1
  have c70 : rA (S.2.1 34) (X 70) 10 := hC.1.2.2.2.2.2.1
  have c71 : rA (S.2.1 35) (X 71) 10 := hC.1.2.2.2.2.2.2.1
  have c72 : rA (S.2.1 36) (X 72) 10 := hC.1.2.2.2.2.2.2.2
  have c79 : S.1 3072 = dI (X 79 0) := hC.2.2.2.1.1
  have hE := hV.1
  have hw : X 79 0 < 2 ^ 31 := by have := hV.2.2.2.2.2.2.1; omega
  have no : ∀ r : Int32, Rel (uX11_course (uX10_course S (r, S.2.1 32, S.2.1 33, S.2.1 34, S.2.1 35, S.2.1 36, S.1 1984)) (r, 0, S.2.1 67, S.2.1 68, S.2.1 69, S.2.1 70, S.2.1 71, S.2.1 72, S.2.1 81, S.2.1 82, S.2.1 83)) n := fun r => by
    have h1 : uX10_course S (r, S.2.1 32, S.2.1 33, S.2.1 34, S.2.1 35, S.2.1 36, S.1 1984) = S := by
      show ns_A (ns_A (ns_A (ns_A (ns_A (ns_I S 1984 (S.1 1984)) 36 (S.2.1 36)) 35 (S.2.1 35)) 34 (S.2.1 34)) 33 (S.2.1 33)) 32 (S.2.1 32) = S
      rw [ns_I_id, ns_A_id, ns_A_id, ns_A_id, ns_A_id, ns_A_id]
    rw [h1]
    have h2 : uX11_course S (r, 0, S.2.1 67, S.2.1 68, S.2.1 69, S.2.1 70, S.2.1 71, S.2.1 72, S.2.1 81, S.2.1 82, S.2.1 83) = ns_I S 3968 0 := by
      unfold uX11_course
      dsimp only
      rw [ns_A_id, ns_A_id, ns_A_id, ns_A_id, ns_A_id, ns_A_id, ns_A_id, ns_A_id, ns_A_id]
    rw [h2]
    exact Rel_cd hR0
  unfold aX10_course aX11_course fX10_course fX11_course
  rw [ald0 (by omega) (by omega), m79, c79, isOn_eq hw, Option.bind_some, Option.bind_some]
  by_cases hoff : ¬ X 79 0 = 0
  · have g : ¬ dI (X 79 0) = -1 := by rw [dI_off hw]; exact hoff
    rw [if_neg hoff, if_neg one_ne, if_neg g]
    exact ⟨_, _, rfl, rfl, rfl, no (-1)⟩
  replace hoff : X 79 0 = 0 := Classical.not_not.mp hoff
  have g : dI (X 79 0) = -1 := by rw [dI_off hw]; exact hoff
  rw [if_pos hoff, if_pos (rfl : (0 : Int32) = 0), if_pos g, ald0 (by omega) (by omega), Option.bind_some]
  have hnc := hE.2.1
  by_cases hfull : X 67 0 = 10
  · have g1 : ¬ S.1 1984 < 10 := by rw [c67, hfull]; decide
    have g2 : S.2.1 67 0 = 10 := by rw [m67, hfull]; rfl
    rw [if_neg g1, if_pos g2]
    exact ⟨_, _, rfl, rfl, rfl, no (-1)⟩
  have g1 : S.1 1984 < 10 := by rw [c67, nz10, nz_lt (by omega) (by decide)]; omega
  have g2 : ¬ S.2.1 67 0 = 10 := by rw [m67, nz10, nz_eq (by omega) (by decide)]; exact hfull
  rw [if_pos g1, if_neg g2]
  rcases in2 (N := N) p1 (lo := 0) (hi := 4) (by omega) (by omega) with ⟨ev, -, ev2, rfl, d, e⟩ | ⟨d, e, -⟩
  case inr => exact ⟨_, _, by rw [show fX10_isWithin N p1 0 4 = some 0 from d]; rfl, by rw [show fX11_in N p1 0 4 = some 0 from e]; rfl, rfl, no (-1)⟩
  rw [show fX10_isWithin N (nI ev) 0 4 = some 1 from d, show fX11_in N (nI ev) 0 4 = some 1 from e, Option.bind_some, Option.bind_some, if_neg one_ne, if_neg one_ne]
  clear d e
  rcases in2 (N := N) p2 (lo := 0) (hi := 5) (by omega) (by omega) with ⟨te, -, te2, rfl, d, e⟩ | ⟨d, e, -⟩
  case inr => exact ⟨_, _, by rw [show fX10_isWithin N p2 0 5 = some 0 from d]; rfl, by rw [show fX11_in N p2 0 5 = some 0 from e]; rfl, rfl, no (-1)⟩
  rw [show fX10_isWithin N (nI te) 0 5 = some 1 from d, show fX11_in N (nI te) 0 5 = some 1 from e, Option.bind_some, Option.bind_some, if_neg one_ne, if_neg one_ne]
  clear d e
  rcases in2 (N := N) p4 (lo := 1) (hi := 40) (by omega) (by omega) with ⟨mo, mo1, mo2, rfl, d, e⟩ | ⟨d, e, -⟩
  case inr =>
    refine ⟨_, _, by rw [show fX10_isWithin N p4 1 40 = some 0 from d]; rfl, ?_, ?_, no (-1)⟩
    · rcases in_01 (N := N) p3 1 p4 with h | h
      · rw [h]; rfl
      · rw [h, Option.bind_some, if_neg one_ne, show fX11_in N p4 1 40 = some 0 from e]; rfl
    · rfl
  rw [show fX10_isWithin N (nI mo) 1 40 = some 1 from d, Option.bind_some, if_neg one_ne]
  rcases in2 (N := N) p3 (lo := 1) (hi := mo) (by omega) (by omega) with ⟨le, le1, le2, rfl, d', e'⟩ | ⟨d', e', -⟩
  case inr => exact ⟨_, _, by rw [show fX10_isWithin N p3 1 (nI mo) = some 0 from d']; rfl, by rw [show fX11_in N p3 1 (nI mo) = some 0 from e']; rfl, rfl, no (-1)⟩
  rw [show fX10_isWithin N (nI le) 1 (nI mo) = some 1 from d', show fX11_in N (nI le) 1 (nI mo) = some 1 from e', Option.bind_some, Option.bind_some, if_neg one_ne, if_neg one_ne, show fX11_in N (nI mo) 1 40 = some 1 from e, Option.bind_some, if_neg one_ne]
  clear d e d' e'
  rcases in2 (N := N) p5 (lo := 0) (hi := 1000) (by omega) (by omega) with ⟨pr, -, pr2, rfl, d, e⟩ | ⟨d, e, -⟩
  case inr => exact ⟨_, _, by rw [show fX10_isWithin N p5 0 1000 = some 0 from d]; rfl, by rw [show fX11_in N p5 0 1000 = some 0 from e]; rfl, rfl, no (-1)⟩
  rw [show fX10_isWithin N (nI pr) 0 1000 = some 1 from d, show fX11_in N (nI pr) 0 1000 = some 1 from e, Option.bind_some, Option.bind_some, if_neg one_ne, if_neg one_ne]
  clear d e
  have hlt : X 67 0 < 10 := by omega
  have hA : ∀ (f : Nat → Int32) (v : Int32), ns_ast f 10 (nI (X 67 0)) v = some (upd f (X 67 0) v) := fun f v => nz_ast hlt (by omega)
  have hA4 : ∀ (f : Nat → Int32) (v : Int32), ns_ast f 40 (nI (X 67 0)) v = some (upd f (X 67 0) v) := fun f v => nz_ast (by omega) (by omega)
  simp only [c67, m67, hA, hA4, Option.bind_some, nz_let, ast0 (show 0 < 4 by omega) (show 4 < 1000 by omega), nI_1]
  have hz := hV.2.2.2.2.1 hoff
  have hz2 := hz.2.1 (X 67 0) hlt
  refine ⟨_, _, rfl, rfl, rfl, ⟨⟨va_up (va_up (va_up (va_up (va_up (va_up X 72 (va_up (X 72) (X 67 0) pr)) 71 (va_up (X 71) (X 67 0) mo)) 70 (va_up (X 70) (X 67 0) le)) 69 (va_up (X 69) (X 67 0) te)) 68 (va_up (X 68) (X 67 0) ev)) 67 (va_up (X 67) 0 (X 67 0 + 1)), ?_, ⟨⟨hC.1.1, hC.1.2.1, rfl, rA_upd c68, rA_upd c69, rA_upd c70, rA_upd c71, rA_upd c72⟩, hC.2.1, hC.2.2.1, hC.2.2.2.1, hC.2.2.2.2⟩, ?_⟩, hT, Im_fr (S := S) ⟨all31 kp.rf kp.rf (kp.up (by decide)) (kp.up hlt) (kp.up hlt) (kp.up hlt) (kp.up hlt) (kp.up hlt) kp.rf kp.rf kp.rf kp.rf kp.rf kp.rf kp.rf kp.rf (kp.up hlt) (kp.up hlt) (kp.up hlt) kp.rf kp.rf kp.rf kp.rf kp.rf kp.rf kp.rf kp.rf kp.rf kp.rf kp.rf kp.rf, by intro i hi; simp (disch := omega) only [uX11_course, uX10_course, ns_A, ns_I, va_up_ne], by intro u hu; simp (disch := omega) only [uX11_course, uX10_course, ns_A, ns_I, va_up_ne], rfl⟩ (Nat.le_refl _) hI⟩⟩
  · refine all31 (hM 65 (by decide) (by decide)) (hM 66 (by decide) (by decide)) (fun j hj => ?_) (rA_upd m68) (rA_upd m69) (rA_upd m70) (rA_upd m71) (rA_upd m72) (hM 73 (by decide) (by decide)) (hM 74 (by decide) (by decide)) (hM 75 (by decide) (by decide)) (hM 76 (by decide) (by decide)) (hM 77 (by decide) (by decide)) (hM 78 (by decide) (by decide)) (hM 79 (by decide) (by decide)) (hM 80 (by decide) (by decide)) (fun j hj => ?_) (fun j hj => ?_) (fun j hj => ?_) (hM 84 (by decide) (by decide)) (hM 85 (by decide) (by decide)) (hM 86 (by decide) (by decide)) (hM 87 (by decide) (by decide)) (hM 88 (by decide) (by decide)) (hM 89 (by decide) (by decide)) (hM 90 (by decide) (by decide)) (hM 91 (by decide) (by decide)) (hM 92 (by decide) (by decide)) (hM 93 (by decide) (by decide)) (hM 94 (by decide) (by decide)) (hM 95 (by decide) (by decide))
    · obtain rfl : j = 0 := by have : j < 1 := hj; omega
      rfl
    · show upd (S.2.1 81) (X 67 0) (-1) j = dI (X 81 j)
      by_cases q : j = X 67 0
      · subst q; rw [pk_us, hz2.1]; rfl
      · rw [pk_un q]
        have hj2 : j < X 67 0 + 1 := by
          have hj3 : j < (if 81 = 81 ∧ X 79 0 = 0 then X 67 0 + 1 else szs 81) := hj
          rw [if_pos ⟨rfl, hoff⟩] at hj3
          exact hj3
        exact m81 j (szM_ge hE.2.1 (by omega))
    · show upd (S.2.1 82) (X 67 0) 0 j = nI (X 82 j)
      by_cases q : j = X 67 0
      · subst q; rw [pk_us, hz2.2.1]; rfl
      · rw [pk_un q]; exact m82 j hj
    · show upd (S.2.1 83) (X 67 0) 0 j = nI (X 83 j)
      by_cases q : j = X 67 0
      · subst q; rw [pk_us, hz2.2.2]; rfl
      · rw [pk_un q]; exact m83 j hj
  · refine ⟨⟨hE.1, show X 67 0 + 1 ≤ 10 by omega, hE.2.2.1, hE.2.2.2.1, fun c hc => ?_, fun c hc => ?_, fun p hp => ?_⟩, hV.2.1, ⟨fun c hc => ?_, hV.2.2.1.2⟩, ⟨?_, hV.2.2.2.1.2⟩, hV.2.2.2.2.1, ?_, hV.2.2.2.2.2.2⟩
    · have q := hE.2.2.2.2.1 c hc
      exact ⟨va_lt (by omega) q.1, va_lt (by omega) q.2.1, va_lt (by omega) q.2.2.1, va_lt (by omega) q.2.2.2⟩
    · show 1 ≤ va_up (X 70) (X 67 0) le c
      have hc' : c < X 67 0 + 1 := hc
      by_cases q : c = X 67 0
      · subst q; rw [va_up_self]; exact le1
      · rw [va_up_ne _ _ q]; exact hE.2.2.2.2.2.1 c (by omega)
    · have q := hE.2.2.2.2.2.2 p hp
      refine ⟨q.1, q.2.1, fun k hk => ?_⟩
      show WX X p k < X 67 0 + 1
      have := q.2.2 k hk
      omega
    · exact va_lt (by omega) (hV.2.2.1.1 c hc)
    · exact Nat.lt_of_lt_of_le hV.2.2.2.1.1 (Nat.pow_le_pow_right (n := 2) (by decide) (Nat.le_succ _))
    · show stp (X 73 0) (X 67 0 + 1) (X 80 0) _ _ _ _ _ _ = none
      rw [hz.1]
      exact stp_off
theorem op_pupil (hn : n < 2 ^ 31) (hR : Rel S n) (p1 p2 p3 : Int32) : ∃ o1 o2, aX10_pupil N S p1 p2 p3 = some o1 ∧ aX11_pupil N S p1 p2 p3 = some o2 ∧ o1.1 = o2.1 ∧ Rel (uX11_pupil (uX10_pupil S o1) o2) n := by
  have hR0 := hR
  obtain ⟨⟨X, hM, hC, hV⟩, hT, hI⟩ := hR
  have m73 : S.2.1 73 0 = nI (X 73 0) := hM 73 (by decide) (by decide) 0 Nat.one_pos
  have m74 : rA (S.2.1 74) (X 74) 30 := hM 74 (by decide) (by decide)
  have m75 : rA (S.2.1 75) (X 75) 30 := hM 75 (by decide) (by decide)
  have m76 : rA (S.2.1 76) (X 76) 30 := hM 76 (by decide) (by decide)
  have m77 : rA (S.2.1 77) (X 77) 30 := hM 77 (by decide) (by decide)
  have m79 : S.2.1 79 0 = dI (X 79 0) := hM 79 (by decide) (by decide) 0 Nat.one_pos
  have m84 : rA (S.2.1 84) (X 84) 30 := hM 84 (by decide) (by decide)
  have m85 : rA (S.2.1 85) (X 85) 30 := hM 85 (by decide) (by decide)
  have c73 : S.1 2368 = nI (X 73 0) := hC.2.1.1
  have c74 : rA (S.2.1 38) (X 74) 30 := hC.2.1.2.1
  have c75 : rA (S.2.1 39) (X 75) 30 := hC.2.1.2.2.1
  have c76 : rA (S.2.1 40) (X 76) 30 := hC.2.1.2.2.2.1
  have c77 : rA (S.2.1 41) (X 77) 30 := hC.2.1.2.2.2.2.1
  have c78 : rA (S.2.1 42) (X 78) 180 := hC.2.1.2.2.2.2.2
  have c79 : S.1 3072 = dI (X 79 0) := hC.2.2.2.1.1
  have ctk : rA (S.2.1 46) (fun c => cnt (X 84) c (X 73 0)) 10 := hC.2.2.1.2.2.2.1
  have cmia : S.1 3073 = nI (sm (X 85) (X 73 0)) := hC.2.2.2.1.2.1
  have hE := hV.1
  have hw : X 79 0 < 2 ^ 31 := by have := hV.2.2.2.2.2.2.1; omega
  have no : ∀ r : Int32, Rel (uX11_pupil (uX10_pupil S (r, S.2.1 38, S.2.1 39, S.2.1 40, S.1 2368)) (r, 0, S.2.1 73, S.2.1 74, S.2.1 75, S.2.1 76, S.2.1 77, S.2.1 84, S.2.1 85)) n := fun r => by
    have h1 : uX10_pupil S (r, S.2.1 38, S.2.1 39, S.2.1 40, S.1 2368) = S := by
      unfold uX10_pupil
      dsimp only
      rw [ns_I_id, ns_A_id, ns_A_id, ns_A_id]
    rw [h1]
    have h2 : uX11_pupil S (r, 0, S.2.1 73, S.2.1 74, S.2.1 75, S.2.1 76, S.2.1 77, S.2.1 84, S.2.1 85) = ns_I S 3968 0 := by
      unfold uX11_pupil
      dsimp only
      rw [ns_A_id, ns_A_id, ns_A_id, ns_A_id, ns_A_id, ns_A_id, ns_A_id]
    rw [h2]
    exact Rel_cd hR0
  unfold aX10_pupil aX11_pupil fX10_pupil fX11_pupil
  rw [ald0 (by omega) (by omega), m79, c79, isOn_eq hw, Option.bind_some, Option.bind_some]
  by_cases hoff : ¬ X 79 0 = 0
  · have g : ¬ dI (X 79 0) = -1 := by rw [dI_off hw]; exact hoff
    rw [if_neg hoff, if_neg one_ne, if_neg g]
    exact ⟨_, _, rfl, rfl, rfl, no (-1)⟩
  replace hoff : X 79 0 = 0 := Classical.not_not.mp hoff
  have g : dI (X 79 0) = -1 := by rw [dI_off hw]; exact hoff
  rw [if_pos hoff, if_pos (rfl : (0 : Int32) = 0), if_pos g, ald0 (by omega) (by omega), Option.bind_some]
  have hnp := hE.2.2.1
  by_cases hfull : X 73 0 = 30
  · have g1 : ¬ S.1 2368 < 30 := by rw [c73, hfull]; decide
    have g2 : S.2.1 73 0 = 30 := by rw [m73, hfull]; rfl
    rw [if_neg g1, if_pos g2]
    exact ⟨_, _, rfl, rfl, rfl, no (-1)⟩
  have g1 : S.1 2368 < 30 := by rw [c73, nz30, nz_lt (by omega) (by decide)]; omega
  have g2 : ¬ S.2.1 73 0 = 30 := by rw [m73, nz30, nz_eq (by omega) (by decide)]; exact hfull
  rw [if_pos g1, if_neg g2]
  rcases in2 (N := N) p1 (lo := 0) (hi := 120) (by omega) (by omega) with ⟨ag, -, ag2, rfl, d, e⟩ | ⟨d, e, -⟩
  case inr => exact ⟨_, _, by rw [show fX10_isWithin N p1 0 120 = some 0 from d]; rfl, by rw [show fX11_in N p1 0 120 = some 0 from e]; rfl, rfl, no (-1)⟩
  rw [show fX10_isWithin N (nI ag) 0 120 = some 1 from d, show fX11_in N (nI ag) 0 120 = some 1 from e, Option.bind_some, Option.bind_some, if_neg one_ne, if_neg one_ne]
  clear d e
  rcases in2 (N := N) p2 (lo := 0) (hi := 2) (by omega) (by omega) with ⟨pu, -, pu2, rfl, d, e⟩ | ⟨d, e, -⟩
  case inr => exact ⟨_, _, by rw [show fX10_isWithin N p2 0 2 = some 0 from d]; rfl, by rw [show fX11_in N p2 0 2 = some 0 from e]; rfl, rfl, no (-1)⟩
  rw [show fX10_isWithin N (nI pu) 0 2 = some 1 from d, show fX11_in N (nI pu) 0 2 = some 1 from e, Option.bind_some, Option.bind_some, if_neg one_ne, if_neg one_ne]
  clear d e
  rcases in2 (N := N) p3 (lo := 1) (hi := 3) (by omega) (by omega) with ⟨wa, wa1, wa2, rfl, d, e⟩ | ⟨d, e, -⟩
  case inr => exact ⟨_, _, by rw [show fX10_isWithin N p3 1 3 = some 0 from d]; rfl, by rw [show fX11_in N p3 1 3 = some 0 from e]; rfl, rfl, no (-1)⟩
  rw [show fX10_isWithin N (nI wa) 1 3 = some 1 from d, show fX11_in N (nI wa) 1 3 = some 1 from e, Option.bind_some, Option.bind_some, if_neg one_ne, if_neg one_ne]
  clear d e
  have hlt : X 73 0 < 30 := by omega
  have hA : ∀ (f : Nat → Int32) (v : Int32), ns_ast f 30 (nI (X 73 0)) v = some (upd f (X 73 0) v) := fun f v => nz_ast hlt (by omega)
  have hA4 : ∀ (f : Nat → Int32) (v : Int32), ns_ast f 120 (nI (X 73 0)) v = some (upd f (X 73 0) v) := fun f v => nz_ast (by omega) (by omega)
  simp only [c73, m73, hA, hA4, Option.bind_some, nz_let, ast0 (show 0 < 4 by omega) (show 4 < 1000 by omega), nI_1]
  have hz := hV.2.2.2.2.1 hoff
  have z77 : X 77 (X 73 0) = 0 := hV.2.2.1.2.2 _ hlt (Nat.le_refl _)
  have z84 := hV.2.2.2.1.2.2.1 _ hlt (Nat.le_refl _)
  refine ⟨_, _, rfl, rfl, rfl, ⟨⟨va_up (va_up (va_up (va_up X 76 (va_up (X 76) (X 73 0) wa)) 75 (va_up (X 75) (X 73 0) pu)) 74 (va_up (X 74) (X 73 0) ag)) 73 (va_up (X 73) 0 (X 73 0 + 1)), ?_, ⟨hC.1, ⟨rfl, rA_upd c74, rA_upd c75, rA_upd c76, c77, c78⟩, ⟨hC.2.2.1.1, hC.2.2.1.2.1, hC.2.2.1.2.2.1, ?_, hC.2.2.1.2.2.2.2⟩, ⟨hC.2.2.2.1.1, ?_, hC.2.2.2.1.2.2⟩, hC.2.2.2.2⟩, ?_⟩, hT, Im_fr (S := S) ⟨all31 kp.rf kp.rf kp.rf kp.rf kp.rf kp.rf kp.rf kp.rf (kp.up (by decide)) (kp.up hlt) (kp.up hlt) (kp.up hlt) (kp.up hlt) kp.rf kp.rf kp.rf kp.rf kp.rf kp.rf (kp.up hlt) (kp.up hlt) kp.rf kp.rf kp.rf kp.rf kp.rf kp.rf kp.rf kp.rf kp.rf kp.rf, by intro i hi; simp (disch := omega) only [uX11_pupil, uX10_pupil, ns_A, ns_I, va_up_ne], by intro u hu; simp (disch := omega) only [uX11_pupil, uX10_pupil, ns_A, ns_I, va_up_ne], rfl⟩ (Nat.le_refl _) hI⟩⟩
  · refine all31 (hM 65 (by decide) (by decide)) (hM 66 (by decide) (by decide)) (hM 67 (by decide) (by decide)) (hM 68 (by decide) (by decide)) (hM 69 (by decide) (by decide)) (hM 70 (by decide) (by decide)) (hM 71 (by decide) (by decide)) (hM 72 (by decide) (by decide)) (fun j hj => ?_) (rA_upd m74) (rA_upd m75) (rA_upd m76) (fun j hj => ?_) (hM 78 (by decide) (by decide)) (hM 79 (by decide) (by decide)) (hM 80 (by decide) (by decide)) (hM 81 (by decide) (by decide)) (hM 82 (by decide) (by decide)) (hM 83 (by decide) (by decide)) (fun j hj => ?_) (fun j hj => ?_) (hM 86 (by decide) (by decide)) (hM 87 (by decide) (by decide)) (hM 88 (by decide) (by decide)) (hM 89 (by decide) (by decide)) (hM 90 (by decide) (by decide)) (hM 91 (by decide) (by decide)) (hM 92 (by decide) (by decide)) (hM 93 (by decide) (by decide)) (hM 94 (by decide) (by decide)) (hM 95 (by decide) (by decide))
    · obtain rfl : j = 0 := by have : j < 1 := hj; omega
      rfl
    · show upd (S.2.1 77) (X 73 0) 0 j = nI (X 77 j)
      by_cases q : j = X 73 0
      · subst q; rw [pk_us, z77]; rfl
      · rw [pk_un q]; exact m77 j hj
    · show upd (S.2.1 84) (X 73 0) 0 j = nI (X 84 j)
      by_cases q : j = X 73 0
      · subst q; rw [pk_us, z84.1]; rfl
      · rw [pk_un q]; exact m84 j hj
    · show upd (S.2.1 85) (X 73 0) 0 j = nI (X 85 j)
      by_cases q : j = X 73 0
      · subst q; rw [pk_us, z84.2]; rfl
      · rw [pk_un q]; exact m85 j hj
  · exact rA_congr ctk (fun c hc => (cnt_s z84.1).symm)
  · show S.1 3073 = nI (sm (X 85) (X 73 0) + X 85 (X 73 0))
    rw [z84.2]; exact cmia
  · refine ⟨⟨hE.1, hE.2.1, show X 73 0 + 1 ≤ 30 by omega, hE.2.2.2.1, hE.2.2.2.2.1, hE.2.2.2.2.2.1, fun p hp => ?_⟩, hV.2.1, ⟨hV.2.2.1.1, fun p hp => ?_, fun p hp hq => hV.2.2.1.2.2 p hp (Nat.le_of_succ_le hq)⟩, ⟨hV.2.2.2.1.1, hV.2.2.2.1.2.1, fun p hp hq => hV.2.2.2.1.2.2.1 p hp (Nat.le_of_succ_le hq), hV.2.2.2.1.2.2.2⟩, hV.2.2.2.2.1, ?_, hV.2.2.2.2.2.2⟩
    · have q := hE.2.2.2.2.2.2 p hp
      exact ⟨q.1, va_lt (by omega) q.2.1, q.2.2⟩
    · have q := hV.2.2.1.2.1 p hp
      exact ⟨va_lt (by omega) q.1, va_lt (by omega) q.2⟩
    · show stp (X 73 0 + 1) (X 67 0) (X 80 0) _ _ _ _ _ _ = none
      rw [hz.1]
      exact stp_off
end E2
