/-! canHold, points -/
theorem Rel_ag {S S' : ns_S} {n : Nat} (hA : ∀ i, (i = 1 ∨ (28 ≤ i ∧ i < 61) ∨ i = 63 ∨ (65 ≤ i ∧ i < 96) ∨ 106 ≤ i) → S'.2.1 i = S.2.1 i) (hI : ∀ u, (u = 1 ∨ u = 130 ∨ u = 131 ∨ (1792 ≤ u ∧ u < 3904) ∨ u = 3970 ∨ u = 4008 ∨ u = 4009 ∨ 6848 ≤ u) → S'.1 u = S.1 u) (hB : S'.2.2.2 = S.2.2.2) (hR : Rel S n) : Rel S' n := by
  obtain ⟨⟨X, hM, hC, hV⟩, hT, hJ⟩ := hR
  refine ⟨⟨X, fun c h1 h2 j hj => ?_, CB_fr (S := S) (fun i h1 h2 => hA i (by omega)) (fun u h1 h2 => hI u (by omega)) hC, hV⟩, ?_, Im_fr (S := S) ⟨fun c h1 h2 => ?_, fun i hi => hA i (by omega), fun u hu => hI u (by omega), hB⟩ (Nat.le_refl _) hJ⟩
  · rw [hA c (by omega)]; exact hM c h1 h2 j hj
  · unfold Tp
    rw [hA 63 (by omega), hA 1 (by omega), hI 1 (by omega), hI 3970 (by omega), hI 130 (by omega), hI 131 (by omega), hI 4008 (by omega), hI 4009 (by omega)]
    exact hT
  · rw [hA c (by omega)]; exact kp.rf
theorem vl_none {nr nc np : Nat} {se mo ev te le nw wa : Nat → Nat} {W : Nat → Nat → Nat} {set : Nat} (h : ¬ canB nr nc se mo ev te le set = true) : vl nr nc np se mo ev te le nw wa W set = none := by
  unfold vl
  rw [if_neg (fun q => h q.1)]
section P
variable {N n : Nat} {S : ns_S}
theorem op_canHold (hN : 20000 ≤ N) (hR : Rel S n) (p1 : Int32) : ∃ o1 o2, aX10_canHold N S p1 = some o1 ∧ aX11_canHold N S p1 = some o2 ∧ o1.1 = o2.1 ∧ Rel (uX11_canHold (uX10_canHold S o1) o2) n := by
  have hR0 := hR
  obtain ⟨⟨X, hM, hC, hV⟩, hT, hI⟩ := hR
  have m65 : S.2.1 65 0 = nI (X 65 0) := hM 65 (by decide) (by decide) 0 Nat.one_pos
  have m66 : rA (S.2.1 66) (X 66) 5 := hM 66 (by decide) (by decide)
  have m67 : S.2.1 67 0 = nI (X 67 0) := hM 67 (by decide) (by decide) 0 Nat.one_pos
  have m68 : rA (S.2.1 68) (X 68) 10 := hM 68 (by decide) (by decide)
  have m69 : rA (S.2.1 69) (X 69) 10 := hM 69 (by decide) (by decide)
  have m70 : rA (S.2.1 70) (X 70) 10 := hM 70 (by decide) (by decide)
  have m71 : rA (S.2.1 71) (X 71) 10 := hM 71 (by decide) (by decide)
  have m73 : S.2.1 73 0 = nI (X 73 0) := hM 73 (by decide) (by decide) 0 Nat.one_pos
  have c65 : S.1 1856 = nI (X 65 0) := hC.1.1
  have c66 : rA (S.2.1 30) (X 66) 5 := hC.1.2.1
  have c67 : S.1 1984 = nI (X 67 0) := hC.1.2.2.1
  have c68 : rA (S.2.1 32) (X 68) 10 := hC.1.2.2.2.1
  have c69 : rA (S.2.1 33) (X 69) 10 := hC.1.2.2.2.2.1
  have c70 : rA (S.2.1 34) (X 70) 10 := hC.1.2.2.2.2.2.1
  have c71 : rA (S.2.1 35) (X 71) 10 := hC.1.2.2.2.2.2.2.1
  have c73 : S.1 2368 = nI (X 73 0) := hC.2.1.1
  have c76 : rA (S.2.1 40) (X 76) 30 := hC.2.1.2.2.2.1
  have c77 : rA (S.2.1 41) (X 77) 30 := hC.2.1.2.2.2.2.1
  have c78 : rA (S.2.1 42) (X 78) 180 := hC.2.1.2.2.2.2.2
  have hE := hV.1
  have hE0 := hE
  obtain ⟨e1, e2, e3, e4, e5, e6, e7⟩ := hE0
  have key : ∀ o1 o2, Rel (uX11_canHold (uX10_canHold S o1) o2) n := fun o1 o2 => Rel_ag (S := S) (by intro i hi; simp (disch := omega) only [uX11_canHold, uX10_canHold, ns_A, ns_I, va_up_ne]) (by intro u hu; simp (disch := omega) only [uX11_canHold, uX10_canHold, ns_A, ns_I, va_up_ne]) rfl hR0
  suffices h : ∃ o1 o2, aX10_canHold N S p1 = some o1 ∧ aX11_canHold N S p1 = some o2 ∧ o1.1 = o2.1 by
    obtain ⟨o1, o2, a, b, c⟩ := h
    exact ⟨o1, o2, a, b, c, key o1 o2⟩
  unfold aX10_canHold aX11_canHold fX10_canHold fX11_canHold fX10_furnishSet
  rw [c65, c67, c73]
  rcases set_split (nc := X 67 0) p1 e2 with ⟨set, s1, rfl, s3, s4, s5⟩ | ⟨s1, s2⟩
  · rw [if_pos s3]
    obtain ⟨ro', co', ce', wd', q0, q1, q2, q3, q4⟩ := prep_eq (N := N) (by omega) e1 e2 e3 c66 e4 c71 (fun c hc => (e5 c hc).1) (fun p hp => (e7 p hp).1) (W := WX X) (fun p hp k hk => by have := (e7 p hp).2.2 k hk; omega) c77 (rW_of c78) c68 (fun c hc => (e5 c hc).2.2.1) (S.2.1 21) (S.2.1 22) (S.2.1 25) (S.2.1 26)
    obtain ⟨r, rof', pla', ru', tb', t0, t1⟩ := setC (N := N) (by omega) hE (RS_ofC hC) q1 q2 q3 q4 s1 (S.1 1024) (S.2.1 17) (S.2.1 18) (S.2.1 19) (S.2.1 20) (S.2.1 23) (S.2.1 24)
    obtain ⟨r', tr', tp', u0, u1⟩ := can_eq (N := N) (by omega) e1 e2 m67 m65 m66 e4 m71 (fun c hc => (e5 c hc).1) m70 (fun c hc => (e5 c hc).2.1) m68 (fun c hc => (e5 c hc).2.2.1) m69 (fun c hc => (e5 c hc).2.2.2) s1 (S.2.1 104) (S.2.1 103)
    have hrr : r = r' ∧ (r = 0 ∨ r = 1) := by
      rcases t1 with ⟨a, b, -⟩ | ⟨a, b⟩
      · rcases u1 with ⟨c, d, -⟩ | ⟨c, d⟩
        · omega
        · exact absurd (canB_iff.mp b) (d (can_ecn hE (RS_of hM) s1 (canB_iff.mp b)))
      · rcases u1 with ⟨c, d, -⟩ | ⟨c, d⟩
        · exact absurd (canB_iff.mpr d) b
        · omega
    rw [q0, Option.bind_some]
    dsimp only
    rw [t0, u0]
    obtain ⟨rfl, h01⟩ := hrr
    rcases h01 with rfl | rfl
    · exact ⟨_, _, rfl, rfl, rfl⟩
    · exact ⟨_, _, rfl, rfl, rfl⟩
  · rw [if_neg s1]
    refine ⟨_, (0, 0, S.2.1 103, S.2.1 104), rfl, ?_, ?_⟩
    · unfold fX11_can
      by_cases z : p1 < 0
      · rw [if_pos z]; rfl
      · rw [if_neg z, ald0 (by omega) (by omega), m67, Option.bind_some, if_neg (s2.resolve_left z)]; rfl
    · rfl
theorem op_points (hN : 20000 ≤ N) (hR : Rel S n) (p1 : Int32) : ∃ o1 o2, aX10_points N S p1 = some o1 ∧ aX11_points N S p1 = some o2 ∧ o1.1 = o2.1 ∧ Rel (uX11_points (uX10_points S o1) o2) n := by
  have hR0 := hR
  obtain ⟨⟨X, hM, hC, hV⟩, hT, hI⟩ := hR
  have m65 : S.2.1 65 0 = nI (X 65 0) := hM 65 (by decide) (by decide) 0 Nat.one_pos
  have m66 : rA (S.2.1 66) (X 66) 5 := hM 66 (by decide) (by decide)
  have m67 : S.2.1 67 0 = nI (X 67 0) := hM 67 (by decide) (by decide) 0 Nat.one_pos
  have m68 : rA (S.2.1 68) (X 68) 10 := hM 68 (by decide) (by decide)
  have m69 : rA (S.2.1 69) (X 69) 10 := hM 69 (by decide) (by decide)
  have m70 : rA (S.2.1 70) (X 70) 10 := hM 70 (by decide) (by decide)
  have m71 : rA (S.2.1 71) (X 71) 10 := hM 71 (by decide) (by decide)
  have m73 : S.2.1 73 0 = nI (X 73 0) := hM 73 (by decide) (by decide) 0 Nat.one_pos
  have c65 : S.1 1856 = nI (X 65 0) := hC.1.1
  have c66 : rA (S.2.1 30) (X 66) 5 := hC.1.2.1
  have c67 : S.1 1984 = nI (X 67 0) := hC.1.2.2.1
  have c68 : rA (S.2.1 32) (X 68) 10 := hC.1.2.2.2.1
  have c69 : rA (S.2.1 33) (X 69) 10 := hC.1.2.2.2.2.1
  have c70 : rA (S.2.1 34) (X 70) 10 := hC.1.2.2.2.2.2.1
  have c71 : rA (S.2.1 35) (X 71) 10 := hC.1.2.2.2.2.2.2.1
  have c73 : S.1 2368 = nI (X 73 0) := hC.2.1.1
  have c76 : rA (S.2.1 40) (X 76) 30 := hC.2.1.2.2.2.1
  have c77 : rA (S.2.1 41) (X 77) 30 := hC.2.1.2.2.2.2.1
  have c78 : rA (S.2.1 42) (X 78) 180 := hC.2.1.2.2.2.2.2
  have hE := hV.1
  have hE0 := hE
  obtain ⟨e1, e2, e3, e4, e5, e6, e7⟩ := hE0
  have key : ∀ o1 o2, Rel (uX11_points (uX10_points S o1) o2) n := fun o1 o2 => Rel_ag (S := S) (by intro i hi; simp (disch := omega) only [uX11_points, uX10_points, ns_A, ns_I, va_up_ne]) (by intro u hu; simp (disch := omega) only [uX11_points, uX10_points, ns_A, ns_I, va_up_ne]) rfl hR0
  suffices h : ∃ o1 o2, aX10_points N S p1 = some o1 ∧ aX11_points N S p1 = some o2 ∧ o1.1 = o2.1 by
    obtain ⟨o1, o2, a, b, c⟩ := h
    exact ⟨o1, o2, a, b, c, key o1 o2⟩
  unfold aX10_points aX11_points fX10_points fX11_points fX10_furnishSet
  rw [c65, c67, c73]
  rcases set_split (nc := X 67 0) p1 e2 with ⟨set, s1, rfl, s3, s4, s5⟩ | ⟨s1, s2⟩
  · rw [if_pos s3]
    obtain ⟨ro', co', ce', wd', q0, q1, q2, q3, q4⟩ := prep_eq (N := N) (by omega) e1 e2 e3 c66 e4 c71 (fun c hc => (e5 c hc).1) (fun p hp => (e7 p hp).1) (W := WX X) (fun p hp k hk => by have := (e7 p hp).2.2 k hk; omega) c77 (rW_of c78) c68 (fun c hc => (e5 c hc).2.2.1) (S.2.1 21) (S.2.1 22) (S.2.1 25) (S.2.1 26)
    obtain ⟨r, rof', pla', ru', tb', t0, t1⟩ := setC (N := N) (by omega) hE (RS_ofC hC) q1 q2 q3 q4 s1 (S.1 1024) (S.2.1 17) (S.2.1 18) (S.2.1 19) (S.2.1 20) (S.2.1 23) (S.2.1 24)
    obtain ⟨tr', tp', th', u0, -⟩ := setR (N := N) (by omega) hE (RS_of hM) m67 m65 m73 s1 (S.2.1 104) (S.2.1 103) (S.2.1 105)
    rw [q0, Option.bind_some]
    dsimp only
    rw [t0, u0]
    rcases t1 with ⟨rfl, b, c, d⟩ | ⟨rfl, b⟩
    · obtain ⟨has', tk', bar', wp', v0, -⟩ := d (S.1 968) (S.2.1 27)
      rw [Option.bind_some]
      dsimp only
      rw [show ns_zb (nI 1) = some 1 from rfl, Option.bind_some, Option.bind_some]
      dsimp only
      rw [if_neg one_ne, v0]
      exact ⟨_, _, rfl, rfl, rfl⟩
    · rw [vl_none b]
      exact ⟨_, _, rfl, rfl, rfl⟩
  · rw [if_neg s1]
    refine ⟨_, (-1, 0, S.2.1 103, S.2.1 104, S.2.1 105), rfl, ?_, ?_⟩
    · unfold fX11_placed fX11_can
      by_cases z : p1 < 0
      · rw [if_pos z]; rfl
      · rw [if_neg z, ald0 (by omega) (by omega), m67, Option.bind_some, if_neg (s2.resolve_left z)]; rfl
    · rfl
end P
