/-! room, course, pupil, end -/
theorem ns_I_id (S : ns_S) (u : Nat) : ns_I S u (S.1 u) = S := by
  refine Prod.ext (funext fun z => ?_) rfl
  show va_up S.1 u (S.1 u) z = S.1 z
  unfold va_up
  split
  · rename_i h; rw [h]
  · rfl
theorem ns_A_id (S : ns_S) (u : Nat) : ns_A S u (S.2.1 u) = S := by
  refine Prod.ext rfl (Prod.ext (funext fun z => ?_) rfl)
  show va_up S.2.1 u (S.2.1 u) z = S.2.1 z
  unfold va_up
  split
  · rename_i h; rw [h]
  · rfl
theorem dI_off {w : Nat} (h : w < 2 ^ 31) : (dI w = -1) = (w = 0) := by
  cases w with
  | zero => exact propext ⟨fun _ => rfl, fun _ => rfl⟩
  | succ r =>
    show (nI r = nM) = (r + 1 = 0)
    rw [nz_eqM (by omega)]
    exact propext ⟨fun h => h.elim, fun h => by omega⟩
theorem isOn_eq {N w : Nat} (h : w < 2 ^ 31) : fX8_isOn N (dI w) = some (if w = 0 then 0 else 1) := by
  unfold fX8_isOn
  rw [iteq (dI_off h)]
  split <;> rfl
theorem stp_off {np nc : Nat} {nw wa pl ev : Nat → Nat} {W : Nat → Nat → Nat} {s : HM} : stp np nc 0 nw wa pl ev W s = none := by
  unfold stp
  cases e : fst2 (cm np nc 0 nw wa pl ev W s.1) nw np 0 with
  | none => rfl
  | some q =>
    obtain ⟨p, k⟩ := q
    obtain ⟨-, -, -, h⟩ := fst2_some _ _ _ _ e
    unfold cm at h
    have h5 := (of_decide_eq_true h).1
    unfold rs5 at h5
    split at h5
    · cases h5
    · split at h5
      · cases h5
      · rw [if_neg (by rw [Nat.zero_testBit]; decide)] at h5
        cases h5
theorem cnt_s {hs : Nat → Nat} {c n : Nat} (h : hs n = 0) : cnt hs c (n + 1) = cnt hs c n := by
  show cnt hs c n + bt (hs n) c = _
  rw [h, bt_0, Nat.add_zero]
section E
variable {N n : Nat} {S : ns_S}
theorem op_end (hR : Rel S n) (p1 : Int32) : ∃ o1 o2, aX10_end N S p1 = some o1 ∧ aX11_end N S p1 = some o2 ∧ o1.1 = o2.1 ∧ Rel (uX11_end (uX10_end S o1) o2) n := by
  obtain ⟨⟨X, hM, hC, hV⟩, hT, hI⟩ := hR
  obtain ⟨hT1, ⟨t, t1, t2, t3⟩, hT2⟩ := hT
  have key : ∀ k, k ≤ 500 → Rel (uX11_end (uX10_end S (nI k, nI k)) (nI k, 0, nI k)) n := fun k hk =>
    ⟨⟨X, hM, CB_fr (S := S) (fun _ _ _ => rfl) (by intro u h1 h2; simp (disch := omega) only [uX11_end, uX10_end, ns_A, ns_I, va_up_ne]) hC, hV⟩, ⟨hT1, ⟨k, hk, rfl, rfl⟩, hT2⟩, Im_fr (S := S) ⟨all31 kp.rf kp.rf kp.rf kp.rf kp.rf kp.rf kp.rf kp.rf kp.rf kp.rf kp.rf kp.rf kp.rf kp.rf kp.rf kp.rf kp.rf kp.rf kp.rf kp.rf kp.rf kp.rf kp.rf kp.rf kp.rf kp.rf kp.rf kp.rf kp.rf kp.rf kp.rf, by intro i hi; simp (disch := omega) only [uX11_end, uX10_end, ns_A, ns_I, va_up_ne], by intro u hu; simp (disch := omega) only [uX11_end, uX10_end, ns_A, ns_I, va_up_ne], rfl⟩ (Nat.le_refl _) hI⟩
  have no : ∀ r : Int32, Rel (uX11_end (uX10_end S (r, S.1 1)) (r, 0, S.1 3970)) n := fun r => by
    have h : uX11_end (uX10_end S (r, S.1 1)) (r, 0, S.1 3970) = ns_I S 3968 0 := by
      show ns_I (ns_I (ns_I S 1 (S.1 1)) 3970 (S.1 3970)) 3968 0 = _
      rw [ns_I_id, ns_I_id]
    rw [h]
    exact Rel_cd ⟨⟨X, hM, hC, hV⟩, ⟨hT1, ⟨t, t1, t2, t3⟩, hT2⟩, hI⟩
  unfold aX10_end aX11_end fX10_end fX11_end
  rcases in2 (N := N) p1 (lo := 0) (hi := t) (by omega) (by omega) with ⟨k, a, b, c, d, e⟩ | ⟨d, e, f⟩
  · subst c
    refine ⟨_, _, ?_, ?_, ?_, key k (by omega)⟩
    · rw [t2, if_neg (nI_lt0 (by omega)), if_pos (nI_le b (by omega))]
    · rw [t3, nz0, e]; rfl
    · rfl
  · refine ⟨_, _, ?_, ?_, ?_, no (-1)⟩
    · rw [t2]
      by_cases h : p1 < 0
      · rw [if_pos h]
      · obtain ⟨k, k1, rfl⟩ := nn_ex h
        rw [if_neg h, if_neg (fun q => f k (by omega) ((nI_leI k1 (by omega)).mp q) rfl)]
    · rw [t3, nz0, e]; rfl
    · rfl
theorem op_room (hn : n < 2 ^ 31) (hR : Rel S n) (p1 : Int32) : ∃ o1 o2, aX10_room N S p1 = some o1 ∧ aX11_room N S p1 = some o2 ∧ o1.1 = o2.1 ∧ Rel (uX11_room (uX10_room S o1) o2) n := by
  have hR0 := hR
  obtain ⟨⟨X, hM, hC, hV⟩, hT, hI⟩ := hR
  have m65 : S.2.1 65 0 = nI (X 65 0) := hM 65 (by decide) (by decide) 0 Nat.one_pos
  have m66 : rA (S.2.1 66) (X 66) 5 := hM 66 (by decide) (by decide)
  have m79 : S.2.1 79 0 = dI (X 79 0) := hM 79 (by decide) (by decide) 0 Nat.one_pos
  have c65 : S.1 1856 = nI (X 65 0) := hC.1.1
  have c66 : rA (S.2.1 30) (X 66) 5 := hC.1.2.1
  have c79 : S.1 3072 = dI (X 79 0) := hC.2.2.2.1.1
  have hE := hV.1
  have hw : X 79 0 < 2 ^ 31 := by have := hV.2.2.2.2.2.2.1; omega
  have no : ∀ r : Int32, Rel (uX11_room (uX10_room S (r, S.2.1 30, S.1 1856)) (r, 0, S.2.1 66, S.2.1 65)) n := fun r => by
    have h : uX11_room (uX10_room S (r, S.2.1 30, S.1 1856)) (r, 0, S.2.1 66, S.2.1 65) = ns_I S 3968 0 := by
      show ns_I (ns_A (ns_A (ns_A (ns_I S 1856 (S.1 1856)) 30 (S.2.1 30)) 65 (S.2.1 65)) 66 (S.2.1 66)) 3968 0 = _
      rw [ns_I_id, ns_A_id, ns_A_id, ns_A_id]
    rw [h]
    exact Rel_cd hR0
  unfold aX10_room aX11_room fX10_room fX11_room
  rw [ald0 (by omega) (by omega), m79, c79, isOn_eq hw, Option.bind_some, Option.bind_some]
  by_cases hoff : ¬ X 79 0 = 0
  · have g : ¬ dI (X 79 0) = -1 := by rw [dI_off hw]; exact hoff
    rw [if_neg hoff, if_neg one_ne, if_neg g]
    exact ⟨_, _, rfl, rfl, rfl, no (-1)⟩
  replace hoff : X 79 0 = 0 := Classical.not_not.mp hoff
  have g : dI (X 79 0) = -1 := by rw [dI_off hw]; exact hoff
  rw [if_pos hoff, if_pos (rfl : (0 : Int32) = 0), if_pos g, ald0 (by omega) (by omega), Option.bind_some]
  by_cases hfull : X 65 0 = 5
  · have g1 : 5 ≤ S.1 1856 := by rw [c65, hfull]; decide
    have g2 : S.2.1 65 0 = 5 := by rw [m65, hfull]; rfl
    rw [if_pos g1, if_pos g2]
    exact ⟨_, _, rfl, rfl, rfl, no (-1)⟩
  have hnr := hE.1
  have g1 : ¬ 5 ≤ S.1 1856 := by rw [c65, nz5, nz_le (by decide) (by omega)]; omega
  have g2 : ¬ S.2.1 65 0 = 5 := by rw [m65, nz5, nz_eq (by omega) (by decide)]; exact hfull
  rw [if_neg g1, if_neg g2]
  rcases in2 (N := N) p1 (lo := 1) (hi := 40) (by omega) (by omega) with ⟨s, a, b, c, d, e⟩ | ⟨d, e, f⟩
  · subst c
    rw [show fX10_isWithin N (nI s) 1 40 = some 1 from d, show fX11_in N (nI s) 1 40 = some 1 from e, Option.bind_some, Option.bind_some, if_neg one_ne, if_neg one_ne, c65, m65, nz_ast (by omega) (by omega), Option.bind_some, nz_let, Option.bind_some, nz_ast (by omega) (by omega), Option.bind_some, Option.bind_some, ast0 (by omega) (by omega), Option.bind_some, ald0 (by omega) (by omega), Option.bind_some, pk_us, nI_1, nI_m1 (by omega), Nat.add_sub_cancel]
    refine ⟨_, _, rfl, rfl, rfl, ⟨⟨va_up (va_up X 66 (va_up (X 66) (X 65 0) s)) 65 (va_up (X 65) 0 (X 65 0 + 1)), ?_, ⟨⟨?_, ?_, hC.1.2.2⟩, hC.2.1, hC.2.2.1, hC.2.2.2.1, hC.2.2.2.2⟩, ?_⟩, hT, Im_fr (S := S) ⟨all31 (kp.up (by decide)) (kp.up (show X 65 0 < 5 by omega)) kp.rf kp.rf kp.rf kp.rf kp.rf kp.rf kp.rf kp.rf kp.rf kp.rf kp.rf kp.rf kp.rf kp.rf kp.rf kp.rf kp.rf kp.rf kp.rf kp.rf kp.rf kp.rf kp.rf kp.rf kp.rf kp.rf kp.rf kp.rf kp.rf, by intro i hi; simp (disch := omega) only [uX11_room, uX10_room, ns_A, ns_I, va_up_ne], by intro u hu; simp (disch := omega) only [uX11_room, uX10_room, ns_A, ns_I, va_up_ne], rfl⟩ (Nat.le_refl _) hI⟩⟩
    · refine all31 (fun j hj => ?_) (rA_upd m66) (hM 67 (by decide) (by decide)) (hM 68 (by decide) (by decide)) (hM 69 (by decide) (by decide)) (hM 70 (by decide) (by decide)) (hM 71 (by decide) (by decide)) (hM 72 (by decide) (by decide)) (hM 73 (by decide) (by decide)) (hM 74 (by decide) (by decide)) (hM 75 (by decide) (by decide)) (hM 76 (by decide) (by decide)) (hM 77 (by decide) (by decide)) (hM 78 (by decide) (by decide)) (hM 79 (by decide) (by decide)) (hM 80 (by decide) (by decide)) (hM 81 (by decide) (by decide)) (hM 82 (by decide) (by decide)) (hM 83 (by decide) (by decide)) (hM 84 (by decide) (by decide)) (hM 85 (by decide) (by decide)) (hM 86 (by decide) (by decide)) (hM 87 (by decide) (by decide)) (hM 88 (by decide) (by decide)) (hM 89 (by decide) (by decide)) (hM 90 (by decide) (by decide)) (hM 91 (by decide) (by decide)) (hM 92 (by decide) (by decide)) (hM 93 (by decide) (by decide)) (hM 94 (by decide) (by decide)) (hM 95 (by decide) (by decide))
      obtain rfl : j = 0 := by have : j < 1 := hj; omega
      rfl
    · rfl
    · exact rA_upd c66
    · refine ⟨⟨show X 65 0 + 1 ≤ 5 by omega, hE.2.1, hE.2.2.1, fun k hk => ?_, hE.2.2.2.2⟩, hV.2.1, hV.2.2.1, hV.2.2.2.1, hV.2.2.2.2⟩
      show va_up (X 66) (X 65 0) s k < 100
      unfold va_up
      split
      · omega
      · exact hE.2.2.2.1 k hk
  · refine ⟨_, _, ?_, ?_, ?_, no (-1)⟩
    · rw [show fX10_isWithin N p1 1 40 = some 0 from d]; rfl
    · rw [show fX11_in N p1 1 40 = some 0 from e]; rfl
    · rfl
end E
