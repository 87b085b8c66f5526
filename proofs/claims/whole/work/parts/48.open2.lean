/-! open and close -/
theorem cp10 (f g : Nat → Int32) : ns_cp f g 10 10 0 0 10 = some (va_cpy f g 0 0 10) := by
  unfold ns_cp; rw [if_pos (by decide)]; rfl
theorem cp30 (f g : Nat → Int32) : ns_cp f g 30 30 0 0 30 = some (va_cpy f g 0 0 30) := by
  unfold ns_cp; rw [if_pos (by decide)]; rfl
theorem cpy_in {f g : Nat → Int32} {n j : Nat} (h : j < n) : va_cpy f g 0 0 n j = f j := by
  unfold va_cpy; rw [if_pos ⟨Nat.zero_le _, by omega⟩, Nat.zero_add, Nat.sub_zero]
theorem rA_cpy {f g : Nat → Int32} {h : Nat → Nat} {n : Nat} (a : rA f h n) : rA (va_cpy f g 0 0 n) h n := fun j hj => by rw [cpy_in hj]; exact a j hj
theorem rD_cpy {f g : Nat → Int32} {h : Nat → Nat} {n : Nat} (a : rD f h n) : rD (va_cpy f g 0 0 n) h n := fun j hj => by rw [cpy_in hj]; exact a j hj
theorem rA_fil {f : Nat → Int32} {n : Nat} : rA (fil f n 0) (fun _ => 0) n := fun j hj => by rw [fil_in hj]; rfl
theorem rA_fi {f f' : Nat → Int32} {n : Nat} (h : fi f f' n 0) : rA f' (fun _ => 0) n := fun j hj => h.1 j hj
theorem rs5_held {m n held nc wan c : Nat} {Wp ev : Nat → Nat} (h5 : rs5 m n Wp held ev nc wan c = 5) : held.testBit c = true := by
  unfold rs5 at h5
  split at h5
  · cases h5
  · split at h5
    · cases h5
    · split at h5
      · assumption
      · cases h5
theorem mvm_tb {ev : Nat → Nat} {nc m c i : Nat} (h : (mvm ev nc m c).testBit i = true) : m.testBit i = true ∨ i = c := by
  unfold mvm at h
  split at h
  · rw [tb_or] at h
    simp only [Bool.or_eq_true, decide_eq_true_eq] at h
    exact h.imp id Eq.symm
  · rw [tb_or, tb_clr] at h
    simp only [Bool.or_eq_true, Bool.and_eq_true, decide_eq_true_eq] at h
    exact h.imp And.left Eq.symm
/-- what every state of the moves has -/
def HI (np held : Nat) (nw : Nat → Nat) (W : Nat → Nat → Nat) (s : HM) : Prop := (∀ p, p < 30 → ∀ c, (s.1 p).testBit c = true → held.testBit c = true ∧ ∃ k, k < nw p ∧ W p k = c) ∧ ∀ p, p < 30 → np ≤ p → s.1 p = 0 ∧ s.2 p = 0
section O2
variable {N n : Nat} {S : ns_S}
theorem mus_HI {np nc held : Nat} {nw wa pl ev : Nat → Nat} {W : Nat → Nat → Nat} : ∀ d (s : HM), HI np held nw W s → HI np held nw W (mus np nc held nw wa pl ev W d s) := by
  intro d
  induction d with
  | zero => intro s h; exact h
  | succ d ih =>
    intro s h
    unfold mus
    cases hq : stp np nc held nw wa pl ev W s with
    | none => exact h
    | some s' =>
      refine ih s' ?_
      unfold stp at hq
      split at hq
      · cases hq
      · rename_i p k hf
        cases hq
        obtain ⟨-, h1, h2, h3⟩ := fst2_some _ _ _ _ hf
        unfold cm at h3
        have h4 := of_decide_eq_true h3
        refine ⟨fun q hq c hc => ?_, fun q hq hnp => ?_⟩
        · by_cases e : q = p
          · subst e
            have hc' : (mvm ev nc (s.1 q) (W q k)).testBit c = true := by
              have : va_up s.1 q (mvm ev nc (s.1 q) (W q k)) q = mvm ev nc (s.1 q) (W q k) := va_up_self _ _ _
              rw [← this]; exact hc
            rcases mvm_tb hc' with g | g
            · exact h.1 q hq c g
            · rw [g]; exact ⟨rs5_held h4.1, k, h2, rfl⟩
          · refine h.1 q hq c ?_
            have : va_up s.1 p (mvm ev nc (s.1 p) (W p k)) q = s.1 q := va_up_ne _ _ e
            rw [← this]; exact hc
        · have e : q ≠ p := by omega
          refine ⟨?_, ?_⟩
          · show va_up s.1 p _ q = 0
            rw [va_up_ne _ _ e]; exact (h.2 q hq hnp).1
          · show va_up s.2 p _ q = 0
            rw [va_up_ne _ _ e]; exact (h.2 q hq hnp).2
theorem mus_fix {np nc held : Nat} {nw wa pl ev : Nat → Nat} {W : Nat → Nat → Nat} {s : HM} (h : stp np nc held nw wa pl ev W s = none) : ∀ d, mus np nc held nw wa pl ev W d s = s
  | 0 => rfl
  | d + 1 => by unfold mus; rw [h]
theorem op_open (hN : 20000 ≤ N) (hn : n < 2 ^ 31) (hR : Rel S n) : ∃ o1 o2, aX10_open N S = some o1 ∧ aX11_open N S = some o2 ∧ o1.1 = o2.1 ∧ Rel (uX11_open (uX10_open S o1) o2) (n + 1) := by
  have hR0 := hR
  obtain ⟨⟨X, hM, hC, hV⟩, hT, hI⟩ := hR
  have m65 : S.2.1 65 0 = nI (X 65 0) := hM 65 (by decide) (by decide) 0 Nat.one_pos
  have m67 : S.2.1 67 0 = nI (X 67 0) := hM 67 (by decide) (by decide) 0 Nat.one_pos
  have m73 : S.2.1 73 0 = nI (X 73 0) := hM 73 (by decide) (by decide) 0 Nat.one_pos
  have m79 : S.2.1 79 0 = dI (X 79 0) := hM 79 (by decide) (by decide) 0 Nat.one_pos
  have c65 : S.1 1856 = nI (X 65 0) := hC.1.1
  have c67 : S.1 1984 = nI (X 67 0) := hC.1.2.2.1
  have c68 : rA (S.2.1 32) (X 68) 10 := hC.1.2.2.2.1
  have c73 : S.1 2368 = nI (X 73 0) := hC.2.1.1
  have c76 : rA (S.2.1 40) (X 76) 30 := hC.2.1.2.2.2.1
  have c77 : rA (S.2.1 41) (X 77) 30 := hC.2.1.2.2.2.2.1
  have c78 : rA (S.2.1 42) (X 78) 180 := hC.2.1.2.2.2.2.2
  have c79 : S.1 3072 = dI (X 79 0) := hC.2.2.2.1.1
  have hE := hV.1
  have hw : X 79 0 < 2 ^ 31 := by have := hV.2.2.2.2.2.2.1; omega
  unfold aX10_open aX11_open
  by_cases hoff : ¬ X 79 0 = 0
  · have g : ¬ dI (X 79 0) = -1 := by rw [dI_off hw]; exact hoff
    have e1 : ∀ r, (uX10_open S (r, S.2.1 21, S.2.1 22, S.2.1 25, S.2.1 26, S.1 969, S.1 1024, S.2.1 17, S.2.1 18, S.2.1 19, S.2.1 20, S.2.1 23, S.2.1 24, S.1 968, S.2.1 27, S.1 2752, S.2.1 44, S.2.1 45, S.2.1 46, S.2.1 47, S.1 3072, S.1 3073, S.2.1 49, S.2.1 50, S.2.1 51, S.2.1 52)) = S := fun r => by
      unfold uX10_open
      dsimp only
      simp only [ns_A_id, ns_I_id]
    have e2 : ∀ r, uX11_open S (r, 0, S.2.1 103, S.2.1 104, S.2.1 105, S.2.1 79, S.2.1 80, S.2.1 81, S.2.1 82, S.2.1 83, S.2.1 84, S.2.1 85, S.2.1 86, S.2.1 87) = ns_I S 3968 0 := fun r => by
      unfold uX11_open
      dsimp only
      simp only [ns_A_id]
    refine ⟨_, _, ?_, ?_, ?_, by rw [e1 (-1), e2 (-1)]; exact (Rel_cd hR0).mono (Nat.le_succ n)⟩
    · unfold fX10_open
      rw [c79, isOn_eq hw, if_neg hoff, Option.bind_some, if_neg one_ne]
    · unfold fX11_open
      rw [ald0 (by omega) (by omega), m79, Option.bind_some, if_neg g]
    · rfl
  replace hoff : X 79 0 = 0 := Classical.not_not.mp hoff
  have g : S.2.1 79 0 = nM := by rw [m79, hoff]; rfl
  obtain ⟨tr', tp', th', a', b', c', d', e', g', h', f0, f1, f2, f3, f4, f5, f6, f7, f8, f9, f10, f11⟩ := openR (N := N) hN hE hV.2.1 (RS_of hM) m67 m65 m73 (cod := S.1 3968) g (S.2.1 80) (S.2.1 81) (S.2.1 82) (S.2.1 83) (S.2.1 84) (S.2.1 85) (S.2.1 86) (S.2.1 87) (S.2.1 104) (S.2.1 103) (S.2.1 105)
  obtain ⟨ro', co', ce', wd', rof', pla', ru', tb', tk', has', bar', hop', wp', k0, k1, k2⟩ := best_eq (N := N) hN hE (RS_ofC hC) (S.2.1 21) (S.2.1 22) (S.2.1 25) (S.2.1 26) (S.1 1024) (S.1 969) (S.2.1 17) (S.2.1 18) (S.2.1 19) (S.2.1 20) (S.2.1 23) (S.2.1 24) (S.1 968) (S.2.1 27)
  obtain ⟨r1, r2⟩ := RP_rD (best_ok hE).1 k1
  obtain ⟨s1, s2, s3, -⟩ := k2
  obtain ⟨has2, tk2, mv2, l0, l1, l2, l3, l4⟩ := moveUp_eq (N := N) hN (env_best hE) hV.2.1 c77 (rW_of c78) (rA_cpy (g := S.2.1 45) r2) c68 c76 (rA_cpy (g := S.2.1 47) s1) s2 (rA_cpy (g := S.2.1 46) s3) (mv := fun _ => 0) (rA_fil (f := S.2.1 49))
  rw [sm_zero] at l0
  have fC : fX10_open N (S.1 3072) (S.1 1856) (S.2.1 21) (S.2.1 30) (S.1 1984) (S.2.1 22) (S.2.1 35) (S.2.1 25) (S.2.1 32) (S.1 2368) (S.2.1 26) (S.2.1 41) (S.2.1 42) (S.1 969) (S.2.1 34) (S.1 1024) (S.2.1 17) (S.2.1 18) (S.2.1 19) (S.2.1 20) (S.2.1 23) (S.2.1 24) (S.2.1 33) (S.1 968) (S.2.1 27) (S.2.1 40) (S.1 2752) (S.2.1 44) (S.2.1 45) (S.2.1 46) (S.2.1 47) (S.1 3073) (S.2.1 49) (S.2.1 50) (S.2.1 51) (S.2.1 52) = some (nI (bestS (X 65 0) (X 67 0) (X 73 0) (X 66) (X 71) (X 68) (X 69) (X 70) (X 77) (X 76) (WX X)).2, ro', co', ce', wd', hop', nI (bestS (X 65 0) (X 67 0) (X 73 0) (X 66) (X 71) (X 68) (X 69) (X 70) (X 77) (X 76) (WX X)).1, rof', pla', tk', has', ru', tb', wp', bar', nI (bestS (X 65 0) (X 67 0) (X 73 0) (X 66) (X 71) (X 68) (X 69) (X 70) (X 77) (X 76) (WX X)).1, va_cpy rof' (S.2.1 44) 0 0 10, va_cpy pla' (S.2.1 45) 0 0 10, tk2, has2, 0, nI (sm (mu0 (X 65 0) (X 67 0) (X 73 0) (X 66) (X 71) (X 68) (X 69) (X 70) (X 77) (X 76) (WX X)).2 (X 73 0)), mv2, fil (S.2.1 50) 10 0, fil (S.2.1 51) 6 0, fil (S.2.1 52) 5 0) := by
    unfold fX10_open
    rw [c79, isOn_eq hw, if_pos hoff, Option.bind_some, if_pos (rfl : (0 : Int32) = 0), c65, c67, c73, k0, Option.bind_some]
    unfold fX7_copyFrom fX8_beginAnew
    simp only [cp10, cp30, fill_eq (show 30 < 1000 by decide) (show 30 < N by omega), fill_eq (show 10 < 1000 by decide) (show 10 < N by omega), fill_eq (show 6 < 1000 by decide) (show 6 < N by omega), fill_eq (show 5 < 1000 by decide) (show 5 < N by omega), Option.bind_some]
    have l0' : fX6_moveUp N (nI (X 73 0)) (S.2.1 41) (S.2.1 42) (va_cpy tk' (S.2.1 46) 0 0 10) (va_cpy pla' (S.2.1 45) 0 0 10) (va_cpy has' (S.2.1 47) 0 0 30) (nI (bestS (X 65 0) (X 67 0) (X 73 0) (X 66) (X 71) (X 68) (X 69) (X 70) (X 77) (X 76) (WX X)).1) (S.2.1 32) (nI (X 67 0)) (S.2.1 40) (fil (S.2.1 49) 30 0) 0 = _ := l0
    rw [l0']
    rfl
  have hmu : HI (X 73 0) (bestS (X 65 0) (X 67 0) (X 73 0) (X 66) (X 71) (X 68) (X 69) (X 70) (X 77) (X 76) (WX X)).1 (X 77) (WX X) (mu0 (X 65 0) (X 67 0) (X 73 0) (X 66) (X 71) (X 68) (X 69) (X 70) (X 77) (X 76) (WX X)) := by
    refine mus_HI 1080 _ ⟨fun p hp c hc => ?_, fun p hp hq => ⟨?_, rfl⟩⟩
    · have q := P3_sub (nr := X 65 0) (nc := X 67 0) (np := X 73 0) (set := (bestS (X 65 0) (X 67 0) (X 73 0) (X 66) (X 71) (X 68) (X 69) (X 70) (X 77) (X 76) (WX X)).1) (se := X 66) (mo := X 71) (ev := X 68) (nw := X 77) (wa := X 76) (W := WX X) (fun p hp => (hE.2.2.2.2.2.2 p hp).2.2) p
      by_cases z : p < X 73 0
      · exact q.1 z c hc
      · have hc' := hc
        rw [q.2 z, Nat.zero_testBit] at hc'
        cases hc'
    · have q := P3_sub (nr := X 65 0) (nc := X 67 0) (np := X 73 0) (set := (bestS (X 65 0) (X 67 0) (X 73 0) (X 66) (X 71) (X 68) (X 69) (X 70) (X 77) (X 76) (WX X)).1) (se := X 66) (mo := X 71) (ev := X 68) (nw := X 77) (wa := X 76) (W := WX X) (fun p hp => (hE.2.2.2.2.2.2 p hp).2.2) p
      exact q.2 (by omega)
  refine ⟨_, _, fC, f0, rfl, ⟨⟨va_up (va_up (va_up (va_up (va_up (va_up (va_up (va_up (va_up X 87 (fun _ => 0)) 86 (fun _ => 0)) 85 (mu0 (X 65 0) (X 67 0) (X 73 0) (X 66) (X 71) (X 68) (X 69) (X 70) (X 77) (X 76) (WX X)).2) 84 (mu0 (X 65 0) (X 67 0) (X 73 0) (X 66) (X 71) (X 68) (X 69) (X 70) (X 77) (X 76) (WX X)).1) 83 (fun _ => 0)) 82 (plO (X 65 0) (X 67 0) (X 66) (X 71) (X 68) (bestS (X 65 0) (X 67 0) (X 73 0) (X 66) (X 71) (X 68) (X 69) (X 70) (X 77) (X 76) (WX X)).1)) 81 (roO (X 65 0) (X 67 0) (X 66) (X 71) (X 68) (bestS (X 65 0) (X 67 0) (X 73 0) (X 66) (X 71) (X 68) (X 69) (X 70) (X 77) (X 76) (WX X)).1)) 80 (fun _ => (bestS (X 65 0) (X 67 0) (X 73 0) (X 66) (X 71) (X 68) (X 69) (X 70) (X 77) (X 76) (WX X)).1)) 79 (fun _ => 1), ?_, ⟨hC.1, hC.2.1, ⟨rfl, rD_cpy r1, rA_cpy r2, l3, l1⟩, ⟨rfl, rfl, l4, rA_fil, rA_fil, rA_fil⟩, hC.2.2.2.2⟩, ?_⟩, hT, Im_fr (S := S) ⟨all31 kp.rf kp.rf kp.rf kp.rf kp.rf kp.rf kp.rf kp.rf kp.rf kp.rf kp.rf kp.rf kp.rf kp.rf (kp.up (by decide)) (kp.up (by decide)) (f2) (f4) (f5.2) (f7) (f9) (f10.2) (f11.2) kp.rf kp.rf kp.rf kp.rf kp.rf kp.rf kp.rf kp.rf, by intro i hi; simp (disch := omega) only [uX11_open, uX10_open, ns_A, ns_I, va_up_ne], by intro u hu; simp (disch := omega) only [uX11_open, uX10_open, ns_A, ns_I, va_up_ne], rfl⟩ (Nat.le_succ n) hI⟩⟩
  · refine all31 (hM 65 (by decide) (by decide)) (hM 66 (by decide) (by decide)) (hM 67 (by decide) (by decide)) (hM 68 (by decide) (by decide)) (hM 69 (by decide) (by decide)) (hM 70 (by decide) (by decide)) (hM 71 (by decide) (by decide)) (hM 72 (by decide) (by decide)) (hM 73 (by decide) (by decide)) (hM 74 (by decide) (by decide)) (hM 75 (by decide) (by decide)) (hM 76 (by decide) (by decide)) (hM 77 (by decide) (by decide)) (hM 78 (by decide) (by decide)) (fun j hj => ?_) (fun j hj => ?_) (fun j hj => f1 j (szM_le hj hE.2.1)) (f3) (rA_fi f5) (f6) (f8) (rA_fi f10) (rA_fi f11) (hM 88 (by decide) (by decide)) (hM 89 (by decide) (by decide)) (hM 90 (by decide) (by decide)) (hM 91 (by decide) (by decide)) (hM 92 (by decide) (by decide)) (hM 93 (by decide) (by decide)) (hM 94 (by decide) (by decide)) (hM 95 (by decide) (by decide))
    · obtain rfl : j = 0 := by have : j < 1 := hj; omega
      rfl
    · obtain rfl : j = 0 := by have : j < 1 := hj; omega
      rfl
  · refine ⟨hE, hV.2.1, hV.2.2.1, ⟨(best_ok hE).1, hmu.1, hmu.2, fun c hc => ⟨fun hb => ?_, ?_⟩⟩, fun h => absurd (show (1 : Nat) = 0 from h) (by decide), ?_, Nat.succ_le_succ (Nat.zero_le n), hV.2.2.2.2.2.2.2⟩
    · show 1 ≤ roO _ _ _ _ _ _ c ∧ roO _ _ _ _ _ _ c ≤ 5
      unfold roO
      rw [if_pos (show (bestS (X 65 0) (X 67 0) (X 73 0) (X 66) (X 71) (X 68) (X 69) (X 70) (X 77) (X 76) (WX X)).1.testBit c = true from hb)]
      have := rmS_lt (nr := X 65 0) (se := X 66) (a := aho (X 67 0) (X 71) (X 68) (bestS (X 65 0) (X 67 0) (X 73 0) (X 66) (X 71) (X 68) (X 69) (X 70) (X 77) (X 76) (WX X)).1 c) hE.1
      omega
    · show plO _ _ _ _ _ _ c < 100
      unfold plO
      split
      · exact plS_lt hE c hc
      · decide
    · exact mus_end (env_best hE) hV.2.1 1080 _ (by omega)
theorem op_close (hN : 20000 ≤ N) (hn : n < 2 ^ 31) (hR : Rel S n) : ∃ o1 o2, aX10_close N S = some o1 ∧ aX11_close N S = some o2 ∧ o1.1 = o2.1 ∧ Rel (uX11_close (uX10_close S o1) o2) n := by
  have hR0 := hR
  obtain ⟨⟨X, hM, hC, hV⟩, hT, hI⟩ := hR
  have m79 : S.2.1 79 0 = dI (X 79 0) := hM 79 (by decide) (by decide) 0 Nat.one_pos
  have c79 : S.1 3072 = dI (X 79 0) := hC.2.2.2.1.1
  have hE := hV.1
  have hw : X 79 0 < 2 ^ 31 := by have := hV.2.2.2.2.2.2.1; omega
  unfold aX10_close aX11_close
  by_cases hoff : X 79 0 = 0
  · have g : dI (X 79 0) = -1 := by rw [dI_off hw]; exact hoff
    have e1 : ∀ r, (uX10_close S (r, S.1 2752, S.2.1 44, S.2.1 45, S.2.1 46, S.2.1 47, S.1 3072, S.1 3073, S.2.1 49, S.2.1 50, S.2.1 51, S.2.1 52)) = S := fun r => by
      unfold uX10_close
      dsimp only
      simp only [ns_A_id, ns_I_id]
    have e2 : ∀ r, uX11_close S (r, 0, S.2.1 79, S.2.1 80, S.2.1 81, S.2.1 82, S.2.1 83, S.2.1 84, S.2.1 85, S.2.1 86, S.2.1 87) = ns_I S 3968 0 := fun r => by
      unfold uX11_close
      dsimp only
      simp only [ns_A_id]
    refine ⟨_, _, ?_, ?_, ?_, by rw [e1 (-1), e2 (-1)]; exact Rel_cd hR0⟩
    · unfold fX10_close
      rw [c79, isOn_eq hw, if_pos hoff, Option.bind_some, if_pos (rfl : (0 : Int32) = 0)]
    · unfold fX11_close
      rw [ald0 (by omega) (by omega), m79, Option.bind_some, if_pos g]
    · rfl
  have g : ¬ dI (X 79 0) = -1 := by rw [dI_off hw]; exact hoff
  obtain ⟨a', b', c', d', e', g', h', f0, f1, f2, f3, f4, f5, f6, f7⟩ := begins_eq (N := N) (by omega) (S.2.1 81) (S.2.1 82) (S.2.1 83) (S.2.1 84) (S.2.1 85) (S.2.1 86) (S.2.1 87)
  unfold fX10_close fX11_close fX7_clear fX8_beginAnew
  rw [c79, isOn_eq hw, if_neg hoff, Option.bind_some, if_neg one_ne, ald0 (by omega) (by omega), m79, Option.bind_some, if_neg g]
  simp only [fill_eq (show 30 < 1000 by decide) (show 30 < N by omega), fill_eq (show 10 < 1000 by decide) (show 10 < N by omega), fill_eq (show 6 < 1000 by decide) (show 6 < N by omega), fill_eq (show 5 < 1000 by decide) (show 5 < N by omega), Option.bind_some, f0, m79, ast0 (show 0 < 4 by omega) (show 4 < 1000 by omega)]
  refine ⟨_, _, rfl, rfl, rfl, ⟨⟨va_up (va_up (va_up (va_up (va_up (va_up (va_up (va_up (va_up X 87 (fun _ => 0)) 86 (fun _ => 0)) 85 (fun _ => 0)) 84 (fun _ => 0)) 83 (fun _ => 0)) 82 (fun _ => 0)) 81 (fun _ => 0)) 80 (fun _ => 0)) 79 (fun _ => 0), ?_, ⟨hC.1, hC.2.1, ⟨rfl, fun j hj => fil_in hj, rA_fil, ?_, rA_fil⟩, ⟨rfl, ?_, rA_fil, rA_fil, rA_fil, rA_fil⟩, hC.2.2.2.2⟩, ?_⟩, hT, Im_fr (S := S) ⟨all31 kp.rf kp.rf kp.rf kp.rf kp.rf kp.rf kp.rf kp.rf kp.rf kp.rf kp.rf kp.rf kp.rf kp.rf (kp.up (by decide)) (kp.up (by decide)) (f1.2) (f2.2) (f3.2) (f4.2) (f5.2) (f6.2) (f7.2) kp.rf kp.rf kp.rf kp.rf kp.rf kp.rf kp.rf kp.rf, by intro i hi; simp (disch := omega) only [uX11_close, uX10_close, ns_A, ns_I, va_up_ne], by intro u hu; simp (disch := omega) only [uX11_close, uX10_close, ns_A, ns_I, va_up_ne], rfl⟩ (Nat.le_refl n) hI⟩⟩
  · refine all31 (hM 65 (by decide) (by decide)) (hM 66 (by decide) (by decide)) (hM 67 (by decide) (by decide)) (hM 68 (by decide) (by decide)) (hM 69 (by decide) (by decide)) (hM 70 (by decide) (by decide)) (hM 71 (by decide) (by decide)) (hM 72 (by decide) (by decide)) (hM 73 (by decide) (by decide)) (hM 74 (by decide) (by decide)) (hM 75 (by decide) (by decide)) (hM 76 (by decide) (by decide)) (hM 77 (by decide) (by decide)) (hM 78 (by decide) (by decide)) (fun j hj => ?_) (fun j hj => ?_) (fun j hj => f1.1 j (szM_le hj hE.2.1)) (rA_fi f2) (rA_fi f3) (rA_fi f4) (rA_fi f5) (rA_fi f6) (rA_fi f7) (hM 88 (by decide) (by decide)) (hM 89 (by decide) (by decide)) (hM 90 (by decide) (by decide)) (hM 91 (by decide) (by decide)) (hM 92 (by decide) (by decide)) (hM 93 (by decide) (by decide)) (hM 94 (by decide) (by decide)) (hM 95 (by decide) (by decide))
    · obtain rfl : j = 0 := by have : j < 1 := hj; omega
      rfl
    · obtain rfl : j = 0 := by have : j < 1 := hj; omega
      rfl
  · exact rA_congr rA_fil (fun c hc => (cnt_0 c _).symm)
  · show (0 : Int32) = nI (sm (fun _ => 0) _)
    rw [sm_zero]; rfl
  · refine ⟨hE, hV.2.1, hV.2.2.1, ⟨Nat.two_pow_pos _, fun p hp c hc => ?_, fun p hp hq => ⟨rfl, rfl⟩, fun c hc => ⟨fun hb => ?_, show (0 : Nat) < 100 by decide⟩⟩, fun h => ⟨rfl, fun _ _ => ⟨rfl, rfl, rfl⟩, fun _ _ => ⟨rfl, rfl⟩, fun _ _ => rfl, fun _ _ => rfl⟩, stp_off, Nat.zero_le n, hV.2.2.2.2.2.2.2⟩
    · have hc' : (0 : Nat).testBit c = true := hc
      rw [Nat.zero_testBit] at hc'; cases hc'
    · have hc' : (0 : Nat).testBit c = true := hb
      rw [Nat.zero_testBit] at hc'; cases hc'
end O2
