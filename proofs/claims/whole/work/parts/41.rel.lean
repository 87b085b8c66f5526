/-! THE RELATION of class and reference -/
def szs (c : Nat) : Nat := [1, 5, 1, 10, 10, 10, 10, 10, 1, 30, 30, 30, 30, 180, 1, 1, 10, 10, 10, 30, 30, 6, 5, 1, 16, 64, 64, 64, 16, 16, 16].getD (c - 65) 0
def en (c v : Nat) : Int32 := if c = 79 ∨ c = 81 then dI v else nI v
/-- a school: its rows by the number of the reference's row; week and room are one more, 0 is NONE -/
abbrev SX : Type := Nat → Nat → Nat
/-- how much of a row counts: of the rooms of courses, without a term, those of the courses that there are -/
def szM (X : SX) (c : Nat) : Nat := if c = 81 ∧ X 79 0 = 0 then X 67 0 else szs c
theorem szM_on {X : SX} (h : ¬ X 79 0 = 0) : szM X 81 = 10 := if_neg (fun z => h z.2)
theorem szM_le {X : SX} {j : Nat} (hj : j < szM X 81) (h : X 67 0 ≤ 10) : j < 10 := by
  unfold szM at hj
  by_cases c : 81 = 81 ∧ X 79 0 = 0
  · rw [if_pos c] at hj; omega
  · rw [if_neg c] at hj; exact hj
theorem szM_ge {X : SX} {j : Nat} (h : X 67 0 ≤ 10) (hj : j < X 67 0) : j < szM X 81 := by
  unfold szM
  by_cases c : 81 = 81 ∧ X 79 0 = 0
  · rw [if_pos c]; exact hj
  · rw [if_neg c]; show j < 10; omega
def M0 (S : ns_S) (X : SX) : Prop := ∀ c, 65 ≤ c → c < 96 → ∀ j, j < szM X c → S.2.1 c j = en c (X c j)
def MB (S : ns_S) (k : Nat) (X : SX) : Prop := ∀ c, 65 ≤ c → c < 96 → ∀ j, j < szM X c → S.2.1 c (szs c * k + j) = en c (X c j)
def WX (X : SX) (p k : Nat) : Nat := X 78 (p * 6 + k)
def C1 (S : ns_S) (B : Nat) (X : SX) : Prop := S.1 (64 * (B + 1)) = nI (X 65 0) ∧ rA (S.2.1 (B + 2)) (X 66) 5 ∧ S.1 (64 * (B + 3)) = nI (X 67 0) ∧ rA (S.2.1 (B + 4)) (X 68) 10 ∧ rA (S.2.1 (B + 5)) (X 69) 10 ∧ rA (S.2.1 (B + 6)) (X 70) 10 ∧ rA (S.2.1 (B + 7)) (X 71) 10 ∧ rA (S.2.1 (B + 8)) (X 72) 10
def C2 (S : ns_S) (B : Nat) (X : SX) : Prop := S.1 (64 * (B + 9)) = nI (X 73 0) ∧ rA (S.2.1 (B + 10)) (X 74) 30 ∧ rA (S.2.1 (B + 11)) (X 75) 30 ∧ rA (S.2.1 (B + 12)) (X 76) 30 ∧ rA (S.2.1 (B + 13)) (X 77) 30 ∧ rA (S.2.1 (B + 14)) (X 78) 180
def C3 (S : ns_S) (B : Nat) (X : SX) : Prop := S.1 (64 * (B + 15)) = nI (X 80 0) ∧ rD (S.2.1 (B + 16)) (X 81) 10 ∧ rA (S.2.1 (B + 17)) (X 82) 10 ∧ rA (S.2.1 (B + 18)) (fun c => cnt (X 84) c (X 73 0)) 10 ∧ rA (S.2.1 (B + 19)) (X 84) 30
def C4 (S : ns_S) (B : Nat) (X : SX) : Prop := S.1 (64 * (B + 20)) = dI (X 79 0) ∧ S.1 (64 * (B + 20) + 1) = nI (sm (X 85) (X 73 0)) ∧ rA (S.2.1 (B + 21)) (X 85) 30 ∧ rA (S.2.1 (B + 22)) (X 83) 10 ∧ rA (S.2.1 (B + 23)) (X 86) 6 ∧ rA (S.2.1 (B + 24)) (X 87) 5
def C5 (S : ns_S) (B : Nat) (X : SX) : Prop := S.1 (64 * (B + 25)) = nI (X 88 0) ∧ ∀ l, l < X 88 0 → S.2.1 (B + 26) l = nI (X 93 l + 201) ∧ (X 93 l < 13 → S.2.1 (B + 27) l = nI (X 94 l)) ∧ (X 93 l = 10 → S.2.1 (B + 28) l = nI (X 95 l)) ∧ S.2.1 (B + 29) l = nI (X 89 l) ∧ ∀ t, t < X 89 l → S.2.1 (B + 30) (l * 4 + t) = nI (X 90 (l * 4 + t) + 201) ∧ S.2.1 (B + 31) (l * 4 + t) = nI (X 91 (l * 4 + t)) ∧ S.2.1 (B + 32) (l * 4 + t) = nI (X 92 (l * 4 + t))
def CB (S : ns_S) (B : Nat) (X : SX) : Prop := C1 S B X ∧ C2 S B X ∧ C3 S B X ∧ C4 S B X ∧ C5 S B X
/-- the fees are such as the language has -/
def FE (X : SX) : Prop := X 88 0 ≤ 16 ∧ ∀ l, l < X 88 0 → X 89 l ≤ 4 ∧ 8 ≤ X 93 l ∧ X 93 l ≤ 14 ∧ (X 93 l < 13 → X 94 l < 100000) ∧ (X 93 l = 10 → 1 ≤ X 95 l ∧ X 95 l < 100000) ∧ ∀ t, t < X 89 l → (2 ≤ X 90 (l * 4 + t) ∧ X 90 (l * 4 + t) ≤ 7) ∧ (60 ≤ X 91 (l * 4 + t) ∧ X 91 (l * 4 + t) ≤ 62) ∧ X 92 (l * 4 + t) < 100000
abbrev EX (X : SX) : Prop := EnvS (X 65 0) (X 67 0) (X 73 0) (X 66) (X 71) (X 68) (X 69) (X 70) (X 77) (X 76) (WX X)
abbrev sX (X : SX) : HM → Option HM := stp (X 73 0) (X 67 0) (X 80 0) (X 77) (X 76) (X 82) (X 68) (WX X)
def IJ (X : SX) : Prop := ∀ p, p < 30 → ∀ i j, i < X 77 p → j < X 77 p → WX X p i = WX X p j → i = j
/-- what courses and pupils have beside EX -/
def IA (X : SX) : Prop := (∀ c, c < 10 → X 72 c < 100000) ∧ (∀ p, p < 30 → X 74 p < 1000 ∧ X 75 p < 1000) ∧ (∀ p, p < 30 → X 73 0 ≤ p → X 77 p = 0)
/-- what is held and had -/
def IH (X : SX) : Prop := X 80 0 < 2 ^ X 67 0 ∧ (∀ p, p < 30 → ∀ c, (X 84 p).testBit c = true → (X 80 0).testBit c = true ∧ ∃ k, k < X 77 p ∧ WX X p k = c) ∧ (∀ p, p < 30 → X 73 0 ≤ p → X 84 p = 0 ∧ X 85 p = 0) ∧ (∀ c, c < 10 → ((X 80 0).testBit c = true → 1 ≤ X 81 c ∧ X 81 c ≤ 5) ∧ X 82 c < 100)
/-- without a term all is empty -/
def IO (X : SX) : Prop := X 79 0 = 0 → X 80 0 = 0 ∧ (∀ c, c < 10 → X 81 c = 0 ∧ X 82 c = 0 ∧ X 83 c = 0) ∧ (∀ p, p < 30 → X 84 p = 0 ∧ X 85 p = 0) ∧ (∀ t, t < 6 → X 86 t = 0) ∧ (∀ r, r < 5 → X 87 r = 0)
def IV (X : SX) (n : Nat) : Prop := EX X ∧ IJ X ∧ IA X ∧ IH X ∧ IO X ∧ sX X (X 84, X 85) = none ∧ X 79 0 ≤ n ∧ FE X
def Sch (S : ns_S) (k B n : Nat) : Prop := ∃ X, MB S k X ∧ CB S B X ∧ IV X n
def Im (S : ns_S) (n : Nat) : Prop := ∀ k, k < 3 → (S.2.2.2 k = true ∧ S.2.1 106 k = 1 ∧ Sch S (k + 1) (107 + 33 * k) n) ∨ (S.2.2.2 k = false ∧ S.2.1 106 k = 0)
def Tp (S : ns_S) : Prop := (∀ j, j < 500 → S.2.1 63 j = S.2.1 1 j ∧ -128 ≤ (S.2.1 1 j).toInt ∧ (S.2.1 1 j).toInt < 128) ∧ (∃ t, t ≤ 500 ∧ S.1 1 = nI t ∧ S.1 3970 = nI t) ∧ S.1 130 = S.1 4008 ∧ S.1 131 = S.1 4009
def Rel (S : ns_S) (n : Nat) : Prop := (∃ X, M0 S X ∧ CB S 28 X ∧ IV X n) ∧ Tp S ∧ Im S n
/-- what no call but image and again touches -/
def FR (S S' : ns_S) : Prop := (∀ c, 65 ≤ c → c < 96 → kp (S.2.1 c) (S'.2.1 c) (szs c)) ∧ (∀ i, 106 ≤ i → S'.2.1 i = S.2.1 i) ∧ (∀ u, 6848 ≤ u → S'.1 u = S.1 u) ∧ S'.2.2.2 = S.2.2.2
theorem all31 {P : Nat → Prop} (h65 : P 65) (h66 : P 66) (h67 : P 67) (h68 : P 68) (h69 : P 69) (h70 : P 70) (h71 : P 71) (h72 : P 72) (h73 : P 73) (h74 : P 74) (h75 : P 75) (h76 : P 76) (h77 : P 77) (h78 : P 78) (h79 : P 79) (h80 : P 80) (h81 : P 81) (h82 : P 82) (h83 : P 83) (h84 : P 84) (h85 : P 85) (h86 : P 86) (h87 : P 87) (h88 : P 88) (h89 : P 89) (h90 : P 90) (h91 : P 91) (h92 : P 92) (h93 : P 93) (h94 : P 94) (h95 : P 95) : ∀ c, 65 ≤ c → c < 96 → P c := by
  intro c h1 h2
  have h3 : c = 65 ∨ c = 66 ∨ c = 67 ∨ c = 68 ∨ c = 69 ∨ c = 70 ∨ c = 71 ∨ c = 72 ∨ c = 73 ∨ c = 74 ∨ c = 75 ∨ c = 76 ∨ c = 77 ∨ c = 78 ∨ c = 79 ∨ c = 80 ∨ c = 81 ∨ c = 82 ∨ c = 83 ∨ c = 84 ∨ c = 85 ∨ c = 86 ∨ c = 87 ∨ c = 88 ∨ c = 89 ∨ c = 90 ∨ c = 91 ∨ c = 92 ∨ c = 93 ∨ c = 94 ∨ c = 95 := by omega
  rcases h3 with e | e | e | e | e | e | e | e | e | e | e | e | e | e | e | e | e | e | e | e | e | e | e | e | e | e | e | e | e | e | e <;> subst e <;> assumption
theorem IV.mono {X : SX} {n n' : Nat} (h : IV X n) (hn : n ≤ n') : IV X n' := ⟨h.1, h.2.1, h.2.2.1, h.2.2.2.1, h.2.2.2.2.1, h.2.2.2.2.2.1, Nat.le_trans h.2.2.2.2.2.2.1 hn, h.2.2.2.2.2.2.2⟩
theorem CB_fr {S S' : ns_S} {B : Nat} {X : SX} (hA : ∀ i, B ≤ i → i < B + 33 → S'.2.1 i = S.2.1 i) (hI : ∀ u, 64 * B ≤ u → u < 64 * (B + 33) → S'.1 u = S.1 u) (h : CB S B X) : CB S' B X := by
  simp (disch := omega) only [CB, C1, C2, C3, C4, C5, hA, hI]
  exact h
theorem MB_fr {S S' : ns_S} {k : Nat} {X : SX} (hf : FR S S') (h : MB S (k + 1) X) : MB S' (k + 1) X := by
  intro c h1 h2 j hj
  rw [hf.1 c h1 h2 _ (by rw [Nat.mul_add]; omega)]
  exact h c h1 h2 j hj
theorem Im_fr {S S' : ns_S} {n n' : Nat} (hf : FR S S') (hn : n ≤ n') (h : Im S n) : Im S' n' := by
  intro k hk
  rw [hf.2.2.2, hf.2.1 106 (by omega)]
  rcases h k hk with ⟨a, b, X, c, d, e⟩ | ⟨a, b⟩
  · refine Or.inl ⟨a, b, X, MB_fr hf c, CB_fr (fun i h1 h2 => hf.2.1 i (by omega)) (fun u h1 h2 => hf.2.2.1 u (by omega)) d, e.mono hn⟩
  · exact Or.inr ⟨a, b⟩
theorem FR.rf {S : ns_S} : FR S S := ⟨fun _ _ _ => kp.rf, fun _ _ => rfl, fun _ _ => rfl, rfl⟩
theorem FR.cd {S : ns_S} {v : Int32} : FR S (ns_I S 3968 v) := ⟨fun _ _ _ => kp.rf, fun _ _ => rfl, fun u hu => va_up_ne _ _ (by omega), rfl⟩
theorem rW_of {f : Nat → Int32} {X : SX} (h : rA f (X 78) 180) : rW f (WX X) := fun p hp k hk => h (p * 6 + k) (by omega)
theorem RS_of {S : ns_S} {X : SX} (h : M0 S X) : RS (X 66) (X 71) (X 68) (X 69) (X 70) (X 77) (X 76) (WX X) (S.2.1 66) (S.2.1 71) (S.2.1 68) (S.2.1 69) (S.2.1 70) (S.2.1 77) (S.2.1 78) (S.2.1 76) :=
  ⟨h 66 (by decide) (by decide), h 71 (by decide) (by decide), h 68 (by decide) (by decide), h 69 (by decide) (by decide), h 70 (by decide) (by decide), h 77 (by decide) (by decide), rW_of (h 78 (by decide) (by decide)), h 76 (by decide) (by decide)⟩
theorem RS_ofC {S : ns_S} {X : SX} (h : CB S 28 X) : RS (X 66) (X 71) (X 68) (X 69) (X 70) (X 77) (X 76) (WX X) (S.2.1 30) (S.2.1 35) (S.2.1 32) (S.2.1 33) (S.2.1 34) (S.2.1 41) (S.2.1 42) (S.2.1 40) :=
  ⟨h.1.2.1, h.1.2.2.2.2.2.2.1, h.1.2.2.2.1, h.1.2.2.2.2.1, h.1.2.2.2.2.2.1, h.2.1.2.2.2.2.1, rW_of h.2.1.2.2.2.2.2, h.2.1.2.2.2.1⟩
theorem E0_of {X : SX} {n : Nat} (h : IV X n) : Env0 (X 73 0) (X 67 0) (X 80 0) (X 77) (X 76) (X 82) (X 68) (WX X) := by
  obtain ⟨hE, hJ, hA, hH, hO, hs, hn, hF⟩ := h
  have hp : 2 ^ X 67 0 ≤ 1024 := Nat.pow_le_pow_right (n := 2) (by decide) hE.2.1
  have := hH.1
  exact ⟨hE.2.2.1, hE.2.1, by omega, fun p hp => ⟨(hE.2.2.2.2.2.2 p hp).1, (hE.2.2.2.2.2.2 p hp).2.1⟩, fun p hp k hk => by have := (hE.2.2.2.2.2.2 p hp).2.2 k hk; have := hE.2.1; omega, fun c hc => ⟨by have := (hE.2.2.2.2.1 c hc).2.2.1; omega, (hH.2.2.2 c hc).2⟩⟩
theorem hs_lt {X : SX} {n : Nat} (h : IV X n) : ∀ p, p < 30 → X 84 p < 1024 := by
  intro p hp
  have h1 := (E0_of h).2.2.1
  have h2 := h.2.2.2.1.2.1 p hp
  refine Nat.lt_pow_two_of_testBit (n := 10) _ (fun i hi => ?_)
  by_cases q : (X 84 p).testBit i = true
  · have h3 := (h2 i q).1
    rw [Nat.testBit_lt_two_pow (Nat.lt_of_lt_of_le h1 (Nat.pow_le_pow_right (n := 2) (by decide) hi))] at h3
    cases h3
  · exact Bool.eq_false_iff.mpr q
