/-! a school's copy, and images: the pure part -/
noncomputable def cpF (N : Nat) (S : ns_S) (A B : Nat) : Option (Int32 × (Nat → Int32) × Int32 × (Nat → Int32) × (Nat → Int32) × (Nat → Int32) × (Nat → Int32) × (Nat → Int32) × Int32 × (Nat → Int32) × (Nat → Int32) × (Nat → Int32) × (Nat → Int32) × (Nat → Int32) × Int32 × (Nat → Int32) × (Nat → Int32) × (Nat → Int32) × (Nat → Int32) × Int32 × Int32 × (Nat → Int32) × (Nat → Int32) × (Nat → Int32) × (Nat → Int32) × Int32 × (Nat → Int32) × (Nat → Int32) × (Nat → Int32) × (Nat → Int32) × (Nat → Int32) × (Nat → Int32) × (Nat → Int32)) := fX6_copyFrom N (S.1 (64 * (A + 1))) (S.1 (64 * (B + 1))) (S.2.1 (A + 2)) (S.2.1 (B + 2)) (S.1 (64 * (A + 3))) (S.1 (64 * (B + 3))) (S.2.1 (A + 4)) (S.2.1 (B + 4)) (S.2.1 (A + 5)) (S.2.1 (B + 5)) (S.2.1 (A + 6)) (S.2.1 (B + 6)) (S.2.1 (A + 7)) (S.2.1 (B + 7)) (S.2.1 (A + 8)) (S.2.1 (B + 8)) (S.1 (64 * (A + 9))) (S.1 (64 * (B + 9))) (S.2.1 (A + 10)) (S.2.1 (B + 10)) (S.2.1 (A + 11)) (S.2.1 (B + 11)) (S.2.1 (A + 12)) (S.2.1 (B + 12)) (S.2.1 (A + 13)) (S.2.1 (B + 13)) (S.2.1 (A + 14)) (S.2.1 (B + 14)) (S.1 (64 * (A + 15))) (S.1 (64 * (B + 15))) (S.2.1 (A + 16)) (S.2.1 (B + 16)) (S.2.1 (A + 17)) (S.2.1 (B + 17)) (S.2.1 (A + 18)) (S.2.1 (B + 18)) (S.2.1 (A + 19)) (S.2.1 (B + 19)) (S.1 (64 * (A + 20))) (S.1 (64 * (B + 20))) (S.1 (64 * (A + 20) + 1)) (S.1 (64 * (B + 20) + 1)) (S.2.1 (A + 21)) (S.2.1 (B + 21)) (S.2.1 (A + 22)) (S.2.1 (B + 22)) (S.2.1 (A + 23)) (S.2.1 (B + 23)) (S.2.1 (A + 24)) (S.2.1 (B + 24)) (S.1 (64 * (A + 25))) (S.1 (64 * (B + 25))) (S.2.1 (A + 26)) (S.2.1 (B + 26)) (S.2.1 (A + 27)) (S.2.1 (B + 27)) (S.2.1 (A + 28)) (S.2.1 (B + 28)) (S.2.1 (A + 29)) (S.2.1 (B + 29)) (S.2.1 (A + 30)) (S.2.1 (B + 30)) (S.2.1 (A + 31)) (S.2.1 (B + 31)) (S.2.1 (A + 32)) (S.2.1 (B + 32))
def cpD (B : Nat) (S : ns_S) (o : Int32 × (Nat → Int32) × Int32 × (Nat → Int32) × (Nat → Int32) × (Nat → Int32) × (Nat → Int32) × (Nat → Int32) × Int32 × (Nat → Int32) × (Nat → Int32) × (Nat → Int32) × (Nat → Int32) × (Nat → Int32) × Int32 × (Nat → Int32) × (Nat → Int32) × (Nat → Int32) × (Nat → Int32) × Int32 × Int32 × (Nat → Int32) × (Nat → Int32) × (Nat → Int32) × (Nat → Int32) × Int32 × (Nat → Int32) × (Nat → Int32) × (Nat → Int32) × (Nat → Int32) × (Nat → Int32) × (Nat → Int32) × (Nat → Int32)) : ns_S := (ns_I (ns_A (ns_I (ns_A (ns_A (ns_A (ns_A (ns_A (ns_I (ns_A (ns_A (ns_A (ns_A (ns_A (ns_I (ns_A (ns_A (ns_A (ns_A (ns_I (ns_I (ns_A (ns_A (ns_A (ns_A (ns_I (ns_A (ns_A (ns_A (ns_A (ns_A (ns_A (ns_A S (B + 32) o.2.2.2.2.2.2.2.2.2.2.2.2.2.2.2.2.2.2.2.2.2.2.2.2.2.2.2.2.2.2.2.2) (B + 31) o.2.2.2.2.2.2.2.2.2.2.2.2.2.2.2.2.2.2.2.2.2.2.2.2.2.2.2.2.2.2.2.1) (B + 30) o.2.2.2.2.2.2.2.2.2.2.2.2.2.2.2.2.2.2.2.2.2.2.2.2.2.2.2.2.2.2.1) (B + 29) o.2.2.2.2.2.2.2.2.2.2.2.2.2.2.2.2.2.2.2.2.2.2.2.2.2.2.2.2.2.1) (B + 28) o.2.2.2.2.2.2.2.2.2.2.2.2.2.2.2.2.2.2.2.2.2.2.2.2.2.2.2.2.1) (B + 27) o.2.2.2.2.2.2.2.2.2.2.2.2.2.2.2.2.2.2.2.2.2.2.2.2.2.2.2.1) (B + 26) o.2.2.2.2.2.2.2.2.2.2.2.2.2.2.2.2.2.2.2.2.2.2.2.2.2.2.1) (64 * (B + 25)) o.2.2.2.2.2.2.2.2.2.2.2.2.2.2.2.2.2.2.2.2.2.2.2.2.2.1) (B + 24) o.2.2.2.2.2.2.2.2.2.2.2.2.2.2.2.2.2.2.2.2.2.2.2.2.1) (B + 23) o.2.2.2.2.2.2.2.2.2.2.2.2.2.2.2.2.2.2.2.2.2.2.2.1) (B + 22) o.2.2.2.2.2.2.2.2.2.2.2.2.2.2.2.2.2.2.2.2.2.2.1) (B + 21) o.2.2.2.2.2.2.2.2.2.2.2.2.2.2.2.2.2.2.2.2.2.1) (64 * (B + 20) + 1) o.2.2.2.2.2.2.2.2.2.2.2.2.2.2.2.2.2.2.2.2.1) (64 * (B + 20)) o.2.2.2.2.2.2.2.2.2.2.2.2.2.2.2.2.2.2.2.1) (B + 19) o.2.2.2.2.2.2.2.2.2.2.2.2.2.2.2.2.2.2.1) (B + 18) o.2.2.2.2.2.2.2.2.2.2.2.2.2.2.2.2.2.1) (B + 17) o.2.2.2.2.2.2.2.2.2.2.2.2.2.2.2.2.1) (B + 16) o.2.2.2.2.2.2.2.2.2.2.2.2.2.2.2.1) (64 * (B + 15)) o.2.2.2.2.2.2.2.2.2.2.2.2.2.2.1) (B + 14) o.2.2.2.2.2.2.2.2.2.2.2.2.2.1) (B + 13) o.2.2.2.2.2.2.2.2.2.2.2.2.1) (B + 12) o.2.2.2.2.2.2.2.2.2.2.2.1) (B + 11) o.2.2.2.2.2.2.2.2.2.2.1) (B + 10) o.2.2.2.2.2.2.2.2.2.1) (64 * (B + 9)) o.2.2.2.2.2.2.2.2.1) (B + 8) o.2.2.2.2.2.2.2.1) (B + 7) o.2.2.2.2.2.2.1) (B + 6) o.2.2.2.2.2.1) (B + 5) o.2.2.2.2.1) (B + 4) o.2.2.2.1) (64 * (B + 3)) o.2.2.1) (B + 2) o.2.1) (64 * (B + 1)) o.1)
def cpT (S : ns_S) (A B : Nat) : Int32 × (Nat → Int32) × Int32 × (Nat → Int32) × (Nat → Int32) × (Nat → Int32) × (Nat → Int32) × (Nat → Int32) × Int32 × (Nat → Int32) × (Nat → Int32) × (Nat → Int32) × (Nat → Int32) × (Nat → Int32) × Int32 × (Nat → Int32) × (Nat → Int32) × (Nat → Int32) × (Nat → Int32) × Int32 × Int32 × (Nat → Int32) × (Nat → Int32) × (Nat → Int32) × (Nat → Int32) × Int32 × (Nat → Int32) × (Nat → Int32) × (Nat → Int32) × (Nat → Int32) × (Nat → Int32) × (Nat → Int32) × (Nat → Int32) := (S.1 (64 * (A + 1)), va_cpy (S.2.1 (A + 2)) (S.2.1 (B + 2)) 0 0 5, S.1 (64 * (A + 3)), va_cpy (S.2.1 (A + 4)) (S.2.1 (B + 4)) 0 0 10, va_cpy (S.2.1 (A + 5)) (S.2.1 (B + 5)) 0 0 10, va_cpy (S.2.1 (A + 6)) (S.2.1 (B + 6)) 0 0 10, va_cpy (S.2.1 (A + 7)) (S.2.1 (B + 7)) 0 0 10, va_cpy (S.2.1 (A + 8)) (S.2.1 (B + 8)) 0 0 10, S.1 (64 * (A + 9)), va_cpy (S.2.1 (A + 10)) (S.2.1 (B + 10)) 0 0 30, va_cpy (S.2.1 (A + 11)) (S.2.1 (B + 11)) 0 0 30, va_cpy (S.2.1 (A + 12)) (S.2.1 (B + 12)) 0 0 30, va_cpy (S.2.1 (A + 13)) (S.2.1 (B + 13)) 0 0 30, va_cpy (S.2.1 (A + 14)) (S.2.1 (B + 14)) 0 0 180, S.1 (64 * (A + 15)), va_cpy (S.2.1 (A + 16)) (S.2.1 (B + 16)) 0 0 10, va_cpy (S.2.1 (A + 17)) (S.2.1 (B + 17)) 0 0 10, va_cpy (S.2.1 (A + 18)) (S.2.1 (B + 18)) 0 0 10, va_cpy (S.2.1 (A + 19)) (S.2.1 (B + 19)) 0 0 30, S.1 (64 * (A + 20)), S.1 (64 * (A + 20) + 1), va_cpy (S.2.1 (A + 21)) (S.2.1 (B + 21)) 0 0 30, va_cpy (S.2.1 (A + 22)) (S.2.1 (B + 22)) 0 0 10, va_cpy (S.2.1 (A + 23)) (S.2.1 (B + 23)) 0 0 6, va_cpy (S.2.1 (A + 24)) (S.2.1 (B + 24)) 0 0 5, S.1 (64 * (A + 25)), va_cpy (S.2.1 (A + 26)) (S.2.1 (B + 26)) 0 0 16, va_cpy (S.2.1 (A + 27)) (S.2.1 (B + 27)) 0 0 16, va_cpy (S.2.1 (A + 28)) (S.2.1 (B + 28)) 0 0 16, va_cpy (S.2.1 (A + 29)) (S.2.1 (B + 29)) 0 0 16, va_cpy (S.2.1 (A + 30)) (S.2.1 (B + 30)) 0 0 64, va_cpy (S.2.1 (A + 31)) (S.2.1 (B + 31)) 0 0 64, va_cpy (S.2.1 (A + 32)) (S.2.1 (B + 32)) 0 0 64)
theorem cp5 (f g : Nat → Int32) : ns_cp f g 5 5 0 0 5 = some (va_cpy f g 0 0 5) := by
  unfold ns_cp; rw [if_pos (by decide)]; rfl
theorem cp6 (f g : Nat → Int32) : ns_cp f g 6 6 0 0 6 = some (va_cpy f g 0 0 6) := by
  unfold ns_cp; rw [if_pos (by decide)]; rfl
theorem cp180 (f g : Nat → Int32) : ns_cp f g 180 180 0 0 180 = some (va_cpy f g 0 0 180) := by
  unfold ns_cp; rw [if_pos (by decide)]; rfl
theorem cpF_eq (N : Nat) (S : ns_S) (A B : Nat) : cpF N S A B = some (cpT S A B) := by
  unfold cpF fX6_copyFrom fX5_copyFrom fX0_copyFrom fX4_copyFrom fX7_copyFrom fX8_copyFrom fX2_copyFrom
  simp only [cp5, cp6, cp10, cp16, cp30, cp64, cp180, Option.bind_some]
  rfl
theorem cp_row {B i : Nat} {S : ns_S} {o : Int32 × (Nat → Int32) × Int32 × (Nat → Int32) × (Nat → Int32) × (Nat → Int32) × (Nat → Int32) × (Nat → Int32) × Int32 × (Nat → Int32) × (Nat → Int32) × (Nat → Int32) × (Nat → Int32) × (Nat → Int32) × Int32 × (Nat → Int32) × (Nat → Int32) × (Nat → Int32) × (Nat → Int32) × Int32 × Int32 × (Nat → Int32) × (Nat → Int32) × (Nat → Int32) × (Nat → Int32) × Int32 × (Nat → Int32) × (Nat → Int32) × (Nat → Int32) × (Nat → Int32) × (Nat → Int32) × (Nat → Int32) × (Nat → Int32)} (h : i < B ∨ B + 33 ≤ i) : (cpD B S o).2.1 i = S.2.1 i := by
  simp (disch := omega) only [cpD, ns_A, ns_I, va_up_ne]
theorem cp_fld {B u : Nat} {S : ns_S} {o : Int32 × (Nat → Int32) × Int32 × (Nat → Int32) × (Nat → Int32) × (Nat → Int32) × (Nat → Int32) × (Nat → Int32) × Int32 × (Nat → Int32) × (Nat → Int32) × (Nat → Int32) × (Nat → Int32) × (Nat → Int32) × Int32 × (Nat → Int32) × (Nat → Int32) × (Nat → Int32) × (Nat → Int32) × Int32 × Int32 × (Nat → Int32) × (Nat → Int32) × (Nat → Int32) × (Nat → Int32) × Int32 × (Nat → Int32) × (Nat → Int32) × (Nat → Int32) × (Nat → Int32) × (Nat → Int32) × (Nat → Int32) × (Nat → Int32)} (h : u < 64 * B ∨ 64 * (B + 33) ≤ u) : (cpD B S o).1 u = S.1 u := by
  simp (disch := omega) only [cpD, ns_A, ns_I, va_up_ne]
theorem cp_fl {B : Nat} {S : ns_S} {o : Int32 × (Nat → Int32) × Int32 × (Nat → Int32) × (Nat → Int32) × (Nat → Int32) × (Nat → Int32) × (Nat → Int32) × Int32 × (Nat → Int32) × (Nat → Int32) × (Nat → Int32) × (Nat → Int32) × (Nat → Int32) × Int32 × (Nat → Int32) × (Nat → Int32) × (Nat → Int32) × (Nat → Int32) × Int32 × Int32 × (Nat → Int32) × (Nat → Int32) × (Nat → Int32) × (Nat → Int32) × Int32 × (Nat → Int32) × (Nat → Int32) × (Nat → Int32) × (Nat → Int32) × (Nat → Int32) × (Nat → Int32) × (Nat → Int32)} : (cpD B S o).2.2 = S.2.2 := rfl
theorem cp_CB {S : ns_S} {A B : Nat} {X : SX} (h : CB S A X) (hF : FE X) : CB (cpD B S (cpT S A B)) B X := by
  obtain ⟨h1, h2, h3, h4, h5⟩ := h
  refine ⟨?_, ?_, ?_, ?_, ?_⟩
  · simp (disch := omega) only [C1, cpD, cpT, ns_A, ns_I, va_up_self, va_up_ne]
    exact ⟨h1.1, rA_cpy h1.2.1, h1.2.2.1, rA_cpy h1.2.2.2.1, rA_cpy h1.2.2.2.2.1, rA_cpy h1.2.2.2.2.2.1, rA_cpy h1.2.2.2.2.2.2.1, rA_cpy h1.2.2.2.2.2.2.2⟩
  · simp (disch := omega) only [C2, cpD, cpT, ns_A, ns_I, va_up_self, va_up_ne]
    exact ⟨h2.1, rA_cpy h2.2.1, rA_cpy h2.2.2.1, rA_cpy h2.2.2.2.1, rA_cpy h2.2.2.2.2.1, rA_cpy h2.2.2.2.2.2⟩
  · simp (disch := omega) only [C3, cpD, cpT, ns_A, ns_I, va_up_self, va_up_ne]
    exact ⟨h3.1, rD_cpy h3.2.1, rA_cpy h3.2.2.1, rA_cpy h3.2.2.2.1, rA_cpy h3.2.2.2.2⟩
  · simp (disch := omega) only [C4, cpD, cpT, ns_A, ns_I, va_up_self, va_up_ne]
    exact ⟨h4.1, h4.2.1, rA_cpy h4.2.2.1, rA_cpy h4.2.2.2.1, rA_cpy h4.2.2.2.2.1, rA_cpy h4.2.2.2.2.2⟩
  · simp (disch := omega) only [C5, cpD, cpT, ns_A, ns_I, va_up_self, va_up_ne]
    refine ⟨h5.1, fun l hl => ?_⟩
    obtain ⟨g1, g2⟩ := hF
    have l16 : l < 16 := by omega
    obtain ⟨a1, a2, a3, a4, a5⟩ := h5.2 l hl
    have b1 := (g2 l hl).1
    rw [cpy_in l16, cpy_in l16, cpy_in l16, cpy_in l16]
    refine ⟨a1, a2, a3, a4, fun t ht => ?_⟩
    have l64 : l * 4 + t < 64 := by omega
    rw [cpy_in l64, cpy_in l64, cpy_in l64]
    exact a5 t ht
theorem move_eq {N n0 n f t : Nat} (row : Nat → Int32) (hn0 : n0 < 1000) (hf : n * f + n ≤ n0) (ht : n * t + n ≤ n0) (hft : n * f + n ≤ n * t ∨ n * t + n ≤ n * f) (hN : n0 < N) : fX11_move N n0 row (nI n) (nI f) (nI t) = some (va_cpy row row (n * f) (n * t) n) := by
  have loop : ∀ d i z, i + d = n → d < z → fX11_move_3 N n0 z (va_cpy row row (n * f) (n * t) i) (nI n) (nI f) (nI t) (nI i) = some (va_cpy row row (n * f) (n * t) n) := by
    intro d
    induction d with
    | zero =>
      intro i z h1 h2
      obtain ⟨z, rfl⟩ : ∃ y, z = y + 1 := ⟨z - 1, by omega⟩
      obtain rfl : i = n := by omega
      rw [show fX11_move_3 N n0 (z + 1) = gX11_move_3 N n0 (fX11_move_3 N n0 z) from rfl]
      unfold gX11_move_3
      rw [if_pos (nI_le (Nat.le_refl _) (by omega))]
    | succ d ih =>
      intro i z h1 h2
      obtain ⟨z, rfl⟩ : ∃ y, z = y + 1 := ⟨z - 1, by omega⟩
      rw [show fX11_move_3 N n0 (z + 1) = gX11_move_3 N n0 (fX11_move_3 N n0 z) from rfl]
      unfold gX11_move_3
      rw [if_neg (nI_ge (by omega) (by omega)), pk_mul, nI_add, nz_ald (by omega) hn0, Option.bind_some, pk_mul, nI_add, nz_ast (by omega) hn0, Option.bind_some, nz_let, nI_1]
      have e : upd (va_cpy row row (n * f) (n * t) i) (n * t + i) (va_cpy row row (n * f) (n * t) i (n * f + i)) = va_cpy row row (n * f) (n * t) (i + 1) := by
        funext j
        by_cases q : j = n * t + i
        · subst q
          rw [ud_s, pk_cpy_out (by omega), pk_cpy_in (by omega) (by omega), show n * t + i - n * t = i by omega]
        · rw [ud_n q]
          by_cases r : n * t ≤ j ∧ j < n * t + i
          · rw [pk_cpy_in r.1 r.2, pk_cpy_in r.1 (by omega)]
          · rw [pk_cpy_out (by omega), pk_cpy_out (by omega)]
      rw [e]
      exact ih (i + 1) z (by omega) (by omega)
  have h0 : va_cpy row row (n * f) (n * t) 0 = row := funext fun j => pk_cpy_out (by omega)
  have := loop n 0 N (by omega) (by omega)
  rw [h0] at this
  exact this
theorem rcopy_eq {N f t : Nat} (hN : 20000 ≤ N) (hf : f < 4) (ht : t < 4) (hft : f ≠ t) (r65 r66 r67 r68 r69 r70 r71 r72 r73 r74 r75 r76 r77 r78 r79 r80 r81 r82 r83 r84 r85 r86 r87 r88 r89 r90 r91 r92 r93 r94 r95 : Nat → Int32) : fX11_copy N r65 r66 r67 r68 r69 r70 r71 r72 r73 r74 r75 r76 r77 r78 r79 r80 r81 r82 r83 r84 r85 r86 r87 r88 r89 r90 r91 r92 r93 r94 r95 (nI f) (nI t) = some (va_cpy r65 r65 (1 * f) (1 * t) 1, va_cpy r66 r66 (5 * f) (5 * t) 5, va_cpy r67 r67 (1 * f) (1 * t) 1, va_cpy r68 r68 (10 * f) (10 * t) 10, va_cpy r69 r69 (10 * f) (10 * t) 10, va_cpy r70 r70 (10 * f) (10 * t) 10, va_cpy r71 r71 (10 * f) (10 * t) 10, va_cpy r72 r72 (10 * f) (10 * t) 10, va_cpy r73 r73 (1 * f) (1 * t) 1, va_cpy r74 r74 (30 * f) (30 * t) 30, va_cpy r75 r75 (30 * f) (30 * t) 30, va_cpy r76 r76 (30 * f) (30 * t) 30, va_cpy r77 r77 (30 * f) (30 * t) 30, va_cpy r78 r78 (180 * f) (180 * t) 180, va_cpy r79 r79 (1 * f) (1 * t) 1, va_cpy r80 r80 (1 * f) (1 * t) 1, va_cpy r81 r81 (10 * f) (10 * t) 10, va_cpy r82 r82 (10 * f) (10 * t) 10, va_cpy r83 r83 (10 * f) (10 * t) 10, va_cpy r84 r84 (30 * f) (30 * t) 30, va_cpy r85 r85 (30 * f) (30 * t) 30, va_cpy r86 r86 (6 * f) (6 * t) 6, va_cpy r87 r87 (5 * f) (5 * t) 5, va_cpy r88 r88 (1 * f) (1 * t) 1, va_cpy r89 r89 (16 * f) (16 * t) 16, va_cpy r90 r90 (64 * f) (64 * t) 64, va_cpy r91 r91 (64 * f) (64 * t) 64, va_cpy r92 r92 (64 * f) (64 * t) 64, va_cpy r93 r93 (16 * f) (16 * t) 16, va_cpy r94 r94 (16 * f) (16 * t) 16, va_cpy r95 r95 (16 * f) (16 * t) 16) := by
  have m1 : ∀ row, fX11_move N 4 row 1 (nI f) (nI t) = some (va_cpy row row (1 * f) (1 * t) 1) := fun row => move_eq (n := 1) row (by decide) (by omega) (by omega) (by omega) (by omega)
  have m5 : ∀ row, fX11_move N 20 row 5 (nI f) (nI t) = some (va_cpy row row (5 * f) (5 * t) 5) := fun row => move_eq (n := 5) row (by decide) (by omega) (by omega) (by omega) (by omega)
  have m10 : ∀ row, fX11_move N 40 row 10 (nI f) (nI t) = some (va_cpy row row (10 * f) (10 * t) 10) := fun row => move_eq (n := 10) row (by decide) (by omega) (by omega) (by omega) (by omega)
  have m30 : ∀ row, fX11_move N 120 row 30 (nI f) (nI t) = some (va_cpy row row (30 * f) (30 * t) 30) := fun row => move_eq (n := 30) row (by decide) (by omega) (by omega) (by omega) (by omega)
  have m180 : ∀ row, fX11_move N 720 row 180 (nI f) (nI t) = some (va_cpy row row (180 * f) (180 * t) 180) := fun row => move_eq (n := 180) row (by decide) (by omega) (by omega) (by omega) (by omega)
  have m6 : ∀ row, fX11_move N 24 row 6 (nI f) (nI t) = some (va_cpy row row (6 * f) (6 * t) 6) := fun row => move_eq (n := 6) row (by decide) (by omega) (by omega) (by omega) (by omega)
  have m16 : ∀ row, fX11_move N 64 row 16 (nI f) (nI t) = some (va_cpy row row (16 * f) (16 * t) 16) := fun row => move_eq (n := 16) row (by decide) (by omega) (by omega) (by omega) (by omega)
  have m64 : ∀ row, fX11_move N 256 row 64 (nI f) (nI t) = some (va_cpy row row (64 * f) (64 * t) 64) := fun row => move_eq (n := 64) row (by decide) (by omega) (by omega) (by omega) (by omega)
  unfold fX11_copy
  simp only [m1, m5, m10, m30, m180, m6, m16, m64, Option.bind_some]
theorem szM_s {X : SX} (h : X 67 0 ≤ 10) {c j : Nat} (hj : j < szM X c) : j < szs c := by
  unfold szM at hj
  by_cases q : c = 81 ∧ X 79 0 = 0
  · rw [if_pos q] at hj
    rw [q.1]
    show j < 10
    omega
  · rw [if_neg q] at hj; exact hj
theorem szs_pos : ∀ c, 65 ≤ c → c < 96 → 1 ≤ szs c := all31 (by decide) (by decide) (by decide) (by decide) (by decide) (by decide) (by decide) (by decide) (by decide) (by decide) (by decide) (by decide) (by decide) (by decide) (by decide) (by decide) (by decide) (by decide) (by decide) (by decide) (by decide) (by decide) (by decide) (by decide) (by decide) (by decide) (by decide) (by decide) (by decide) (by decide) (by decide)
/-- an image is made: the class's copy lies in S2 -/
theorem image_rel {N n k : Nat} {S S1 : ns_S} (hN : 20000 ≤ N) (hR : Rel S n) (hk : k < 3) (h1 : ∀ i, i < 107 + 33 * k ∨ 107 + 33 * k + 33 ≤ i → S1.2.1 i = S.2.1 i) (h2 : ∀ u, u < 64 * (107 + 33 * k) ∨ 64 * (107 + 33 * k + 33) ≤ u → S1.1 u = S.1 u) (h4 : S1.2.2.2 = va_up S.2.2.2 k true) : ∃ o2, aX11_image N (cpD (107 + 33 * k) S1 (cpT S1 28 (107 + 33 * k))) (nI k) = some o2 ∧ o2.1 = 1 ∧ Rel (uX11_image (cpD (107 + 33 * k) S1 (cpT S1 28 (107 + 33 * k))) o2) n := by
  obtain ⟨⟨X, hM, hC, hV⟩, hT, hI⟩ := hR
  have cC1 : CB S1 28 X := CB_fr (S := S) (fun i a b => h1 i (by omega)) (fun u a b => h2 u (by omega)) hC
  have cCB := cp_CB (B := 107 + 33 * k) cC1 hV.2.2.2.2.2.2.2
  generalize hS2 : cpD (107 + 33 * k) S1 (cpT S1 28 (107 + 33 * k)) = S2 at cCB ⊢
  have er : ∀ i, i < 107 + 33 * k ∨ 107 + 33 * k + 33 ≤ i → S2.2.1 i = S.2.1 i := fun i h => by rw [← hS2, cp_row h, h1 i h]
  have ef : ∀ u, u < 64 * (107 + 33 * k) ∨ 64 * (107 + 33 * k + 33) ≤ u → S2.1 u = S.1 u := fun u h => by rw [← hS2, cp_fld h, h2 u h]
  have eg : S2.2.2.2 = va_up S.2.2.2 k true := by rw [← hS2, cp_fl, h4]
  have hin : fX11_in N (nI k) 0 2 = some 1 := by
    rw [show fX11_in N (nI k) 0 2 = some (eI (decide (0 ≤ k ∧ k ≤ 2))) from inLD (a := 0) (b := 2) (by omega) (by decide) (by decide), decide_eq_true (by omega)]
    rfl
  refine ⟨(1, 0, va_cpy (S2.2.1 65) (S2.2.1 65) (1 * 0) (1 * (k + 1)) 1, va_cpy (S2.2.1 66) (S2.2.1 66) (5 * 0) (5 * (k + 1)) 5, va_cpy (S2.2.1 67) (S2.2.1 67) (1 * 0) (1 * (k + 1)) 1, va_cpy (S2.2.1 68) (S2.2.1 68) (10 * 0) (10 * (k + 1)) 10, va_cpy (S2.2.1 69) (S2.2.1 69) (10 * 0) (10 * (k + 1)) 10, va_cpy (S2.2.1 70) (S2.2.1 70) (10 * 0) (10 * (k + 1)) 10, va_cpy (S2.2.1 71) (S2.2.1 71) (10 * 0) (10 * (k + 1)) 10, va_cpy (S2.2.1 72) (S2.2.1 72) (10 * 0) (10 * (k + 1)) 10, va_cpy (S2.2.1 73) (S2.2.1 73) (1 * 0) (1 * (k + 1)) 1, va_cpy (S2.2.1 74) (S2.2.1 74) (30 * 0) (30 * (k + 1)) 30, va_cpy (S2.2.1 75) (S2.2.1 75) (30 * 0) (30 * (k + 1)) 30, va_cpy (S2.2.1 76) (S2.2.1 76) (30 * 0) (30 * (k + 1)) 30, va_cpy (S2.2.1 77) (S2.2.1 77) (30 * 0) (30 * (k + 1)) 30, va_cpy (S2.2.1 78) (S2.2.1 78) (180 * 0) (180 * (k + 1)) 180, va_cpy (S2.2.1 79) (S2.2.1 79) (1 * 0) (1 * (k + 1)) 1, va_cpy (S2.2.1 80) (S2.2.1 80) (1 * 0) (1 * (k + 1)) 1, va_cpy (S2.2.1 81) (S2.2.1 81) (10 * 0) (10 * (k + 1)) 10, va_cpy (S2.2.1 82) (S2.2.1 82) (10 * 0) (10 * (k + 1)) 10, va_cpy (S2.2.1 83) (S2.2.1 83) (10 * 0) (10 * (k + 1)) 10, va_cpy (S2.2.1 84) (S2.2.1 84) (30 * 0) (30 * (k + 1)) 30, va_cpy (S2.2.1 85) (S2.2.1 85) (30 * 0) (30 * (k + 1)) 30, va_cpy (S2.2.1 86) (S2.2.1 86) (6 * 0) (6 * (k + 1)) 6, va_cpy (S2.2.1 87) (S2.2.1 87) (5 * 0) (5 * (k + 1)) 5, va_cpy (S2.2.1 88) (S2.2.1 88) (1 * 0) (1 * (k + 1)) 1, va_cpy (S2.2.1 89) (S2.2.1 89) (16 * 0) (16 * (k + 1)) 16, va_cpy (S2.2.1 90) (S2.2.1 90) (64 * 0) (64 * (k + 1)) 64, va_cpy (S2.2.1 91) (S2.2.1 91) (64 * 0) (64 * (k + 1)) 64, va_cpy (S2.2.1 92) (S2.2.1 92) (64 * 0) (64 * (k + 1)) 64, va_cpy (S2.2.1 93) (S2.2.1 93) (16 * 0) (16 * (k + 1)) 16, va_cpy (S2.2.1 94) (S2.2.1 94) (16 * 0) (16 * (k + 1)) 16, va_cpy (S2.2.1 95) (S2.2.1 95) (16 * 0) (16 * (k + 1)) 16, upd (S2.2.1 106) k 1), ?_, rfl, ?_⟩
  · unfold aX11_image fX11_image
    rw [hin, Option.bind_some, if_neg (show ¬ (1 : Int32) = 0 by decide), nI_1, show (0 : Int32) = nI 0 from rfl, rcopy_eq hN (by decide) (by omega) (by omega), Option.bind_some, nz_ast hk (by decide), Option.bind_some]
    rfl
  generalize hS3 : uX11_image S2 _ = S3
  have hrow : ∀ c, 65 ≤ c → c < 96 → S3.2.1 c = va_cpy (S2.2.1 c) (S2.2.1 c) (szs c * 0) (szs c * (k + 1)) (szs c) := by
    subst hS3
    exact all31 rfl rfl rfl rfl rfl rfl rfl rfl rfl rfl rfl rfl rfl rfl rfl rfl rfl rfl rfl rfl rfl rfl rfl rfl rfl rfl rfl rfl rfl rfl rfl
  have h106 : S3.2.1 106 = upd (S2.2.1 106) k 1 := by subst hS3; rfl
  have hlo : ∀ i, i < 65 → S3.2.1 i = S2.2.1 i := by subst hS3; intro i hi; simp (disch := omega) only [uX11_image, ns_A, ns_I, va_up_ne]
  have hhi : ∀ i, 107 ≤ i → S3.2.1 i = S2.2.1 i := by subst hS3; intro i hi; simp (disch := omega) only [uX11_image, ns_A, ns_I, va_up_ne]
  have hfl : ∀ u, u ≠ 3968 → S3.1 u = S2.1 u := by subst hS3; intro u hu; simp (disch := omega) only [uX11_image, ns_A, ns_I, va_up_ne]
  have hgl : S3.2.2.2 = va_up S.2.2.2 k true := by subst hS3; exact eg
  have row0 : ∀ c, 65 ≤ c → c < 96 → ∀ j, j < szs c → S3.2.1 c j = S.2.1 c j := fun c a b j hj => by
    have hz := Nat.mul_le_mul_left (szs c) (show 1 ≤ k + 1 by omega)
    rw [hrow c a b, pk_cpy_out (by omega), er c (by omega)]
  have rowm : ∀ c, 65 ≤ c → c < 96 → ∀ m, m ≠ k → ∀ j, j < szs c → S3.2.1 c (szs c * (m + 1) + j) = S.2.1 c (szs c * (m + 1) + j) := fun c a b m hm j hj => by
    have hz : szs c * (m + 1) + szs c ≤ szs c * (k + 1) ∨ szs c * (k + 1) + szs c ≤ szs c * (m + 1) := by
      rcases Nat.lt_or_ge m k with q | q
      · left; have := Nat.mul_le_mul_left (szs c) (show m + 1 + 1 ≤ k + 1 by omega); rw [Nat.mul_add (szs c) (m + 1) 1] at this; omega
      · right; have := Nat.mul_le_mul_left (szs c) (show k + 1 + 1 ≤ m + 1 by omega); rw [Nat.mul_add (szs c) (k + 1) 1] at this; omega
    rw [hrow c a b, pk_cpy_out (by omega), er c (by omega)]
  have rowk : ∀ c, 65 ≤ c → c < 96 → ∀ j, j < szs c → S3.2.1 c (szs c * (k + 1) + j) = S.2.1 c j := fun c a b j hj => by
    rw [hrow c a b, pk_cpy_in (by omega) (by omega), er c (by omega), show szs c * 0 + (szs c * (k + 1) + j - szs c * (k + 1)) = j by omega]
  have h67 := hV.1.2.1
  refine ⟨⟨X, fun c a b j hj => by rw [row0 c a b j (szM_s h67 hj)]; exact hM c a b j hj, CB_fr (S := S) (fun i a b => by rw [hlo i (by omega), er i (by omega)]) (fun u a b => by rw [hfl u (by omega), ef u (by omega)]) hC, hV⟩, ?_, fun m hm => ?_⟩
  · obtain ⟨t1, ⟨t, t2, t3, t4⟩, t5, t6⟩ := hT
    refine ⟨fun j hj => ?_, ⟨t, t2, ?_, ?_⟩, ?_, ?_⟩
    · rw [hlo 63 (by omega), hlo 1 (by omega), er 63 (by omega), er 1 (by omega)]; exact t1 j hj
    · rw [hfl 1 (by omega), ef 1 (by omega)]; exact t3
    · rw [hfl 3970 (by omega), ef 3970 (by omega)]; exact t4
    · rw [hfl 130 (by omega), ef 130 (by omega), hfl 4008 (by omega), ef 4008 (by omega)]; exact t5
    · rw [hfl 131 (by omega), ef 131 (by omega), hfl 4009 (by omega), ef 4009 (by omega)]; exact t6
  · by_cases q : m = k
    · subst q
      refine Or.inl ⟨by rw [hgl, va_up_self], by rw [h106, ud_s], X, fun c a b j hj => by rw [rowk c a b j (szM_s h67 hj)]; exact hM c a b j hj, CB_fr (S := S2) (fun i a b => hhi i (by omega)) (fun u a b => hfl u (by omega)) cCB, hV⟩
    · rw [hgl, va_up_ne _ _ q, h106, ud_n q, er 106 (by omega)]
      rcases hI m hm with ⟨a, b, Y, c, d, e⟩ | ⟨a, b⟩
      · refine Or.inl ⟨a, b, Y, fun z a b j hj => by rw [rowm z a b m q j (szM_s e.1.2.1 hj)]; exact c z a b j hj, CB_fr (S := S) (fun i a b => by rw [hhi i (by omega), er i (by omega)]) (fun u a b => by rw [hfl u (by omega), ef u (by omega)]) d, e⟩
      · exact Or.inr ⟨a, b⟩
/-- an image holds again -/
theorem again_rel {N n k : Nat} {S : ns_S} (hN : 20000 ≤ N) (hR : Rel S n) (hk : k < 3) (hf : S.2.2.2 k = true) : ∃ o2, aX11_again N (cpD 28 S (cpT S (107 + 33 * k) 28)) (nI k) = some o2 ∧ o2.1 = 1 ∧ Rel (uX11_again (cpD 28 S (cpT S (107 + 33 * k) 28)) o2) n := by
  obtain ⟨⟨X0, hM0, hC0, hV0⟩, hT, hI⟩ := hR
  obtain ⟨h106, X, hM, hC, hV⟩ : S.2.1 106 k = 1 ∧ Sch S (k + 1) (107 + 33 * k) n := by
    rcases hI k hk with ⟨a, b, c⟩ | ⟨a, b⟩
    · exact ⟨b, c⟩
    · rw [hf] at a; cases a
  have cCB := cp_CB (B := 28) hC hV.2.2.2.2.2.2.2
  generalize hS2 : cpD 28 S (cpT S (107 + 33 * k) 28) = S2 at cCB ⊢
  have er : ∀ i, i < 28 ∨ 61 ≤ i → S2.2.1 i = S.2.1 i := fun i h => by rw [← hS2, cp_row (by omega)]
  have ef : ∀ u, u < 1792 ∨ 3904 ≤ u → S2.1 u = S.1 u := fun u h => by rw [← hS2, cp_fld (by omega)]
  have eg : S2.2.2.2 = S.2.2.2 := by rw [← hS2, cp_fl]
  have hin : fX11_in N (nI k) 0 2 = some 1 := by
    rw [show fX11_in N (nI k) 0 2 = some (eI (decide (0 ≤ k ∧ k ≤ 2))) from inLD (a := 0) (b := 2) (by omega) (by decide) (by decide), decide_eq_true (by omega)]
    rfl
  refine ⟨(1, 0, va_cpy (S2.2.1 65) (S2.2.1 65) (1 * (k + 1)) (1 * 0) 1, va_cpy (S2.2.1 66) (S2.2.1 66) (5 * (k + 1)) (5 * 0) 5, va_cpy (S2.2.1 67) (S2.2.1 67) (1 * (k + 1)) (1 * 0) 1, va_cpy (S2.2.1 68) (S2.2.1 68) (10 * (k + 1)) (10 * 0) 10, va_cpy (S2.2.1 69) (S2.2.1 69) (10 * (k + 1)) (10 * 0) 10, va_cpy (S2.2.1 70) (S2.2.1 70) (10 * (k + 1)) (10 * 0) 10, va_cpy (S2.2.1 71) (S2.2.1 71) (10 * (k + 1)) (10 * 0) 10, va_cpy (S2.2.1 72) (S2.2.1 72) (10 * (k + 1)) (10 * 0) 10, va_cpy (S2.2.1 73) (S2.2.1 73) (1 * (k + 1)) (1 * 0) 1, va_cpy (S2.2.1 74) (S2.2.1 74) (30 * (k + 1)) (30 * 0) 30, va_cpy (S2.2.1 75) (S2.2.1 75) (30 * (k + 1)) (30 * 0) 30, va_cpy (S2.2.1 76) (S2.2.1 76) (30 * (k + 1)) (30 * 0) 30, va_cpy (S2.2.1 77) (S2.2.1 77) (30 * (k + 1)) (30 * 0) 30, va_cpy (S2.2.1 78) (S2.2.1 78) (180 * (k + 1)) (180 * 0) 180, va_cpy (S2.2.1 79) (S2.2.1 79) (1 * (k + 1)) (1 * 0) 1, va_cpy (S2.2.1 80) (S2.2.1 80) (1 * (k + 1)) (1 * 0) 1, va_cpy (S2.2.1 81) (S2.2.1 81) (10 * (k + 1)) (10 * 0) 10, va_cpy (S2.2.1 82) (S2.2.1 82) (10 * (k + 1)) (10 * 0) 10, va_cpy (S2.2.1 83) (S2.2.1 83) (10 * (k + 1)) (10 * 0) 10, va_cpy (S2.2.1 84) (S2.2.1 84) (30 * (k + 1)) (30 * 0) 30, va_cpy (S2.2.1 85) (S2.2.1 85) (30 * (k + 1)) (30 * 0) 30, va_cpy (S2.2.1 86) (S2.2.1 86) (6 * (k + 1)) (6 * 0) 6, va_cpy (S2.2.1 87) (S2.2.1 87) (5 * (k + 1)) (5 * 0) 5, va_cpy (S2.2.1 88) (S2.2.1 88) (1 * (k + 1)) (1 * 0) 1, va_cpy (S2.2.1 89) (S2.2.1 89) (16 * (k + 1)) (16 * 0) 16, va_cpy (S2.2.1 90) (S2.2.1 90) (64 * (k + 1)) (64 * 0) 64, va_cpy (S2.2.1 91) (S2.2.1 91) (64 * (k + 1)) (64 * 0) 64, va_cpy (S2.2.1 92) (S2.2.1 92) (64 * (k + 1)) (64 * 0) 64, va_cpy (S2.2.1 93) (S2.2.1 93) (16 * (k + 1)) (16 * 0) 16, va_cpy (S2.2.1 94) (S2.2.1 94) (16 * (k + 1)) (16 * 0) 16, va_cpy (S2.2.1 95) (S2.2.1 95) (16 * (k + 1)) (16 * 0) 16), ?_, rfl, ?_⟩
  · unfold aX11_again fX11_again
    rw [hin, Option.bind_some, if_neg (show ¬ (1 : Int32) = 0 by decide), nz_ald hk (by decide), Option.bind_some, er 106 (by omega), h106, if_neg (show ¬ (1 : Int32) = 0 by decide), nI_1, show fX11_copy N (S2.2.1 65) (S2.2.1 66) (S2.2.1 67) (S2.2.1 68) (S2.2.1 69) (S2.2.1 70) (S2.2.1 71) (S2.2.1 72) (S2.2.1 73) (S2.2.1 74) (S2.2.1 75) (S2.2.1 76) (S2.2.1 77) (S2.2.1 78) (S2.2.1 79) (S2.2.1 80) (S2.2.1 81) (S2.2.1 82) (S2.2.1 83) (S2.2.1 84) (S2.2.1 85) (S2.2.1 86) (S2.2.1 87) (S2.2.1 88) (S2.2.1 89) (S2.2.1 90) (S2.2.1 91) (S2.2.1 92) (S2.2.1 93) (S2.2.1 94) (S2.2.1 95) (nI (k + 1)) 0 = _ from rcopy_eq (f := k + 1) (t := 0) hN (by omega) (by decide) (by omega) _ _ _ _ _ _ _ _ _ _ _ _ _ _ _ _ _ _ _ _ _ _ _ _ _ _ _ _ _ _ _, Option.bind_some]
  generalize hS3 : uX11_again S2 _ = S3
  have hrow : ∀ c, 65 ≤ c → c < 96 → S3.2.1 c = va_cpy (S2.2.1 c) (S2.2.1 c) (szs c * (k + 1)) (szs c * 0) (szs c) := by
    subst hS3
    exact all31 rfl rfl rfl rfl rfl rfl rfl rfl rfl rfl rfl rfl rfl rfl rfl rfl rfl rfl rfl rfl rfl rfl rfl rfl rfl rfl rfl rfl rfl rfl rfl
  have hlo : ∀ i, i < 65 → S3.2.1 i = S2.2.1 i := by subst hS3; intro i hi; simp (disch := omega) only [uX11_again, ns_A, ns_I, va_up_ne]
  have hhi : ∀ i, 106 ≤ i → S3.2.1 i = S2.2.1 i := by subst hS3; intro i hi; simp (disch := omega) only [uX11_again, ns_A, ns_I, va_up_ne]
  have hfl : ∀ u, u ≠ 3968 → S3.1 u = S2.1 u := by subst hS3; intro u hu; simp (disch := omega) only [uX11_again, ns_A, ns_I, va_up_ne]
  have hgl : S3.2.2.2 = S.2.2.2 := by subst hS3; exact eg
  have row0 : ∀ c, 65 ≤ c → c < 96 → ∀ j, j < szs c → S3.2.1 c j = S.2.1 c (szs c * (k + 1) + j) := fun c a b j hj => by
    rw [hrow c a b, pk_cpy_in (by omega) (by omega), er c (by omega), show szs c * (k + 1) + (j - szs c * 0) = szs c * (k + 1) + j by omega]
  have rowm : ∀ c, 65 ≤ c → c < 96 → ∀ m, ∀ j, S3.2.1 c (szs c * (m + 1) + j) = S.2.1 c (szs c * (m + 1) + j) := fun c a b m j => by
    have hz := Nat.mul_le_mul_left (szs c) (show 1 ≤ m + 1 by omega)
    rw [hrow c a b, pk_cpy_out (by omega), er c (by omega)]
  refine ⟨⟨X, fun c a b j hj => by rw [row0 c a b j (szM_s hV.1.2.1 hj)]; exact hM c a b j hj, CB_fr (S := S2) (fun i a b => hlo i (by omega)) (fun u a b => hfl u (by omega)) cCB, hV⟩, ?_, fun m hm => ?_⟩
  · obtain ⟨t1, ⟨t, t2, t3, t4⟩, t5, t6⟩ := hT
    refine ⟨fun j hj => ?_, ⟨t, t2, ?_, ?_⟩, ?_, ?_⟩
    · rw [hlo 63 (by omega), hlo 1 (by omega), er 63 (by omega), er 1 (by omega)]; exact t1 j hj
    · rw [hfl 1 (by omega), ef 1 (by omega)]; exact t3
    · rw [hfl 3970 (by omega), ef 3970 (by omega)]; exact t4
    · rw [hfl 130 (by omega), ef 130 (by omega), hfl 4008 (by omega), ef 4008 (by omega)]; exact t5
    · rw [hfl 131 (by omega), ef 131 (by omega), hfl 4009 (by omega), ef 4009 (by omega)]; exact t6
  · rw [hgl, hhi 106 (by omega), er 106 (by omega)]
    rcases hI m hm with ⟨a, b, Y, c, d, e⟩ | ⟨a, b⟩
    · refine Or.inl ⟨a, b, Y, fun z a b j hj => by rw [rowm z a b m j]; exact c z a b j hj, CB_fr (S := S) (fun i a b => by rw [hhi i (by omega), er i (by omega)]) (fun u a b => by rw [hfl u (by omega), ef u (by omega)]) d, e⟩
    · exact Or.inr ⟨a, b⟩
/-- refused: out of range, or no image -/
theorem image_no {N n : Nat} {S : ns_S} {x : Int32} (hR : Rel S n) (h : fX11_in N x 0 2 = some 0) : ∃ o2, aX11_image N S x = some o2 ∧ o2.1 = 0 ∧ Rel (uX11_image S o2) n := by
  have e2 : uX11_image S (0, 0, S.2.1 65, S.2.1 66, S.2.1 67, S.2.1 68, S.2.1 69, S.2.1 70, S.2.1 71, S.2.1 72, S.2.1 73, S.2.1 74, S.2.1 75, S.2.1 76, S.2.1 77, S.2.1 78, S.2.1 79, S.2.1 80, S.2.1 81, S.2.1 82, S.2.1 83, S.2.1 84, S.2.1 85, S.2.1 86, S.2.1 87, S.2.1 88, S.2.1 89, S.2.1 90, S.2.1 91, S.2.1 92, S.2.1 93, S.2.1 94, S.2.1 95, S.2.1 106) = ns_I S 3968 0 := by
    unfold uX11_image
    dsimp only
    simp only [ns_A_id]
  refine ⟨(0, 0, S.2.1 65, S.2.1 66, S.2.1 67, S.2.1 68, S.2.1 69, S.2.1 70, S.2.1 71, S.2.1 72, S.2.1 73, S.2.1 74, S.2.1 75, S.2.1 76, S.2.1 77, S.2.1 78, S.2.1 79, S.2.1 80, S.2.1 81, S.2.1 82, S.2.1 83, S.2.1 84, S.2.1 85, S.2.1 86, S.2.1 87, S.2.1 88, S.2.1 89, S.2.1 90, S.2.1 91, S.2.1 92, S.2.1 93, S.2.1 94, S.2.1 95, S.2.1 106), ?_, rfl, by rw [e2]; exact Rel_cd hR⟩
  unfold aX11_image fX11_image
  rw [h, Option.bind_some, if_pos rfl]
theorem again_no {N n : Nat} {S : ns_S} {x : Int32} (hR : Rel S n) (h : fX11_in N x 0 2 = some 0 ∨ ∃ k, k < 3 ∧ x = nI k ∧ S.2.2.2 k = false) : ∃ o2, aX11_again N S x = some o2 ∧ o2.1 = 0 ∧ Rel (uX11_again S o2) n := by
  have e2 : uX11_again S (0, 0, S.2.1 65, S.2.1 66, S.2.1 67, S.2.1 68, S.2.1 69, S.2.1 70, S.2.1 71, S.2.1 72, S.2.1 73, S.2.1 74, S.2.1 75, S.2.1 76, S.2.1 77, S.2.1 78, S.2.1 79, S.2.1 80, S.2.1 81, S.2.1 82, S.2.1 83, S.2.1 84, S.2.1 85, S.2.1 86, S.2.1 87, S.2.1 88, S.2.1 89, S.2.1 90, S.2.1 91, S.2.1 92, S.2.1 93, S.2.1 94, S.2.1 95) = ns_I S 3968 0 := by
    unfold uX11_again
    dsimp only
    simp only [ns_A_id]
  refine ⟨(0, 0, S.2.1 65, S.2.1 66, S.2.1 67, S.2.1 68, S.2.1 69, S.2.1 70, S.2.1 71, S.2.1 72, S.2.1 73, S.2.1 74, S.2.1 75, S.2.1 76, S.2.1 77, S.2.1 78, S.2.1 79, S.2.1 80, S.2.1 81, S.2.1 82, S.2.1 83, S.2.1 84, S.2.1 85, S.2.1 86, S.2.1 87, S.2.1 88, S.2.1 89, S.2.1 90, S.2.1 91, S.2.1 92, S.2.1 93, S.2.1 94, S.2.1 95), ?_, rfl, by rw [e2]; exact Rel_cd hR⟩
  unfold aX11_again fX11_again
  rcases h with h | ⟨k, hk, rfl, hf⟩
  · rw [h, Option.bind_some, if_pos rfl]
  · have h106 : S.2.1 106 k = 0 := by
      rcases hR.2.2 k hk with ⟨a, -⟩ | ⟨-, b⟩
      · rw [hf] at a; cases a
      · exact b
    rw [show fX11_in N (nI k) 0 2 = some (eI (decide (0 ≤ k ∧ k ≤ 2))) from inLD (a := 0) (b := 2) (by omega) (by decide) (by decide), decide_eq_true (by omega), Option.bind_some, if_neg (show ¬ eI true = 0 by decide), nz_ald hk (by decide), Option.bind_some, h106, if_pos rfl]
