/-! fees -/
theorem cp16 (f g : Nat → Int32) : ns_cp f g 16 16 0 0 16 = some (va_cpy f g 0 0 16) := by
  unfold ns_cp; rw [if_pos (by decide)]; rfl
theorem cp64 (f g : Nat → Int32) : ns_cp f g 64 64 0 0 64 = some (va_cpy f g 0 0 64) := by
  unfold ns_cp; rw [if_pos (by decide)]; rfl
theorem tn_nI (y : Int32) : y = nI y.toBitVec.toNat := by
  refine Int32.toBitVec_inj.mp ?_
  rw [nI_bv]
  exact BitVec.eq_of_toNat_eq (by rw [BitVec.toNat_ofNat, Nat.mod_eq_of_lt (BitVec.isLt _)])
section FF
variable {N : Nat} {le at2 pla v s lap got : Int32} {tr nTe nW nS nT nA nA1 nB : Nat → Int32}
theorem in177 {r119 : Int32 → Int32 → Int32 → Int32 → Int32 → Int32 → Int32 → Int32 → (Nat → Int32) → Int32 → Int32 → Int32 → Int32 → (Nat → Int32) → Int32 → (Nat → Int32) → (Nat → Int32) → (Nat → Int32) → (Nat → Int32) → (Nat → Int32) → (Nat → Int32) → (Nat → Int32) → (Nat → Int32) → (Nat → Int32) → (Nat → Int32) → (Nat → Int32) → (Nat → Int32) → (Nat → Int32) → (Nat → Int32) → Int32 → Option (Int32 × Int32 × Int32 × Int32 × Int32 × Int32 × Int32 × Int32 × Int32 × Int32 × Int32 × Int32 × Int32 × (Nat → Int32) × Int32 × (Nat → Int32) × (Nat → Int32) × (Nat → Int32) × (Nat → Int32) × (Nat → Int32) × (Nat → Int32) × (Nat → Int32) × (Nat → Int32) × (Nat → Int32) × (Nat → Int32) × (Nat → Int32) × (Nat → Int32) × (Nat → Int32) × (Nat → Int32))} {nl : Int32} {li te ac aA aB : Nat → Int32} {l k : Nat} (hl : l < 16) (hk : k ≤ 4) (hn : nTe l = nI k) : ∀ d i z (tw ts tt : Nat → Int32), i + d = k → d < z → ∃ tw' ts' tt', fX11_fees_177 N r119 z 0 0 le at2 0 (-1) 0 nl tr pla v s lap nTe got nW nS nT nA nA1 nB li te ac aA aB tw ts tt (nI l) (nI i) = r119 0 0 le at2 0 (-1) 0 nl tr pla v s lap nTe got nW nS nT nA nA1 nB li te ac aA aB tw' ts' tt' (nI (l + 1)) ∧ (∀ j, i ≤ j → j < k → tw' (l * 4 + j) = nW (l * 4 + j) ∧ ts' (l * 4 + j) = nS (l * 4 + j) ∧ tt' (l * 4 + j) = nT (l * 4 + j)) ∧ (∀ m, (m < l * 4 + i ∨ l * 4 + k ≤ m) → tw' m = tw m ∧ ts' m = ts m ∧ tt' m = tt m) := by
  intro d
  induction d with
  | zero =>
    intro i z tw ts tt h1 h2
    obtain ⟨z, rfl⟩ : ∃ y, z = y + 1 := ⟨z - 1, by omega⟩
    rw [show fX11_fees_177 N r119 (z + 1) = gX11_fees_177 N r119 (fX11_fees_177 N r119 z) from rfl]
    unfold gX11_fees_177
    rw [nz_ald (by omega) (by omega), Option.bind_some, hn, if_pos (nI_le (by omega) (by omega)), nz_let, nI_1]
    exact ⟨tw, ts, tt, rfl, fun j a b => by omega, fun m _ => ⟨rfl, rfl, rfl⟩⟩
  | succ d ih =>
    intro i z tw ts tt h1 h2
    obtain ⟨z, rfl⟩ : ∃ y, z = y + 1 := ⟨z - 1, by omega⟩
    rw [show fX11_fees_177 N r119 (z + 1) = gX11_fees_177 N r119 (fX11_fees_177 N r119 z) from rfl]
    unfold gX11_fees_177
    have ex : (4 * nI l + nI i) = nI (l * 4 + i) := by rw [nz4, pk_mul, nI_add, Nat.mul_comm]
    rw [nz_ald (by omega) (by omega), Option.bind_some, hn, if_neg (nI_ge (by omega) (by omega)), ex, nz_ald (by omega) (by omega), Option.bind_some, nz_ast (by omega) (by omega), Option.bind_some, nz_ald (by omega) (by omega), Option.bind_some, nz_ast (by omega) (by omega), Option.bind_some, nz_ald (by omega) (by omega), Option.bind_some, nz_ast (by omega) (by omega), Option.bind_some, nz_let, nI_1]
    obtain ⟨tw', ts', tt', a1, a2, a3⟩ := ih (i + 1) z (upd tw (l * 4 + i) (nW (l * 4 + i))) (upd ts (l * 4 + i) (nS (l * 4 + i))) (upd tt (l * 4 + i) (nT (l * 4 + i))) (by omega) (by omega)
    refine ⟨tw', ts', tt', a1, fun j b c => ?_, fun m hm => ?_⟩
    · by_cases e : j = i
      · subst e
        obtain ⟨e1, e2, e3⟩ := a3 (l * 4 + j) (Or.inl (by omega))
        rw [e1, e2, e3]
        exact ⟨ud_s, ud_s, ud_s⟩
      · exact a2 j (by omega) c
    · obtain ⟨e1, e2, e3⟩ := a3 m (by omega)
      rw [e1, e2, e3]
      exact ⟨ud_n (by omega), ud_n (by omega), ud_n (by omega)⟩
theorem in119 {L : Nat} {li : Nat → Int32} (hL : L ≤ 16) (hN : 1000 < N) (hn : ∀ j, j < L → ∃ k, k ≤ 4 ∧ nTe j = nI k) : ∀ d l z (te ac aA aB tw ts tt : Nat → Int32), l + d = L → d < z → ∃ te' ac' aA' aB' tw' ts' tt', fX11_fees_119 N z 0 0 le at2 0 (-1) 0 (nI L) tr pla v s lap nTe got nW nS nT nA nA1 nB li te ac aA aB tw ts tt (nI l) = some (nI L, 0, le, 0, at2, 0, (-1), 0, nI L, pla, v, s, lap, nTe, got, nW, nS, nT, nA, nA1, nB, li, te', ac', aA', aB', tw', ts', tt') ∧ (∀ j, l ≤ j → j < L → te' j = nTe j ∧ ac' j = nA j ∧ aA' j = nA1 j ∧ aB' j = nB j ∧ ∀ k i, nTe j = nI k → k ≤ 4 → i < k → tw' (j * 4 + i) = nW (j * 4 + i) ∧ ts' (j * 4 + i) = nS (j * 4 + i) ∧ tt' (j * 4 + i) = nT (j * 4 + i)) ∧ (∀ m, (m < l ∨ L ≤ m) → te' m = te m ∧ ac' m = ac m ∧ aA' m = aA m ∧ aB' m = aB m) ∧ (∀ m, (m < l * 4 ∨ L * 4 ≤ m) → tw' m = tw m ∧ ts' m = ts m ∧ tt' m = tt m) := by
  intro d
  induction d with
  | zero =>
    intro l z te ac aA aB tw ts tt h1 h2
    obtain ⟨z, rfl⟩ : ∃ y, z = y + 1 := ⟨z - 1, by omega⟩
    obtain rfl : l = L := by omega
    rw [show fX11_fees_119 N (z + 1) = gX11_fees_119 N (fX11_fees_119 N z) from rfl]
    unfold gX11_fees_119
    rw [if_pos (nI_le (Nat.le_refl _) (by omega))]
    exact ⟨te, ac, aA, aB, tw, ts, tt, rfl, fun j a b => by omega, fun m _ => ⟨rfl, rfl, rfl, rfl⟩, fun m _ => ⟨rfl, rfl, rfl⟩⟩
  | succ d ih =>
    intro l z te ac aA aB tw ts tt h1 h2
    obtain ⟨z, rfl⟩ : ∃ y, z = y + 1 := ⟨z - 1, by omega⟩
    rw [show fX11_fees_119 N (z + 1) = gX11_fees_119 N (fX11_fees_119 N z) from rfl]
    unfold gX11_fees_119
    rw [if_neg (nI_ge (by omega) (by omega)), nz_ald (by omega) (by omega), Option.bind_some, nz_ast (by omega) (by omega), Option.bind_some, nz_ald (by omega) (by omega), Option.bind_some, nz_ast (by omega) (by omega), Option.bind_some, nz_ald (by omega) (by omega), Option.bind_some, nz_ast (by omega) (by omega), Option.bind_some, nz_ald (by omega) (by omega), Option.bind_some, nz_ast (by omega) (by omega), Option.bind_some]
    obtain ⟨k, k1, k2⟩ := hn l (by omega)
    obtain ⟨tw1, ts1, tt1, a1, a2, a3⟩ := in177 (N := N) (r119 := fX11_fees_119 N z) (nl := nI L) (li := li) (te := upd te l (nTe l)) (ac := upd ac l (nA l)) (aA := upd aA l (nA1 l)) (aB := upd aB l (nB l)) (le := le) (at2 := at2) (pla := pla) (v := v) (s := s) (lap := lap) (got := got) (tr := tr) (nW := nW) (nS := nS) (nT := nT) (nA := nA) (nA1 := nA1) (nB := nB) (show l < 16 by omega) k1 k2 k 0 N tw ts tt (by omega) (by omega)
    rw [nI_0] at a1
    rw [a1]
    obtain ⟨te', ac', aA', aB', tw', ts', tt', b1, b2, b3, b4⟩ := ih (l + 1) z (upd te l (nTe l)) (upd ac l (nA l)) (upd aA l (nA1 l)) (upd aB l (nB l)) tw1 ts1 tt1 (by omega) (by omega)
    refine ⟨te', ac', aA', aB', tw', ts', tt', b1, fun j c1 c2 => ?_, fun m hm => ?_, fun m hm => ?_⟩
    · by_cases e : j = l
      · subst e
        obtain ⟨e1, e2, e3, e4⟩ := b3 j (Or.inl (by omega))
        rw [e1, e2, e3, e4]
        refine ⟨ud_s, ud_s, ud_s, ud_s, fun k' i q1 q2 q3 => ?_⟩
        have ek : k' = k := (nI_eq (by omega) (by omega)).mp (q1.symm.trans k2)
        subst ek
        obtain ⟨g1, g2, g3⟩ := b4 (j * 4 + i) (Or.inl (by omega))
        rw [g1, g2, g3]
        exact a2 i (Nat.zero_le _) q3
      · exact b2 j (by omega) c2
    · obtain ⟨e1, e2, e3, e4⟩ := b3 m (by omega)
      rw [e1, e2, e3, e4]
      exact ⟨ud_n (by omega), ud_n (by omega), ud_n (by omega), ud_n (by omega)⟩
    · obtain ⟨g1, g2, g3⟩ := b4 m (by omega)
      obtain ⟨e1, e2, e3⟩ := a3 m (by omega)
      rw [g1, g2, g3, e1, e2, e3]
      exact ⟨rfl, rfl, rfl⟩
end FF
theorem op_fees {N n : Nat} {S : ns_S} (hN : 20000 ≤ N) (hR : Rel S n) : ∃ o1 o2, aX10_fees N S = some o1 ∧ aX11_fees N S = some o2 ∧ o1.1 = o2.1 ∧ Rel (uX11_fees (uX10_fees S o1) o2) n := by
  obtain ⟨⟨X, hM, hC, hV⟩, hT, hI⟩ := hR
  obtain ⟨hb, ⟨t, ht, t1, t2⟩, f1, f2⟩ := hT
  obtain ⟨u, hu⟩ := TB_ex (tp := S.2.1 1) (fun j hj => (hb j hj).2)
  have hu63 : TB (S.2.1 63) u := fun j hj => by rw [(hb j hj).1]; exact hu j hj
  obtain ⟨k', p', m', e1, e2, e3, e4, e5⟩ := scan_eq (N := N) hu ht (by omega) t 0 N (S.2.1 4) (S.2.1 5) (S.2.1 6) (by omega) (by omega) (fun q h => absurd h (Nat.not_lt_zero q))
  have hCT : CT u t (nI (cS u t + 1)) k' p' m' := ⟨rfl, fun q hq => by
    by_cases c : q < t
    · have := e2 q c (hq.2 c)
      unfold kK mN
      rw [if_neg (by omega), if_neg (by omega)]
      exact this
    · obtain rfl : q = t := by have := hq.1; omega
      unfold kK mN
      rw [if_pos (Nat.le_refl _), if_pos (Nat.le_refl _)]
      exact ⟨e3, e4, e5⟩⟩
  obtain ⟨s, v, n1, tk⟩ := next_eq (N := N) hu63 ht (by omega) (a := 0) (Nat.zero_le t) (S.1 4005) (S.1 4007) (S.1 4006)
  obtain ⟨q1, q2⟩ := nx_PT (u := u) (Nat.zero_le t) (fun _ => Or.inl rfl)
  have q3 : cS u (nx u t 0) = 0 := q2
  have hX := text_both (N := N) (tp := S.2.1 1) (li := S.2.1 88) (te := S.2.1 89) (ac := S.2.1 93) (aA := S.2.1 94) (aB := S.2.1 95) (tw := S.2.1 90) (ts := S.2.1 91) (tt := S.2.1 92) hCT hu63 ht (by omega) (t + 1) (nx u t 0) 0 N N 0 (-1) 0 (S.1 4011) (S.1 4012) s v 0 (S.2.1 11) (S.2.1 12) (S.2.1 13) (S.2.1 14) (S.2.1 8) (S.2.1 9) (S.2.1 10) (S.2.1 96) (S.2.1 97) (S.2.1 98) (S.2.1 99) (S.2.1 100) (S.2.1 101) (S.2.1 102) q1 (by omega) (by omega) (by omega) (Nat.zero_le _) tk ⟨rfl, Or.inl ⟨rfl, rfl⟩⟩ (fun _ => Nat.zero_le _) (fun _ => rfl) (fun j hj => by omega) (fun j hj => by omega)
  rw [q3] at hX
  have hcl : fX1_readText N 500 (S.1 192) (S.2.1 4) (S.2.1 5) (S.2.1 6) (S.2.1 1) (S.1 130) (S.1 131) (S.1 132) (S.1 448) (S.2.1 11) (S.2.1 12) (S.2.1 13) (S.2.1 14) (S.2.1 8) (S.2.1 9) (S.2.1 10) (S.1 1) = fX1_readText_37 N 500 N (nI (cS u t + 1)) k' p' m' (S.2.1 1) 0 (-1) (nI 0) 0 (S.2.1 11) (S.2.1 12) (S.2.1 13) (S.2.1 14) (S.2.1 8) (S.2.1 9) (S.2.1 10) 1 (nI 0) := by
    unfold fX1_readText fX9_scan
    rw [t1, show fX9_scan_7 N 500 N 0 (S.2.1 4) (S.2.1 5) (S.2.1 6) (S.2.1 1) (nI t) 0 = _ from e1, Option.bind_some]
    rfl
  have hrf : aX11_fees N S = fX11_fees_49 N N 0 0 (nI t) (nI (eN u t (nx u t 0))) 0 (-1) 0 (nI 0) (S.2.1 63) (nI (nx u t 0)) v s (S.1 4011) (S.2.1 96) (S.1 4012) (S.2.1 97) (S.2.1 98) (S.2.1 99) (S.2.1 100) (S.2.1 101) (S.2.1 102) (S.2.1 88) (S.2.1 89) (S.2.1 93) (S.2.1 94) (S.2.1 95) (S.2.1 90) (S.2.1 91) (S.2.1 92) 1 := by
    unfold aX11_fees fX11_fees
    rw [t2, show fX11_next N 0 (nI t) (S.2.1 63) (S.1 4005) (S.1 4007) (S.1 4006) = _ from n1, Option.bind_some]
    rfl
  rw [hrf]
  unfold aX10_fees fX10_fees
  rw [hcl]
  rcases hX with ⟨cn, kn, pl, nu, F, FP, at1, dc, tc, sub, sgn, bnd, act, num, div, le, at2, lat, nl, pla, v, s, lap, nTe, got, nW, nS, nT, nA, nA1, nB, hx1, hx2⟩ | ⟨cn, kn, pl, nu, at1, l, tc, sub, sgn, bnd, act, num, div, le, at2, pla, v, s, lap, nTe, got, nW, nS, nT, nA, nA1, nB, hl, hx1, hx2, hLT, hLA⟩
  · rw [hx1, hx2, Option.bind_some, if_pos rfl]
    exact ⟨_, _, rfl, rfl, rfl, ⟨⟨X, all31 (hM 65 (by decide) (by decide)) (hM 66 (by decide) (by decide)) (hM 67 (by decide) (by decide)) (hM 68 (by decide) (by decide)) (hM 69 (by decide) (by decide)) (hM 70 (by decide) (by decide)) (hM 71 (by decide) (by decide)) (hM 72 (by decide) (by decide)) (hM 73 (by decide) (by decide)) (hM 74 (by decide) (by decide)) (hM 75 (by decide) (by decide)) (hM 76 (by decide) (by decide)) (hM 77 (by decide) (by decide)) (hM 78 (by decide) (by decide)) (hM 79 (by decide) (by decide)) (hM 80 (by decide) (by decide)) (hM 81 (by decide) (by decide)) (hM 82 (by decide) (by decide)) (hM 83 (by decide) (by decide)) (hM 84 (by decide) (by decide)) (hM 85 (by decide) (by decide)) (hM 86 (by decide) (by decide)) (hM 87 (by decide) (by decide)) (hM 88 (by decide) (by decide)) (hM 89 (by decide) (by decide)) (hM 90 (by decide) (by decide)) (hM 91 (by decide) (by decide)) (hM 92 (by decide) (by decide)) (hM 93 (by decide) (by decide)) (hM 94 (by decide) (by decide)) (hM 95 (by decide) (by decide)), ⟨hC.1, hC.2.1, hC.2.2.1, hC.2.2.2.1, hC.2.2.2.2⟩, hV⟩, ⟨hb, ⟨0, Nat.zero_le _, rfl, rfl⟩, rfl, rfl⟩, Im_fr (S := S) ⟨all31 kp.rf kp.rf kp.rf kp.rf kp.rf kp.rf kp.rf kp.rf kp.rf kp.rf kp.rf kp.rf kp.rf kp.rf kp.rf kp.rf kp.rf kp.rf kp.rf kp.rf kp.rf kp.rf kp.rf kp.rf kp.rf kp.rf kp.rf kp.rf kp.rf kp.rf kp.rf, by intro i hi; simp (disch := omega) only [uX11_fees, uX10_fees, ns_A, ns_I, va_up_ne], by intro u hu; simp (disch := omega) only [uX11_fees, uX10_fees, ns_A, ns_I, va_up_ne], rfl⟩ (Nat.le_refl n) hI⟩⟩
  · obtain ⟨te', ac', aA', aB', tw', ts', tt', b1, b2, b3, b4⟩ := in119 (N := N) (L := l) (li := upd (S.2.1 88) 0 (nI l)) (le := le) (at2 := at2) (pla := pla) (v := v) (s := s) (lap := lap) (got := got) (tr := S.2.1 63) (nTe := nTe) (nW := nW) (nS := nS) (nT := nT) (nA := nA) (nA1 := nA1) (nB := nB) hl (by omega) (fun j hj => by obtain ⟨k, k1, -, k3, -⟩ := hLT j hj; exact ⟨k, k1, k3⟩) l 0 N (S.2.1 89) (S.2.1 93) (S.2.1 94) (S.2.1 95) (S.2.1 90) (S.2.1 91) (S.2.1 92) (by omega) (by omega)
    have b1' : fX11_fees_119 N N 0 0 le at2 0 (-1) 0 (nI l) (S.2.1 63) pla v s lap nTe got nW nS nT nA nA1 nB (upd (S.2.1 88) 0 (nI l)) (S.2.1 89) (S.2.1 93) (S.2.1 94) (S.2.1 95) (S.2.1 90) (S.2.1 91) (S.2.1 92) 0 = _ := b1
    rw [hx1, hx2, b1', Option.bind_some, if_neg (show ¬ (1 : Int32) = 0 by decide)]
    unfold fX2_copyFrom
    simp only [cp16, cp64, Option.bind_some]
    refine ⟨_, _, rfl, rfl, rfl, ⟨⟨va_up (va_up (va_up (va_up (va_up (va_up (va_up (va_up X 95 (fun j => (aB' j).toBitVec.toNat)) 94 (fun j => (aA' j).toBitVec.toNat)) 93 (fun j => (ac' j).toBitVec.toNat)) 92 (fun j => (tt' j).toBitVec.toNat)) 91 (fun j => (ts' j).toBitVec.toNat)) 90 (fun j => (tw' j).toBitVec.toNat)) 89 (fun j => (te' j).toBitVec.toNat)) 88 (fun _ => l), ?_, ⟨hC.1, hC.2.1, hC.2.2.1, hC.2.2.2.1, ⟨rfl, ?_⟩⟩, hV.1, hV.2.1, hV.2.2.1, hV.2.2.2.1, hV.2.2.2.2.1, hV.2.2.2.2.2.1, hV.2.2.2.2.2.2.1, ⟨hl, ?_⟩⟩, ⟨hb, ⟨0, Nat.zero_le _, rfl, rfl⟩, rfl, rfl⟩, Im_fr (S := S) ⟨all31 kp.rf kp.rf kp.rf kp.rf kp.rf kp.rf kp.rf kp.rf kp.rf kp.rf kp.rf kp.rf kp.rf kp.rf kp.rf kp.rf kp.rf kp.rf kp.rf kp.rf kp.rf kp.rf kp.rf (kp.up (by decide)) (fun j hj => (b3 j (Or.inr (Nat.le_trans hl hj))).1) (fun j hj => (b4 j (Or.inr (Nat.le_trans (Nat.mul_le_mul_right 4 hl) hj))).1) (fun j hj => (b4 j (Or.inr (Nat.le_trans (Nat.mul_le_mul_right 4 hl) hj))).2.1) (fun j hj => (b4 j (Or.inr (Nat.le_trans (Nat.mul_le_mul_right 4 hl) hj))).2.2) (fun j hj => (b3 j (Or.inr (Nat.le_trans hl hj))).2.1) (fun j hj => (b3 j (Or.inr (Nat.le_trans hl hj))).2.2.1) (fun j hj => (b3 j (Or.inr (Nat.le_trans hl hj))).2.2.2), by intro i hi; simp (disch := omega) only [uX11_fees, uX10_fees, ns_A, ns_I, va_up_ne], by intro u hu; simp (disch := omega) only [uX11_fees, uX10_fees, ns_A, ns_I, va_up_ne], rfl⟩ (Nat.le_refl n) hI⟩⟩
    · refine all31 (hM 65 (by decide) (by decide)) (hM 66 (by decide) (by decide)) (hM 67 (by decide) (by decide)) (hM 68 (by decide) (by decide)) (hM 69 (by decide) (by decide)) (hM 70 (by decide) (by decide)) (hM 71 (by decide) (by decide)) (hM 72 (by decide) (by decide)) (hM 73 (by decide) (by decide)) (hM 74 (by decide) (by decide)) (hM 75 (by decide) (by decide)) (hM 76 (by decide) (by decide)) (hM 77 (by decide) (by decide)) (hM 78 (by decide) (by decide)) (hM 79 (by decide) (by decide)) (hM 80 (by decide) (by decide)) (hM 81 (by decide) (by decide)) (hM 82 (by decide) (by decide)) (hM 83 (by decide) (by decide)) (hM 84 (by decide) (by decide)) (hM 85 (by decide) (by decide)) (hM 86 (by decide) (by decide)) (hM 87 (by decide) (by decide)) (fun j hj => ?_) (fun j _ => tn_nI (te' j)) (fun j _ => tn_nI (tw' j)) (fun j _ => tn_nI (ts' j)) (fun j _ => tn_nI (tt' j)) (fun j _ => tn_nI (ac' j)) (fun j _ => tn_nI (aA' j)) (fun j _ => tn_nI (aB' j))
      obtain rfl : j = 0 := by have : j < 1 := hj; omega
      rfl
    · intro j hj
      have hj : j < l := hj
      obtain ⟨k, k1, k2, k3, k4⟩ := hLT j hj
      obtain ⟨a, a1, a2, a3, a4, a5, a6⟩ := hLA j hj
      obtain ⟨g1, g2, g3, g4, g5⟩ := b2 j (Nat.zero_le _) hj
      have j16 : j < 16 := by omega
      have ea : (ac' j).toBitVec.toNat = a := by rw [g2, a4, pk_tn (by omega)]
      have ek : (te' j).toBitVec.toNat = k := by rw [g1, k3, pk_tn (by omega)]
      refine ⟨?_, fun h => ?_, fun h => ?_, ?_, fun i hi => ?_⟩
      · show va_cpy act _ 0 0 16 j = nI ((ac' j).toBitVec.toNat + 201)
        rw [cpy_in j16, ea, a3]
      · have h : (ac' j).toBitVec.toNat < 13 := h
        rw [ea] at h
        obtain ⟨x, x1, x2, x3⟩ := a5 h
        show va_cpy num _ 0 0 16 j = nI ((aA' j).toBitVec.toNat)
        rw [cpy_in j16, g3, x2, x3, pk_tn (by omega)]
      · have h : (ac' j).toBitVec.toNat = 10 := h
        rw [ea] at h
        obtain ⟨x, x1, x2, x3, x4⟩ := a6 h
        show va_cpy div _ 0 0 16 j = nI ((aB' j).toBitVec.toNat)
        rw [cpy_in j16, g4, x3, x4, pk_tn (by omega)]
      · show va_cpy tc _ 0 0 16 j = nI ((te' j).toBitVec.toNat)
        rw [cpy_in j16, ek, k2]
      · have hi : i < (te' j).toBitVec.toNat := hi
        rw [ek] at hi
        obtain ⟨w, sg, x, c1, c2, c3, c4, c5, c6, c7, c8, c9, c10, c11⟩ := k4 i hi
        obtain ⟨y1, y2, y3⟩ := g5 k i k3 k1 hi
        have i64 : j * 4 + i < 64 := by omega
        refine ⟨?_, ?_, ?_⟩
        · show va_cpy sub _ 0 0 64 (j * 4 + i) = nI ((tw' (j * 4 + i)).toBitVec.toNat + 201)
          rw [cpy_in i64, y1, c6, c9, pk_tn (by omega)]
        · show va_cpy sgn _ 0 0 64 (j * 4 + i) = nI ((ts' (j * 4 + i)).toBitVec.toNat)
          rw [cpy_in i64, y2, c7, c10, pk_tn (by omega)]
        · show va_cpy bnd _ 0 0 64 (j * 4 + i) = nI ((tt' (j * 4 + i)).toBitVec.toNat)
          rw [cpy_in i64, y3, c8, c11, pk_tn (by omega)]
    · intro j hj
      have hj : j < l := hj
      obtain ⟨k, k1, k2, k3, k4⟩ := hLT j hj
      obtain ⟨a, a1, a2, a3, a4, a5, a6⟩ := hLA j hj
      obtain ⟨g1, g2, g3, g4, g5⟩ := b2 j (Nat.zero_le _) hj
      have ea : (ac' j).toBitVec.toNat = a := by rw [g2, a4, pk_tn (by omega)]
      have ek : (te' j).toBitVec.toNat = k := by rw [g1, k3, pk_tn (by omega)]
      show (te' j).toBitVec.toNat ≤ 4 ∧ 8 ≤ (ac' j).toBitVec.toNat ∧ (ac' j).toBitVec.toNat ≤ 14 ∧ ((ac' j).toBitVec.toNat < 13 → (aA' j).toBitVec.toNat < 100000) ∧ ((ac' j).toBitVec.toNat = 10 → 1 ≤ (aB' j).toBitVec.toNat ∧ (aB' j).toBitVec.toNat < 100000) ∧ ∀ i, i < (te' j).toBitVec.toNat → (2 ≤ (tw' (j * 4 + i)).toBitVec.toNat ∧ (tw' (j * 4 + i)).toBitVec.toNat ≤ 7) ∧ (60 ≤ (ts' (j * 4 + i)).toBitVec.toNat ∧ (ts' (j * 4 + i)).toBitVec.toNat ≤ 62) ∧ (tt' (j * 4 + i)).toBitVec.toNat < 100000
      rw [ea, ek]
      refine ⟨k1, a1, a2, fun h => ?_, fun h => ?_, fun i hi => ?_⟩
      · obtain ⟨x, x1, x2, x3⟩ := a5 h
        rw [g3, x3, pk_tn (by omega)]; exact x1
      · obtain ⟨x, x1, x2, x3, x4⟩ := a6 h
        rw [g4, x4, pk_tn (by omega)]; exact ⟨x2 rfl, x1⟩
      · obtain ⟨w, sg, x, c1, c2, c3, c4, c5, c6, c7, c8, c9, c10, c11⟩ := k4 i hi
        obtain ⟨y1, y2, y3⟩ := g5 k i k3 k1 hi
        rw [y1, y2, y3, c9, c10, c11, pk_tn (by omega), pk_tn (by omega), pk_tn (by omega)]
        exact ⟨⟨c1, c2⟩, ⟨c3, c4⟩, c5⟩
