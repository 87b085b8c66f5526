/-! the text of fees: tests -/
def CT (u : Nat → Nat) (t : Nat) (cnt : Int32) (kn pl nu : Nat → Int32) : Prop := cnt = nI (cS u t + 1) ∧ ∀ q, PT u t q → kn (cS u q) = nI (kK u t q) ∧ pl (cS u q) = nI q ∧ nu (cS u q) = nI (mN u t q)
def TSt (i : Nat) (sub sgn bnd nW nS nT : Nat → Int32) : Prop := ∃ w s x, 2 ≤ w ∧ w ≤ 7 ∧ 60 ≤ s ∧ s ≤ 62 ∧ x < 100000 ∧ sub i = nI (w + 201) ∧ sgn i = nI s ∧ bnd i = nI x ∧ nW i = nI w ∧ nS i = nI s ∧ nT i = nI x
def LT (l n : Nat) (sub sgn bnd tc nW nS nT nTe : Nat → Int32) : Prop := n ≤ 4 ∧ tc l = nI n ∧ nTe l = nI n ∧ ∀ i, i < n → TSt (l * 4 + i) sub sgn bnd nW nS nT
def LTs (L : Nat) (sub sgn bnd tc nW nS nT nTe : Nat → Int32) : Prop := ∀ l, l < L → ∃ n, LT l n sub sgn bnd tc nW nS nT nTe
/-- faults that were noted: the class's, the reference's -/
def LF (f fp lat lap : Int32) : Prop := f = lat ∧ ((lat = 0 ∧ fp = -1) ∨ ((lat = 2 ∨ lat = 3) ∧ fp = lap))
section PA
variable {N : Nat} {u : Nat → Nat} {t : Nat} {cnt : Int32} {kn pl nu tr : Nat → Int32}
theorem kK_lt {q : Nat} : kK u t q < 256 := by
  unfold kK kd
  split
  · decide
  · split
    · split <;> decide
    · split
      · cases hf : fldW (mtB u t q) 15 with
        | none => decide
        | some k => have := fld_lt 15 k hf; show k + 201 < 256; omega
      · split
        · rename_i g
          have : u q = 58 ∨ u q = 59 ∨ u q = 47 ∨ u q = 60 ∨ u q = 62 ∨ u q = 61 := of_decide_eq_true g
          omega
        · decide
theorem mN_lt {q : Nat} (h : q ≤ t) : mN u t q < 100000 := by
  unfold mN
  split
  · decide
  · exact nm_lt h
theorem cS_t {q : Nat} (h : q ≤ t) : cS u q ≤ cS u t := by
  have := cS_mono (u := u) (q := q) (t - q)
  rw [show q + (t - q) = t by omega] at this
  exact this
theorem kH (hC : CT u t cnt kn pl nu) (ht : t ≤ 500) {q : Nat} (h : PT u t q) : fX1_kindHere N (nI (cS u q)) cnt kn = some (nI (kK u t q)) := by
  have h1 := cS_t (u := u) h.1
  have h2 := cS_le (u := u) t
  unfold fX1_kindHere
  rw [hC.1, if_neg (nI_ge (by omega) (by omega)), nz_ald (by omega) (by omega), Option.bind_some, (hC.2 q h).1]
theorem pH (hC : CT u t cnt kn pl nu) (ht : t ≤ 500) {q : Nat} (h : PT u t q) : fX1_placeHere N (nI (cS u q)) cnt pl = some (nI q) := by
  have h1 := cS_t (u := u) h.1
  have h2 := cS_le (u := u) t
  unfold fX1_placeHere
  rw [hC.1, if_neg (nI_ge (by omega) (by omega)), nz_ald (by omega) (by omega), Option.bind_some, (hC.2 q h).2.1]
theorem nH (hC : CT u t cnt kn pl nu) (ht : t ≤ 500) {q : Nat} (h : PT u t q) : fX1_numberHere N (nI (cS u q)) cnt nu = some (nI (mN u t q)) := by
  have h1 := cS_t (u := u) h.1
  have h2 := cS_le (u := u) t
  unfold fX1_numberHere
  rw [hC.1, if_neg (nI_ge (by omega) (by omega)), nz_ald (by omega) (by omega), Option.bind_some, (hC.2 q h).2.2]
theorem pass_y (hC : CT u t cnt kn pl nu) (ht : t ≤ 500) {q : Nat} (h : PT u t q) {k : Nat} {K : Int32} (hK : K = nI k) (h0 : k ≠ 0) (hk : kK u t q = k) : fX1_pass N (nI (cS u q)) cnt kn K = some (1, nI (cS u (nxt u t q))) := by
  unfold fX1_pass
  rw [kH hC ht h, Option.bind_some, if_pos (by rw [hk, hK]), nz_let, nI_1, (nxt_ok h (kK_t (u := u) (by rw [hk]; exact h0))).2.2]
theorem pass_n (hC : CT u t cnt kn pl nu) (ht : t ≤ 500) {q : Nat} (h : PT u t q) {k : Nat} {K : Int32} (hK : K = nI k) (hl : k < 2 ^ 31) (hk : kK u t q ≠ k) : fX1_pass N (nI (cS u q)) cnt kn K = some (0, nI (cS u q)) := by
  unfold fX1_pass
  rw [kH hC ht h, Option.bind_some, if_neg (by rw [hK, nI_eq (Nat.lt_trans kK_lt (by decide)) hl]; exact hk)]
theorem TK.rng {k m : Nat} {s v : Int32} (h : TK k m s v) {a b : Nat} {A B : Int32} (hA : A = nI a) (hB : B = nI b) (ha : a < 15) (hb : b < 15) : (201 + a ≤ k ∧ k ≤ 201 + b ∧ s = 2 ∧ v = nI (k - 201) ∧ fX11_in N v A B = some 1) ∨ (¬ (201 + a ≤ k ∧ k ≤ 201 + b) ∧ (¬ s = 2 ∨ (s = 2 ∧ fX11_in N v A B = some 0))) := by
  subst hA hB
  rcases h with ⟨h1, h2⟩ | ⟨h1, h2⟩ | ⟨h1, h2, h3, h4⟩ | ⟨h1, h2, h3, h4⟩ | ⟨h1, h2, h3, h4⟩
  · exact Or.inr ⟨by omega, Or.inl (by rw [h2]; decide)⟩
  · refine Or.inr ⟨by omega, ?_⟩
    rcases h2 with h2 | ⟨h2, h3⟩
    · exact Or.inl (by rw [h2]; decide)
    · exact Or.inr ⟨h2, by rw [h3]; exact inM (by omega)⟩
  · exact Or.inr ⟨by omega, Or.inl (by rw [h2]; decide)⟩
  · by_cases c : 201 + a ≤ k ∧ k ≤ 201 + b
    · refine Or.inl ⟨c.1, c.2, h3, h4, ?_⟩
      rw [h4, inLD (by omega) (by omega) (by omega), decide_eq_true (by omega)]
      rfl
    · refine Or.inr ⟨c, Or.inr ⟨h3, ?_⟩⟩
      rw [h4, inLD (by omega) (by omega) (by omega), decide_eq_false (by omega)]
      rfl
  · exact Or.inr ⟨by omega, Or.inl (by rw [h3]; decide)⟩
theorem TK.word {k m : Nat} {s v : Int32} (h : TK k m s v) {j : Nat} {J : Int32} (hJ : J = nI j) (hj : j < 15) : fX11_isWord N s v J = some (eI (decide (k = 201 + j))) := by
  subst hJ
  unfold fX11_isWord
  rcases h with ⟨h1, h2⟩ | ⟨h1, h2⟩ | ⟨h1, h2, h3, h4⟩ | ⟨h1, h2, h3, h4⟩ | ⟨h1, h2, h3, h4⟩
  · rw [h2, if_neg (by decide), decide_eq_false (by omega)]; rfl
  · rcases h2 with h2 | ⟨h2, h3⟩
    · rw [h2, if_neg (by decide), decide_eq_false (by omega)]; rfl
    · rw [h2, if_pos rfl, h3, if_neg (by rw [nz_Meq (by omega)]; exact id), decide_eq_false (by omega)]; rfl
  · rw [h2, if_neg (by decide), decide_eq_false (by omega)]; rfl
  · rw [h3, if_pos rfl, h4, iteq (nz_eq (by omega) (by omega))]
    by_cases c : k = 201 + j
    · rw [if_pos (by omega), decide_eq_true c]; rfl
    · rw [if_neg (by omega), decide_eq_false c]; rfl
  · rw [h3, if_neg (by decide), decide_eq_false (by omega)]; rfl
theorem TK.sign {k m : Nat} {s v : Int32} (h : TK k m s v) {c : Nat} {C : Int32} (hc : C = nI c) (h47 : 47 ≤ c) (h62 : c ≤ 62) : fX11_isSign N s v C = some (eI (decide (k = c))) := by
  subst hc
  unfold fX11_isSign
  rcases h with ⟨h1, h2⟩ | ⟨h1, h2⟩ | ⟨h1, h2, h3, h4⟩ | ⟨h1, h2, h3, h4⟩ | ⟨h1, h2, h3, h4⟩
  · rw [h2, if_neg (by decide), decide_eq_false (by omega)]; rfl
  · rcases h2 with h2 | ⟨h2, h3⟩
    · rw [h2, if_neg (by decide), decide_eq_false (by omega)]; rfl
    · rw [h2, if_neg (by decide), decide_eq_false (by omega)]; rfl
  · rw [h2, if_neg (by decide), decide_eq_false (by omega)]; rfl
  · rw [h3, if_neg (by decide), decide_eq_false (by omega)]; rfl
  · rw [h3, if_pos rfl, h4, iteq (nz_eq (by omega) (by omega))]
    by_cases e : k = c
    · rw [if_pos e, decide_eq_true e]; rfl
    · rw [if_neg e, decide_eq_false e]; rfl
theorem TK.cmp {k m : Nat} {s v : Int32} (h : TK k m s v) : (60 ≤ k ∧ k ≤ 62 ∧ s = 4 ∧ v = nI k) ∨ (¬ (60 ≤ k ∧ k ≤ 62) ∧ (¬ s = 4 ∨ (s = 4 ∧ v = nI k ∧ k < 60))) := by
  rcases h with ⟨h1, h2⟩ | ⟨h1, h2⟩ | ⟨h1, h2, h3, h4⟩ | ⟨h1, h2, h3, h4⟩ | ⟨h1, h2, h3, h4⟩
  · exact Or.inr ⟨by omega, Or.inl (by rw [h2]; decide)⟩
  · refine Or.inr ⟨by omega, Or.inl ?_⟩
    rcases h2 with h2 | ⟨h2, h3⟩ <;> rw [h2] <;> decide
  · exact Or.inr ⟨by omega, Or.inl (by rw [h2]; decide)⟩
  · exact Or.inr ⟨by omega, Or.inl (by rw [h3]; decide)⟩
  · by_cases c : 60 ≤ k
    · exact Or.inl ⟨c, h2, h3, h4⟩
    · exact Or.inr ⟨by omega, Or.inr ⟨h3, h4, by omega⟩⟩
theorem TK.num {k m : Nat} {s v : Int32} (h : TK k m s v) : (k = 2 ∧ s = 3 ∧ v = nI m ∧ m < 100000) ∨ (k ≠ 2 ∧ ¬ s = 3) := by
  rcases h with ⟨h1, h2⟩ | ⟨h1, h2⟩ | ⟨h1, h2, h3, h4⟩ | ⟨h1, h2, h3, h4⟩ | ⟨h1, h2, h3, h4⟩
  · exact Or.inr ⟨by omega, by rw [h2]; decide⟩
  · refine Or.inr ⟨by omega, ?_⟩
    rcases h2 with h2 | ⟨h2, h3⟩ <;> rw [h2] <;> decide
  · exact Or.inl ⟨h1, h2, h3, h4⟩
  · exact Or.inr ⟨by omega, by rw [h3]; decide⟩
  · exact Or.inr ⟨by omega, by rw [h3]; decide⟩
theorem TK.fin {k m : Nat} {s v : Int32} (h : TK k m s v) : (k = 0 ∧ s = 0) ∨ (k ≠ 0 ∧ ¬ s = 0) := by
  rcases h with ⟨h1, h2⟩ | ⟨h1, h2⟩ | ⟨h1, h2, h3, h4⟩ | ⟨h1, h2, h3, h4⟩ | ⟨h1, h2, h3, h4⟩
  · exact Or.inl ⟨h1, h2⟩
  · refine Or.inr ⟨by omega, ?_⟩
    rcases h2 with h2 | ⟨h2, h3⟩ <;> rw [h2] <;> decide
  · exact Or.inr ⟨by omega, by rw [h2]; decide⟩
  · exact Or.inr ⟨by omega, by rw [h3]; decide⟩
  · exact Or.inr ⟨by omega, by rw [h3]; decide⟩
theorem nextQ (hT : TB tr u) (ht : t ≤ 500) (hN : 1000 < N) {q : Nat} (h : PT u t q) (hq : q < t) (P V S : Int32) : ∃ s v, fX11_next N (nI (eN u t q)) (nI t) tr P V S = some (nI (nxt u t q), v, nI (eN u t (nxt u t q)), s) ∧ TK (kK u t (nxt u t q)) (mN u t (nxt u t q)) s v :=
  next_eq hT ht hN (eN_ok hq (h.2 hq)).2.1 P V S
theorem need_y (hT : TB tr u) (ht : t ≤ 500) (hN : 1000 < N) {q : Nat} (h : PT u t q) {s v f fp : Int32} (hk : TK (kK u t q) (mN u t q) s v) {c : Nat} {C : Int32} (hc : C = nI c) (h47 : 47 ≤ c) (h62 : c ≤ 62) (e : kK u t q = c) : ∃ s' v', fX11_need N s v (nI (eN u t q)) (nI t) tr (nI q) f fp C = some (1, nI (nxt u t q), v', nI (eN u t (nxt u t q)), s', f, fp) ∧ TK (kK u t (nxt u t q)) (mN u t (nxt u t q)) s' v' := by
  obtain ⟨s', v', h1, h2⟩ := nextQ (N := N) hT ht hN h (kK_t (u := u) (by rw [e]; omega)) (nI q) v s
  refine ⟨s', v', ?_, h2⟩
  unfold fX11_need
  rw [hk.sign hc h47 h62, Option.bind_some, decide_eq_true e, if_neg (show ¬ eI true = 0 by decide), h1]
  rfl
theorem need_n {q : Nat} {s v f fp : Int32} (hk : TK (kK u t q) (mN u t q) s v) {c : Nat} {C : Int32} (hc : C = nI c) (h47 : 47 ≤ c) (h62 : c ≤ 62) (e : kK u t q ≠ c) : fX11_need N s v (nI (eN u t q)) (nI t) tr (nI q) f fp C = some (0, nI q, v, nI (eN u t q), s, 1, nI q) := by
  unfold fX11_need
  rw [hk.sign hc h47 h62, Option.bind_some, decide_eq_false e, if_pos (show eI false = 0 from rfl)]
  rfl
theorem num_y (hT : TB tr u) (ht : t ≤ 500) (hN : 1000 < N) {q : Nat} (h : PT u t q) {s v f fp got : Int32} (hs : s = 3) (hv : v = nI (mN u t q)) (e : kK u t q = 2) : ∃ s' v', fX11_number N s v got (nI (eN u t q)) (nI t) tr (nI q) f fp = some (1, nI (mN u t q), nI (nxt u t q), v', nI (eN u t (nxt u t q)), s', f, fp) ∧ TK (kK u t (nxt u t q)) (mN u t (nxt u t q)) s' v' := by
  obtain ⟨s', v', h1, h2⟩ := nextQ (N := N) hT ht hN h (kK_t (u := u) (by rw [e]; decide)) (nI q) v s
  refine ⟨s', v', ?_, h2⟩
  unfold fX11_number
  rw [if_pos hs, h1, hv]
  rfl
theorem num_n {q : Nat} {s v f fp got : Int32} (hs : ¬ s = 3) : fX11_number N s v got (nI (eN u t q)) (nI t) tr (nI q) f fp = some (0, got, nI q, v, nI (eN u t q), s, 1, nI q) := by
  unfold fX11_number
  rw [if_neg hs]
  rfl
theorem LTs.up {L l n : Nat} {sub sgn bnd tc nW nS nT nTe : Nat → Int32} (h : LTs L sub sgn bnd tc nW nS nT nTe) (hl : L ≤ l) (hn : n < 4) {a b c d a' b' c' d' : Int32} : LTs L (upd sub (l * 4 + n) a) (upd sgn (l * 4 + n) b) (upd bnd (l * 4 + n) c) (upd tc l d) (upd nW (l * 4 + n) a') (upd nS (l * 4 + n) b') (upd nT (l * 4 + n) c') (upd nTe l d') := by
  intro l' hl'
  obtain ⟨m, h1, h2, h3, h4⟩ := h l' hl'
  refine ⟨m, h1, by rw [ud_n (by omega)]; exact h2, by rw [ud_n (by omega)]; exact h3, fun i hi => ?_⟩
  obtain ⟨w, s, x, c1, c2, c3, c4, c5, c6, c7, c8, c9, c10, c11⟩ := h4 i hi
  refine ⟨w, s, x, c1, c2, c3, c4, c5, ?_, ?_, ?_, ?_, ?_, ?_⟩ <;> rw [ud_n (by omega)] <;> assumption
theorem LT.up {l n : Nat} {sub sgn bnd tc nW nS nT nTe : Nat → Int32} (h : LT l n sub sgn bnd tc nW nS nT nTe) (hn : n < 4) {w s x : Nat} (c1 : 2 ≤ w) (c2 : w ≤ 7) (c3 : 60 ≤ s) (c4 : s ≤ 62) (c5 : x < 100000) : LT l (n + 1) (upd sub (l * 4 + n) (nI (w + 201))) (upd sgn (l * 4 + n) (nI s)) (upd bnd (l * 4 + n) (nI x)) (upd tc l (nI (n + 1))) (upd nW (l * 4 + n) (nI w)) (upd nS (l * 4 + n) (nI s)) (upd nT (l * 4 + n) (nI x)) (upd nTe l (nI (n + 1))) := by
  refine ⟨by omega, ud_s, ud_s, fun i hi => ?_⟩
  by_cases e : i = n
  · subst e
    exact ⟨w, s, x, c1, c2, c3, c4, c5, ud_s, ud_s, ud_s, ud_s, ud_s, ud_s⟩
  · obtain ⟨w, s, x, c1, c2, c3, c4, c5, c6, c7, c8, c9, c10, c11⟩ := h.2.2.2 i (by omega)
    refine ⟨w, s, x, c1, c2, c3, c4, c5, ?_, ?_, ?_, ?_, ?_, ?_⟩ <;> rw [ud_n (by omega)] <;> assumption
theorem test_both (hC : CT u t cnt kn pl nu) (hT : TB tr u) (ht : t ≤ 500) (hN : 1000 < N) {q l n : Nat} (hq : PT u t q) (hl : l < 1000) (hn : n < 1000) {s v lat lap got lat' lap' : Int32} (hk : TK (kK u t q) (mN u t q) s v) {sub sgn bnd tc nW nS nT nTe : Nat → Int32} (hL : LTs (min l 16) sub sgn bnd tc nW nS nT nTe) (hc : l < 16 → LT l (min n 4) sub sgn bnd tc nW nS nT nTe) (hnote : (if n = 4 then fX11_note N lat lap 3 (nI q) else some (lat, lap)) = some (lat', lap')) :
    (∃ qf o, PT u t qf ∧ fX1_readTest N (nI (cS u q)) cnt kn nu sub sgn bnd tc (nI l) (nI n) = some (0, nI (cS u qf), sub, sgn, bnd, tc) ∧ fX11_test N (nI q) v s lat lap (nI (eN u t q)) (nI t) tr got 0 (-1) nW nS nT nTe (nI (min l 16)) (nI n) = some o ∧ o.1 = 0 ∧ o.2.2.2.2.2.2.2.2.1 = 1 ∧ o.2.2.2.2.2.2.2.2.2.1 = nI qf)
    ∨ (∃ q3 s' v' got' sub' sgn' bnd' tc' nW' nS' nT' nTe', PT u t q3 ∧ q < q3 ∧ cS u q + 3 = cS u q3 ∧ fX1_readTest N (nI (cS u q)) cnt kn nu sub sgn bnd tc (nI l) (nI n) = some (1, nI (cS u q3), sub', sgn', bnd', tc') ∧ fX11_test N (nI q) v s lat lap (nI (eN u t q)) (nI t) tr got 0 (-1) nW nS nT nTe (nI (min l 16)) (nI n) = some (1, lat', lap', nI q3, v', nI (eN u t q3), s', got', 0, (-1), nW', nS', nT', nTe') ∧ TK (kK u t q3) (mN u t q3) s' v' ∧ LTs (min l 16) sub' sgn' bnd' tc' nW' nS' nT' nTe' ∧ (l < 16 → LT l (min (n + 1) 4) sub' sgn' bnd' tc' nW' nS' nT' nTe')) := by
  have hK := kK_lt (u := u) (t := t) (q := q)
  unfold fX1_readTest fX11_test
  rw [kH hC ht hq, Option.bind_some, iteq (show (nI (kK u t q) < 203) = (kK u t q < 203) from nz_lt (b := 203) (by omega) (by decide)), iteq (show (nI (kK u t q) ≤ 208) = (kK u t q ≤ 208) from nz_le (b := 208) (by omega) (by decide))]
  rcases hk.rng (N := N) (a := 2) (b := 7) (A := 2) (B := 7) rfl rfl (by decide) (by decide) with ⟨k1, k2, k3, k4, k5⟩ | ⟨k1, k2⟩
  rotate_left
  · by_cases c : kK u t q < 203
    · rw [if_pos c]
      rcases k2 with k2 | ⟨k2, k3⟩
      · rw [if_neg k2]
        exact Or.inl ⟨q, _, hq, rfl, rfl, rfl, rfl, rfl⟩
      · rw [if_pos k2, k3, Option.bind_some, if_pos rfl]
        exact Or.inl ⟨q, _, hq, rfl, rfl, rfl, rfl, rfl⟩
    · rw [if_neg c, if_neg (by omega)]
      rcases k2 with k2 | ⟨k2, k3⟩
      · rw [if_neg k2]
        exact Or.inl ⟨q, _, hq, rfl, rfl, rfl, rfl, rfl⟩
      · rw [if_pos k2, k3, Option.bind_some, if_pos rfl]
        exact Or.inl ⟨q, _, hq, rfl, rfl, rfl, rfl, rfl⟩
  · rw [if_neg (by omega), if_pos (by omega), nz_let, nI_1, if_pos k3, k5, Option.bind_some, if_neg (show ¬ (1 : Int32) = 0 by decide)]
    have hq1 : q < t := kK_t (u := u) (by omega)
    obtain ⟨p1, p2, p3⟩ := nxt_ok hq hq1
    rw [← p3, kH hC ht p1, Option.bind_some]
    have e46 : (if nI n = 4 then (fX11_note N lat lap 3 (nI q)).bind fun o2 => gX11_test_46 N (nI q) v s o2.1 o2.2 (nI (eN u t q)) (nI t) tr got 0 (-1) nW nS nT nTe (nI (min l 16)) (nI n) v else gX11_test_46 N (nI q) v s lat lap (nI (eN u t q)) (nI t) tr got 0 (-1) nW nS nT nTe (nI (min l 16)) (nI n) v) = gX11_test_46 N (nI q) v s lat' lap' (nI (eN u t q)) (nI t) tr got 0 (-1) nW nS nT nTe (nI (min l 16)) (nI n) v := by
      rw [iteq (show (nI n = 4) = (n = 4) from nz_eq (b := 4) (by omega) (by decide))]
      by_cases c : n = 4
      · rw [if_pos c] at hnote ⊢
        rw [hnote]; rfl
      · rw [if_neg c] at hnote ⊢
        cases hnote; rfl
    rw [e46]
    unfold gX11_test_46
    obtain ⟨s1, v1, n1, t1⟩ := nextQ (N := N) hT ht hN hq hq1 (nI q) v s
    rw [n1, Option.bind_some]
    have hK1 := kK_lt (u := u) (t := t) (q := nxt u t q)
    have e60 : (nI (kK u t (nxt u t q)) = 60) = (kK u t (nxt u t q) = 60) := nz_eq (b := 60) (by omega) (by decide)
    have e61 : (nI (kK u t (nxt u t q)) = 61) = (kK u t (nxt u t q) = 61) := nz_eq (b := 61) (by omega) (by decide)
    have e62 : (nI (kK u t (nxt u t q)) = 62) = (kK u t (nxt u t q) = 62) := nz_eq (b := 62) (by omega) (by decide)
    dsimp only
    rw [iteq e60, iteq e62, iteq e61]
    rcases t1.cmp with ⟨j1, j2, j3, j4⟩ | ⟨j1, j2⟩
    rotate_left
    · rw [if_neg (show ¬ kK u t (nxt u t q) = 60 by omega), if_neg (show ¬ kK u t (nxt u t q) = 62 by omega), if_neg (show ¬ kK u t (nxt u t q) = 61 by omega)]
      rcases j2 with j2 | ⟨j2, j3, j4⟩
      · rw [if_neg j2]
        exact Or.inl ⟨nxt u t q, _, p1, rfl, rfl, rfl, rfl, rfl⟩
      · rw [if_pos j2, j3, iteq e60, iteq e62, iteq e61, if_neg (show ¬ kK u t (nxt u t q) = 60 by omega), if_neg (show ¬ kK u t (nxt u t q) = 62 by omega), if_neg (show ¬ kK u t (nxt u t q) = 61 by omega)]
        exact Or.inl ⟨nxt u t q, _, p1, rfl, rfl, rfl, rfl, rfl⟩
    · rw [if_pos j3, j4, iteq e60, iteq e62, iteq e61]
      have hq2 : nxt u t q < t := kK_t (u := u) (by omega)
      obtain ⟨r1, r2, r3⟩ := nxt_ok p1 hq2
      have eC : (if kK u t (nxt u t q) = 60 then gX1_readTest_60 N (nI (cS u (nxt u t q))) cnt kn nu sub sgn bnd tc (nI l) (nI n) (nI (kK u t q)) (nI (kK u t (nxt u t q))) else if kK u t (nxt u t q) = 62 then gX1_readTest_60 N (nI (cS u (nxt u t q))) cnt kn nu sub sgn bnd tc (nI l) (nI n) (nI (kK u t q)) (nI (kK u t (nxt u t q))) else if kK u t (nxt u t q) = 61 then gX1_readTest_60 N (nI (cS u (nxt u t q))) cnt kn nu sub sgn bnd tc (nI l) (nI n) (nI (kK u t q)) (nI (kK u t (nxt u t q))) else some (0, nI (cS u (nxt u t q)), sub, sgn, bnd, tc)) = gX1_readTest_60 N (nI (cS u (nxt u t q))) cnt kn nu sub sgn bnd tc (nI l) (nI n) (nI (kK u t q)) (nI (kK u t (nxt u t q))) := by
        by_cases c1 : kK u t (nxt u t q) = 60
        · rw [if_pos c1]
        rw [if_neg c1]
        by_cases c2 : kK u t (nxt u t q) = 62
        · rw [if_pos c2]
        rw [if_neg c2, if_pos (by omega)]
      rw [eC]
      generalize hX : gX11_test_90 N (nI (nxt u t q)) (nI (kK u t (nxt u t q))) s1 lat' lap' (nI (eN u t (nxt u t q))) (nI t) tr got 0 (-1) nW nS nT nTe (nI (min l 16)) (nI n) v (nI (kK u t (nxt u t q))) = X
      rw [show (if kK u t (nxt u t q) = 60 then X else if kK u t (nxt u t q) = 62 then X else if kK u t (nxt u t q) = 61 then X else gX11_test_85 N (nI (nxt u t q)) (nI (kK u t (nxt u t q))) s1 lat' lap' (nI (eN u t (nxt u t q))) (nI t) tr got 0 (-1) nW nS nT nTe) = X by
        by_cases c1 : kK u t (nxt u t q) = 60
        · rw [if_pos c1]
        rw [if_neg c1]
        by_cases c2 : kK u t (nxt u t q) = 62
        · rw [if_pos c2]
        rw [if_neg c2, if_pos (by omega)]]
      subst hX
      unfold gX1_readTest_60 gX11_test_90
      rw [nz_let, nI_1, ← r3, nH hC ht r1, Option.bind_some]
      obtain ⟨s2, v2, n2, t2⟩ := nextQ (N := N) hT ht hN p1 hq2 (nI (nxt u t q)) (nI (kK u t (nxt u t q))) s1
      rw [n2, Option.bind_some]
      dsimp only
      rcases t2.num with ⟨i1, i2, i3, i4⟩ | ⟨i1, i2⟩
      rotate_left
      · rw [pass_n hC ht r1 (k := 2) (K := 2) rfl (by decide) i1, Option.bind_some, num_n i2, Option.bind_some]
        exact Or.inl ⟨nxt u t (nxt u t q), _, r1, rfl, rfl, rfl, rfl, rfl⟩
      · have hq3 : nxt u t (nxt u t q) < t := kK_t (u := u) (by omega)
        obtain ⟨w1, w2, w3⟩ := nxt_ok r1 hq3
        obtain ⟨s3, v3, n3, t3⟩ := num_y (N := N) (f := 0) (fp := -1) (got := got) hT ht hN r1 i2 i3 i1
        rw [pass_y hC ht r1 (k := 2) (K := 2) rfl (by decide) i1, Option.bind_some, n3, Option.bind_some]
        dsimp only
        rw [if_neg (show ¬ (1 : Int32) = 0 by decide), if_neg (show ¬ (1 : Int32) = 0 by decide)]
        unfold fX2_setTest
        have eL16 : (16 ≤ nI l) = (16 ≤ l) := nz_le (a := 16) (by decide) (by omega)
        have eN4 : (nI n < 4) = (n < 4) := nz_lt (b := 4) (by omega) (by decide)
        have eN4' : (4 ≤ nI n) = (4 ≤ n) := nz_le (a := 4) (by decide) (by omega)
        have eM16 : (16 ≤ nI (min l 16)) = (16 ≤ min l 16) := nz_le (a := 16) (by decide) (by omega)
        rw [iteq eL16, iteq eN4, iteq eN4', iteq eM16]
        by_cases cn : n < 4
        · by_cases cl : l < 16
          · have hm : min l 16 = l := by omega
            rw [if_neg (by omega), if_pos cn, if_neg (by omega), if_neg (by omega), hm, nz_let, nz_let, show (nI l * 4 + nI n) = nI (l * 4 + n) by rw [nz4, pk_mul, nI_add], show (4 * nI l + nI n) = nI (l * 4 + n) by rw [nz4, pk_mul, nI_add, Nat.mul_comm], nz_ast (by omega) (by omega), Option.bind_some, nz_ast (by omega) (by omega), Option.bind_some, nz_ast (by omega) (by omega), Option.bind_some, nz_ast cl (by omega), Option.bind_some, Option.bind_some, nz_ast (by omega) (by omega), Option.bind_some, nz_ast (by omega) (by omega), Option.bind_some, nz_ast (by omega) (by omega), Option.bind_some, nz_ast (by omega) (by omega), Option.bind_some, nI_1, k4, show nI (kK u t q) = nI ((kK u t q - 201) + 201) by rw [Nat.sub_add_cancel (by omega)]]
            have hc2 := hc cl
            rw [show min n 4 = n by omega] at hc2
            refine Or.inr ⟨_, s3, v3, _, _, _, _, _, _, _, _, _, w1, by omega, by omega, rfl, rfl, t3, ?_, fun _ => ?_⟩
            · rw [hm] at hL
              exact hL.up (Nat.le_refl _) cn
            · rw [show min (n + 1) 4 = n + 1 by omega]
              exact hc2.up cn (by omega) (by omega) j1 j2 (mN_lt r1.1)
          · rw [if_pos (by omega), if_neg (by omega), if_pos (by omega), Option.bind_some]
            exact Or.inr ⟨_, s3, v3, _, _, _, _, _, _, _, _, _, w1, by omega, by omega, rfl, rfl, t3, hL, fun h => absurd h cl⟩
        · have eC2 : (if 16 ≤ l then some (sub, sgn, bnd, tc) else if n < 4 then ns_let (nI l * 4 + nI n) fun x1 => (ns_ast sub 64 x1 (nI (kK u t q))).bind fun y2 => (ns_ast sgn 64 x1 (nI (kK u t (nxt u t q)))).bind fun y3 => (ns_ast bnd 64 x1 (nI (mN u t (nxt u t (nxt u t q))))).bind fun y4 => (ns_ast tc 16 (nI l) (nI n + 1)).bind fun y5 => some (y2, y3, y4, y5) else some (sub, sgn, bnd, tc)) = some (sub, sgn, bnd, tc) := by
            by_cases c : 16 ≤ l
            · rw [if_pos c]
            · rw [if_neg c, if_neg cn]
          rw [eC2, if_pos (by omega), Option.bind_some]
          refine Or.inr ⟨_, s3, v3, _, _, _, _, _, _, _, _, _, w1, by omega, by omega, rfl, rfl, t3, hL, fun h => ?_⟩
          have := hc h
          rw [show min n 4 = 4 by omega] at this
          rw [show min (n + 1) 4 = 4 by omega]
          exact this
end PA
