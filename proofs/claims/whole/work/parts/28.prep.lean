/-! prepare: orders, the courses of an evening, the wishes as bits -/
def cemN (ev : Nat → Nat) (e : Nat) : Nat → Nat
  | 0 => 0
  | n + 1 => if ev n = e then cemN ev e n ||| 2 ^ n else cemN ev e n
def wmN (Wp : Nat → Nat) : Nat → Nat
  | 0 => 0
  | n + 1 => wmN Wp n ||| 2 ^ Wp n
theorem cemN_lt {ev : Nat → Nat} {e : Nat} : ∀ n, n ≤ 10 → cemN ev e n < 1024
  | 0, _ => by show 0 < 1024; decide
  | n + 1, h => by
    have h1 := cemN_lt (ev := ev) (e := e) n (by omega)
    unfold cemN
    split
    · exact or_lt h1 (by omega)
    · exact h1
theorem cemN_tb {ev : Nat → Nat} {e c : Nat} : ∀ n, (cemN ev e n).testBit c = true ↔ c < n ∧ ev c = e
  | 0 => by simp [cemN]
  | n + 1 => by
    have ih := cemN_tb (ev := ev) (e := e) (c := c) n
    unfold cemN
    split
    · rw [tb_or, Bool.or_eq_true, ih, decide_eq_true_iff]
      constructor
      · rintro (⟨a, b⟩ | a)
        · exact ⟨by omega, b⟩
        · subst a; exact ⟨by omega, by assumption⟩
      · rintro ⟨a, b⟩
        by_cases q : n = c
        · exact Or.inr q
        · exact Or.inl ⟨by omega, b⟩
    · rw [ih]
      constructor
      · rintro ⟨a, b⟩; exact ⟨by omega, b⟩
      · rintro ⟨a, b⟩
        refine ⟨?_, b⟩
        by_cases q : n = c
        · subst q; exact absurd b (by assumption)
        · omega
theorem wmN_lt {Wp : Nat → Nat} : ∀ n, (∀ k, k < n → Wp k < 10) → wmN Wp n < 1024
  | 0, _ => by show 0 < 1024; decide
  | n + 1, h => or_lt (wmN_lt n (fun k hk => h k (by omega))) (h n (by omega))
theorem wmN_tb {Wp : Nat → Nat} {c : Nat} : ∀ n, (wmN Wp n).testBit c = true ↔ ∃ k, k < n ∧ Wp k = c
  | 0 => by simp [wmN]
  | n + 1 => by
    have ih := wmN_tb (Wp := Wp) (c := c) n
    unfold wmN
    rw [tb_or, Bool.or_eq_true, ih, decide_eq_true_iff]
    constructor
    · rintro (⟨k, a, b⟩ | a)
      · exact ⟨k, by omega, b⟩
      · exact ⟨n, by omega, a⟩
    · rintro ⟨k, a, b⟩
      by_cases q : k = n
      · subst q; exact Or.inr b
      · exact Or.inl ⟨k, by omega, b⟩
section PR
variable {N nr nc np : Nat} {se mo ev nw : Nat → Nat} {W : Nat → Nat → Nat} {sea moa eva wc wi : Nat → Int32}
theorem prep_111 (hN : 40 < N) (hnw : ∀ p, p < 30 → nw p ≤ 6) (hW : ∀ p, p < 30 → ∀ k, k < nw p → W p k < 10) (hwc : rA wc nw 30) (hwi : rW wi W) {ro co ce : Nat → Int32} {p : Nat} (hp : p < 30) {x1 x3 x5 : Int32} (r91 : Int32 → (Nat → Int32) → (Nat → Int32) → Int32 → (Nat → Int32) → (Nat → Int32) → (Nat → Int32) → (Nat → Int32) → Int32 → (Nat → Int32) → (Nat → Int32) → (Nat → Int32) → Int32 → Option ((Nat → Int32) × (Nat → Int32) × (Nat → Int32) × (Nat → Int32))) :
    ∀ d k m wd, k + d = nw p → d < m → wd p = nI (wmN (W p) k) → ∃ wd' : Nat → Int32, fX3_prepare_111 N r91 m x1 ro sea x3 co moa ce eva x5 wd wc wi (nI p) (nI k) = r91 x1 ro sea x3 co moa ce eva x5 wd' wc wi (nI (p + 1)) ∧ wd' p = nI (wmN (W p) (nw p)) ∧ ∀ q, q ≠ p → wd' q = wd q := by
  intro d
  have e7 := hnw p hp
  induction d with
  | zero =>
    intro k m wd h1 h2 h3
    obtain ⟨m, rfl⟩ : ∃ z, m = z + 1 := ⟨m - 1, by omega⟩
    refine ⟨wd, ?_, by rw [h3, show k = nw p by omega], fun _ _ => rfl⟩
    show gX3_prepare_111 N r91 (fX3_prepare_111 N r91 m) x1 ro sea x3 co moa ce eva x5 wd wc wi (nI p) (nI k) = _
    unfold gX3_prepare_111
    rw [nz_ald (by omega) (by omega), hwc p hp, Option.bind_some, if_pos (nI_le (by omega) (by omega)), nz_let, nI_1]
  | succ d ih =>
    intro k m wd h1 h2 h3
    obtain ⟨m, rfl⟩ : ∃ z, m = z + 1 := ⟨m - 1, by omega⟩
    have hc := hW p hp k (by omega)
    have hcr : fX4_courseOfRank N wi (nI p) (nI k) = some (nI (W p k)) := by
      simp (disch := omega) only [fX4_courseOfRank, nz6, pk_mul, nI_add, nz_ald, hwi p hp k (by omega), Option.bind_some]
    have hlt := wmN_lt (Wp := W p) k (fun j hj => hW p hp j (by omega))
    obtain ⟨wd', e1, e2, e3⟩ := ih (k + 1) m (upd wd p (nI (wmN (W p) (k + 1)))) (by omega) (by omega) pk_us
    refine ⟨wd', ?_, e2, fun q hq => by rw [e3 q hq, pk_un hq]⟩
    rw [← e1]
    show gX3_prepare_111 N r91 (fX3_prepare_111 N r91 m) x1 ro sea x3 co moa ce eva x5 wd wc wi (nI p) (nI k) = _
    unfold gX3_prepare_111
    rw [nz_ald (by omega) (by omega), hwc p hp, Option.bind_some, if_neg (nI_ge (by omega) (by omega)), nz_ald (by omega) (by omega), h3, Option.bind_some, hcr, Option.bind_some, bt_or _ hc _ hlt, nz_ast (by omega) (by omega), Option.bind_some, nz_let, nI_1]
    rfl
theorem prep_91 (hN : 40 < N) (hnp : np ≤ 30) (hnw : ∀ p, p < 30 → nw p ≤ 6) (hW : ∀ p, p < 30 → ∀ k, k < nw p → W p k < 10) (hwc : rA wc nw 30) (hwi : rW wi W) {ro co ce : Nat → Int32} {x1 x3 : Int32} :
    ∀ d p m wd, p + d = np → d < m → (∀ q, q < p → wd q = nI (wmN (W q) (nw q))) → ∃ wd' : Nat → Int32, fX3_prepare_91 N m x1 ro sea x3 co moa ce eva (nI np) wd wc wi (nI p) = some (ro, co, ce, wd') ∧ ∀ q, q < np → wd' q = nI (wmN (W q) (nw q)) := by
  intro d
  induction d with
  | zero =>
    intro p m wd h1 h2 h3
    obtain ⟨m, rfl⟩ : ∃ z, m = z + 1 := ⟨m - 1, by omega⟩
    refine ⟨wd, ?_, fun q hq => h3 q (by omega)⟩
    show gX3_prepare_91 N (fX3_prepare_91 N m) x1 ro sea x3 co moa ce eva (nI np) wd wc wi (nI p) = _
    unfold gX3_prepare_91
    rw [if_pos (nI_le (by omega) (by omega))]
  | succ d ih =>
    intro p m wd h1 h2 h3
    obtain ⟨m, rfl⟩ : ∃ z, m = z + 1 := ⟨m - 1, by omega⟩
    have e7 := hnw p (by omega)
    obtain ⟨wd1, e1, e2, e3⟩ := prep_111 (N := N) (sea := sea) (moa := moa) (eva := eva) hN hnw hW hwc hwi (ro := ro) (co := co) (ce := ce) (p := p) (by omega) (x1 := x1) (x3 := x3) (x5 := nI np) (fX3_prepare_91 N m) (nw p) 0 N (upd wd p (nI 0)) (by omega) (by omega) pk_us
    obtain ⟨wd', g1, g2⟩ := ih (p + 1) m wd1 (by omega) (by omega) (fun q hq => by
      by_cases z : q = p
      · subst z; exact e2
      · rw [e3 q z, pk_un z]; exact h3 q (by omega))
    refine ⟨wd', ?_, g2⟩
    rw [← g1, ← e1]
    show gX3_prepare_91 N (fX3_prepare_91 N m) x1 ro sea x3 co moa ce eva (nI np) wd wc wi (nI p) = _
    unfold gX3_prepare_91
    rw [if_neg (nI_ge (by omega) (by omega)), nz_ast (by omega) (by omega), Option.bind_some]
    rfl
theorem prep_52 (hN : 40 < N) (hnc : nc ≤ 10) (hnp : np ≤ 30) (hnw : ∀ p, p < 30 → nw p ≤ 6) (hW : ∀ p, p < 30 → ∀ k, k < nw p → W p k < 10) (hwc : rA wc nw 30) (hwi : rW wi W) (hev : rA eva ev 10) (he5 : ∀ c, c < 10 → ev c < 5) {ro co wd : Nat → Int32} {x1 : Int32} :
    ∀ d c m ce, c + d = nc → d < m → rA ce (fun e => cemN ev e c) 5 → ∃ ce' wd' : Nat → Int32, fX3_prepare_52 N m x1 ro sea (nI nc) co moa ce eva (nI np) wd wc wi (nI c) = some (ro, co, ce', wd') ∧ rA ce' (fun e => cemN ev e nc) 5 ∧ ∀ q, q < np → wd' q = nI (wmN (W q) (nw q)) := by
  intro d
  induction d with
  | zero =>
    intro c m ce h1 h2 h3
    obtain ⟨m, rfl⟩ : ∃ z, m = z + 1 := ⟨m - 1, by omega⟩
    obtain ⟨wd', g1, g2⟩ := prep_91 (N := N) (sea := sea) (moa := moa) (eva := eva) hN hnp hnw hW hwc hwi (ro := ro) (co := co) (ce := ce) (x1 := x1) (x3 := nI nc) np 0 N wd (by omega) (by omega) (fun q hq => by omega)
    refine ⟨ce, wd', ?_, by rw [← show c = nc by omega]; exact h3, g2⟩
    rw [← g1]
    show gX3_prepare_52 N (fX3_prepare_52 N m) x1 ro sea (nI nc) co moa ce eva (nI np) wd wc wi (nI c) = _
    unfold gX3_prepare_52
    rw [if_pos (nI_le (by omega) (by omega))]
    rfl
  | succ d ih =>
    intro c m ce h1 h2 h3
    obtain ⟨m, rfl⟩ : ∃ z, m = z + 1 := ⟨m - 1, by omega⟩
    have b1 := he5 c (by omega)
    have b2 := cemN_lt (ev := ev) (e := ev c) c (by omega)
    obtain ⟨ce', wd', g1, g2, g3⟩ := ih (c + 1) m (upd ce (ev c) (nI (cemN ev (ev c) c ||| 2 ^ c))) (by omega) (by omega) (fun e he => by
      by_cases q : e = ev c
      · subst q; rw [pk_us]; show _ = nI (if ev c = ev c then _ else _); rw [if_pos rfl]
      · rw [pk_un q, h3 e he]
        show nI (cemN ev e c) = nI (if ev c = e then _ else cemN ev e c)
        rw [if_neg (Ne.symm q)])
    refine ⟨ce', wd', ?_, g2, g3⟩
    rw [← g1]
    show gX3_prepare_52 N (fX3_prepare_52 N m) x1 ro sea (nI nc) co moa ce eva (nI np) wd wc wi (nI c) = _
    unfold gX3_prepare_52
    rw [if_neg (nI_ge (by omega) (by omega)), nz_ald (by omega) (by omega), hev c (by omega), Option.bind_some, nz_ald (by omega) (by omega), h3 _ b1, Option.bind_some, bt_or c (by omega) _ b2, nz_ast (by omega) (by omega), Option.bind_some, nz_let, nI_1]
theorem prep_eq (hN : 40 < N) (hnr : nr ≤ 5) (hnc : nc ≤ 10) (hnp : np ≤ 30) (hse : rA sea se 5) (hseb : ∀ k, k < 5 → se k < 100) (hmo : rA moa mo 10) (hmob : ∀ k, k < 10 → mo k < 100) (hnw : ∀ p, p < 30 → nw p ≤ 6) (hW : ∀ p, p < 30 → ∀ k, k < nw p → W p k < 10) (hwc : rA wc nw 30) (hwi : rW wi W) (hev : rA eva ev 10) (he5 : ∀ c, c < 10 → ev c < 5) (ro co ce wd : Nat → Int32) :
    ∃ ro' co' ce' wd' : Nat → Int32, fX3_prepare N (nI nr) ro sea (nI nc) co moa ce eva (nI np) wd wc wi = some (ro', co', ce', wd') ∧ OrdP se nr ro' ∧ OrdP mo nc co' ∧ rA ce' (fun e => cemN ev e nc) 5 ∧ ∀ q, q < np → wd' q = nI (wmN (W q) (nw q)) := by
  obtain ⟨ro', a1, a2⟩ := ord_eq (N := N) (n0 := 5) (by omega) (by omega) hse hseb hnr ro
  obtain ⟨co', b1, b2⟩ := ord_eq (N := N) (n0 := 10) (by omega) (by omega) hmo hmob hnc co
  obtain ⟨ce', wd', c1, c2, c3⟩ := prep_52 (N := N) (sea := sea) (moa := moa) hN hnc hnp hnw hW hwc hwi hev he5 (ro := ro') (co := co') (wd := wd) (x1 := nI nr) nc 0 N (fil ce 5 0) (by omega) (by omega) (fun e he => by rw [fil_in he]; rfl)
  refine ⟨ro', co', ce', wd', ?_, a2, b2, c2, c3⟩
  unfold fX3_prepare
  rw [a1, Option.bind_some, b1, Option.bind_some, fill_eq (by omega) (by omega), Option.bind_some]
  exact c1
end PR
