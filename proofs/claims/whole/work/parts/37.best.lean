/-! of all sets the best one -/
noncomputable def bst (nr nc np : Nat) (se mo ev te le nw wa : Nat → Nat) (W : Nat → Nat → Nat) : Nat → Nat → Nat × Nat → Nat × Nat
  | 0, _, b => b
  | d + 1, set, b => bst nr nc np se mo ev te le nw wa W d (set + 1) (match vl nr nc np se mo ev te le nw wa W set with
    | some v => if b.2 < v then (set, v) else b
    | none => b)
section BE
variable {N nr nc np set : Nat} {se mo ev te le nw wa : Nat → Nat} {W : Nat → Nat → Nat} {sea moa eva tea lea wc wi wnt ro co ce wd cs rs pu : Nat → Int32}
theorem vl_0 : vl nr nc np se mo ev te le nw wa W 0 = some 0 := by
  have hp : ∀ (s : PS) p, plp 0 np nc (plS nr nc se mo ev 0) ev nw wa W s p = s := by
    intro s p
    unfold plp
    split
    · split
      · rename_i k hk
        obtain ⟨-, -, h2⟩ := fst1_some _ _ _ hk
        unfold isF at h2
        rw [decide_eq_true_iff, Nat.zero_testBit] at h2
        exact absurd h2.1 (by decide)
      · rfl
    · rfl
  have hr : ∀ rnd d i (s : PS), plr 0 np nc (plS nr nc se mo ev 0) ev nw wa W rnd d i s = s := by
    intro rnd d
    induction d with
    | zero => intro i s; rfl
    | succ d ih =>
      intro i s
      show plr 0 np nc (plS nr nc se mo ev 0) ev nw wa W rnd d (i + 1) (plp 0 np nc (plS nr nc se mo ev 0) ev nw wa W s (pidx np rnd i)) = s
      rw [hp, ih]
  have h3 : P3 nr nc np se mo ev nw wa W 0 = (fun _ => 0, 0) := by
    unfold P3 pla3
    show plr 0 np nc _ ev nw wa W 2 np 0 (plr 0 np nc _ ev nw wa W 1 np 0 (plr 0 np nc _ ev nw wa W 0 np 0 (fun _ => 0, 0))) = _
    rw [hr, hr, hr]
  unfold vl
  rw [if_pos, h3]
  refine ⟨canB_iff.mpr (fun c _ h => absurd h (by rw [Nat.zero_testBit]; decide)), ?_⟩
  unfold law
  rw [decide_eq_true_iff]
  exact fun c _ h => absurd h (by rw [Nat.zero_testBit]; decide)
theorem bst_ok (hnc : nc ≤ 10) : ∀ d set (b : Nat × Nat), set + d = 2 ^ nc → b.1 < 2 ^ nc → vl nr nc np se mo ev te le nw wa W b.1 = some b.2 → (bst nr nc np se mo ev te le nw wa W d set b).1 < 2 ^ nc ∧ vl nr nc np se mo ev te le nw wa W (bst nr nc np se mo ev te le nw wa W d set b).1 = some (bst nr nc np se mo ev te le nw wa W d set b).2 := by
  intro d
  induction d with
  | zero => intro set b _ h1 h2; exact ⟨h1, h2⟩
  | succ d ih =>
    intro set b h0 h1 h2
    unfold bst
    cases e : vl nr nc np se mo ev te le nw wa W set with
    | none => exact ih (set + 1) b (by omega) h1 h2
    | some v =>
      dsimp only
      by_cases q : b.2 < v
      · rw [if_pos q]; exact ih (set + 1) (set, v) (by omega) (show set < 2 ^ nc by omega) e
      · rw [if_neg q]; exact ih (set + 1) b (by omega) h1 h2
/-! hopeless courses -/
theorem hop_23 (hN : 40 < N) (hnc : nc ≤ 10) (hnp : np ≤ 30) (hnw : ∀ p, p < 30 → nw p ≤ 6 ∧ wa p < 100 ∧ ∀ k, k < nw p → W p k < nc) (hwd : ∀ q, q < np → wd q = nI (wmN (W q) (nw q))) (hle : rA lea le 10) (hleb : ∀ c, c < 10 → le c < 100) {c : Nat} (hc : c < nc) {h : Int32} (r7 : Int32 → Int32 → Int32 → (Nat → Int32) → (Nat → Int32) → Int32 → Option Int32) :
    ∀ d p m, p + d = np → d < m → fX3_findHopeless_23 N r7 m h (nI nc) (nI np) lea wd (nI c) (nI (cnt (fun p => wmN (W p) (nw p)) c p)) (nI p) = if le c ≤ cnt (fun p => wmN (W p) (nw p)) c np then r7 h (nI nc) (nI np) lea wd (nI (c + 1)) else r7 (h ||| (1 <<< (nI c &&& 31))) (nI nc) (nI np) lea wd (nI (c + 1)) := by
  have hcl := cnt_le (fun p => wmN (W p) (nw p)) c np
  have hlb := hleb c (by omega)
  intro d
  induction d with
  | zero =>
    intro p m h1 h2
    obtain ⟨m, rfl⟩ : ∃ z, m = z + 1 := ⟨m - 1, by omega⟩
    show gX3_findHopeless_23 N r7 (fX3_findHopeless_23 N r7 m) h (nI nc) (nI np) lea wd (nI c) (nI (cnt (fun p => wmN (W p) (nw p)) c p)) (nI p) = _
    unfold gX3_findHopeless_23
    rw [if_pos (nI_le (by omega) (by omega)), nz_ald (by omega) (by omega), hle c (by omega), Option.bind_some, show p = np by omega]
    by_cases q : le c ≤ cnt (fun p => wmN (W p) (nw p)) c np
    · rw [if_pos q, if_pos (nI_le q (by omega)), nz_let, nI_1]
    · rw [if_neg q, if_neg (nI_ge (by omega) (by omega)), nz_let, nz_let, nI_1]
  | succ d ih =>
    intro p m h1 h2
    obtain ⟨m, rfl⟩ : ∃ z, m = z + 1 := ⟨m - 1, by omega⟩
    have hl := wmN_lt (Wp := W p) (nw p) (fun k hk => by have := (hnw p (by omega)).2.2 k hk; omega)
    rw [← ih (p + 1) m (by omega) (by omega)]
    show gX3_findHopeless_23 N r7 (fX3_findHopeless_23 N r7 m) h (nI nc) (nI np) lea wd (nI c) (nI (cnt (fun p => wmN (W p) (nw p)) c p)) (nI p) = _
    unfold gX3_findHopeless_23
    rw [if_neg (nI_ge (by omega) (by omega)), nz_ald (by omega) (by omega), hwd p (by omega), Option.bind_some, bt_shr c (by omega) _ hl, nI_add, nz_let, nz_let, nI_1]
    rfl
theorem hop_7 (hN : 40 < N) (hnc : nc ≤ 10) (hnp : np ≤ 30) (hnw : ∀ p, p < 30 → nw p ≤ 6 ∧ wa p < 100 ∧ ∀ k, k < nw p → W p k < nc) (hwd : ∀ q, q < np → wd q = nI (wmN (W q) (nw q))) (hle : rA lea le 10) (hleb : ∀ c, c < 10 → le c < 100) :
    ∀ d c m h, c + d = nc → d < m → h < 1024 → (∀ z, h.testBit z = true → z < c ∧ cnt (fun p => wmN (W p) (nw p)) z np < le z) → ∃ h', fX3_findHopeless_7 N m (nI h) (nI nc) (nI np) lea wd (nI c) = some (nI h') ∧ h' < 1024 ∧ ∀ z, h'.testBit z = true → z < nc ∧ cnt (fun p => wmN (W p) (nw p)) z np < le z := by
  intro d
  induction d with
  | zero =>
    intro c m h h1 h2 h3 h4
    obtain ⟨m, rfl⟩ : ∃ z, m = z + 1 := ⟨m - 1, by omega⟩
    refine ⟨h, ?_, h3, fun z hz => ⟨by have := (h4 z hz).1; omega, (h4 z hz).2⟩⟩
    show gX3_findHopeless_7 N (fX3_findHopeless_7 N m) (nI h) (nI nc) (nI np) lea wd (nI c) = _
    unfold gX3_findHopeless_7
    rw [if_pos (nI_le (by omega) (by omega))]
  | succ d ih =>
    intro c m h h1 h2 h3 h4
    obtain ⟨m, rfl⟩ : ∃ z, m = z + 1 := ⟨m - 1, by omega⟩
    have h23 := hop_23 (N := N) (wa := wa) (le := le) hN hnc hnp hnw hwd hle hleb (c := c) (by omega) (h := nI h) (fX3_findHopeless_7 N m) np 0 N (by omega) (by omega)
    have hst : fX3_findHopeless_7 N (m + 1) (nI h) (nI nc) (nI np) lea wd (nI c) = fX3_findHopeless_23 N (fX3_findHopeless_7 N m) N (nI h) (nI nc) (nI np) lea wd (nI c) (nI (cnt (fun p => wmN (W p) (nw p)) c 0)) (nI 0) := by
      show gX3_findHopeless_7 N (fX3_findHopeless_7 N m) (nI h) (nI nc) (nI np) lea wd (nI c) = _
      unfold gX3_findHopeless_7
      rw [if_neg (nI_ge (by omega) (by omega))]
      rfl
    rw [hst, h23]
    by_cases q : le c ≤ cnt (fun p => wmN (W p) (nw p)) c np
    · rw [if_pos q]
      exact ih (c + 1) m h (by omega) (by omega) h3 (fun z hz => ⟨by have := (h4 z hz).1; omega, (h4 z hz).2⟩)
    · rw [if_neg q, bt_or c (by omega) h h3]
      refine ih (c + 1) m (h ||| 2 ^ c) (by omega) (by omega) (or_lt h3 (by omega)) (fun z hz => ?_)
      rw [tb_or, Bool.or_eq_true, decide_eq_true_iff] at hz
      rcases hz with hz | hz
      · exact ⟨by have := (h4 z hz).1; omega, (h4 z hz).2⟩
      · subst hz; exact ⟨by omega, by omega⟩
/-- a set with a hopeless course has no value -/
theorem hop_none (hE : EnvS nr nc np se mo ev te le nw wa W) {c : Nat} (hc : c < nc) (hin : set.testBit c = true) (hh : cnt (fun p => wmN (W p) (nw p)) c np < le c) : vl nr nc np se mo ev te le nw wa W set = none := by
  have hsub := P3_sub (nr := nr) (nc := nc) (np := np) (set := set) (se := se) (mo := mo) (ev := ev) (nw := nw) (wa := wa) (W := W) (fun p hp => (hE.2.2.2.2.2.2 p hp).2.2)
  unfold vl
  rw [if_neg]
  rintro ⟨-, h⟩
  unfold law at h
  rw [decide_eq_true_iff] at h
  have h1 := h c hc hin
  have h2 : cnt (P3 nr nc np se mo ev nw wa W set).1 c np ≤ cnt (fun p => wmN (W p) (nw p)) c np := by
    rw [cnt_sm, cnt_sm]
    refine sm_le2 np fun p hp => ?_
    by_cases q : ((P3 nr nc np se mo ev nw wa W set).1 p).testBit c = true
    · have := ((hsub p).1 hp c q).2
      rw [bt_t (m := wmN (W p) (nw p)) ((wmN_tb _).mpr this), bt_t q]
      exact Nat.le_refl _
    · rw [bt_f q]; omega
  omega
theorem and_ne {a b : Nat} (h : ¬ a &&& b = 0) : ∃ z, a.testBit z = true ∧ b.testBit z = true := by
  by_cases q : ∃ z, (a &&& b).testBit z = true
  · obtain ⟨z, hz⟩ := q
    rw [Nat.testBit_and, Bool.and_eq_true] at hz
    exact ⟨z, hz⟩
  · refine absurd (Nat.eq_of_testBit_eq fun i => ?_) h
    rw [Nat.zero_testBit]
    cases e : (a &&& b).testBit i
    · rfl
    · exact absurd ⟨i, e⟩ q
theorem best_loop (hN : 20000 ≤ N) (hE : EnvS nr nc np se mo ev te le nw wa W) (hR : RS se mo ev te le nw wa W sea moa eva tea lea wc wi wnt) (hro : OrdP se nr ro) (hco : OrdP mo nc co) (hce : rA ce (fun e => cemN ev e nc) 5) (hwd : ∀ q, q < np → wd q = nI (wmN (W q) (nw q))) {hop : Nat} (hh1 : hop < 1024) (hh2 : ∀ z, hop.testBit z = true → z < nc ∧ cnt (fun p => wmN (W p) (nw p)) z np < le z) :
    ∀ d set m (b : Nat × Nat) (x : Int32) (rof pla tk hs ru tb : Nat → Int32) (wp : Int32) (bar : Nat → Int32), set + d = 2 ^ nc → d < m → b.1 < 2 ^ nc → vl nr nc np se mo ev te le nw wa W b.1 = some b.2 →
      ∃ (rof' pla' ru' tb' tk' has' bar' : Nat → Int32) (wp' : Int32), fX3_planBest_28 N m (nI nr) ro sea (nI nc) co moa ce eva (nI np) wd wc wi (nI hop) lea x rof pla tk hs ru tb tea wp bar wnt (nI b.1) (nI b.2) (nI (2 ^ nc)) (nI set) = some (nI (bst nr nc np se mo ev te le nw wa W d set b).2, ro, co, ce, wd, nI hop, nI (bst nr nc np se mo ev te le nw wa W d set b).1, rof', pla', tk', has', ru', tb', wp', bar') ∧ RP nr nc se mo ev (bst nr nc np se mo ev te le nw wa W d set b).1 nc rof' pla' ∧ PIc (bst nr nc np se mo ev te le nw wa W d set b).1 np nc (plS nr nc se mo ev (bst nr nc np se mo ev te le nw wa W d set b).1) ev (P3 nr nc np se mo ev nw wa W (bst nr nc np se mo ev te le nw wa W d set b).1).1 has' tk' bar' wp' := by
  have e2 := hE.2.1
  have e3 := hE.2.2.1
  have hp : 2 ^ nc ≤ 1024 := Nat.pow_le_pow_right (n := 2) (by decide) e2
  intro d
  induction d with
  | zero =>
    intro set m b x rof pla tk hs ru tb wp bar h1 h2 h3 h4
    obtain ⟨m, rfl⟩ : ∃ z, m = z + 1 := ⟨m - 1, by omega⟩
    obtain ⟨r, rof', pla', ru', tb', f1, f2⟩ := setC (N := N) (by omega) hE hR hro hco hce hwd h3 x rof pla tk hs ru tb
    have hcan : canB nr nc se mo ev te le b.1 = true := by
      unfold vl at h4
      split at h4
      · rename_i z; exact z.1
      · cases h4
    rcases f2 with ⟨g1, g2, g3, g4⟩ | ⟨g1, g2⟩
    · obtain ⟨has', tk', bar', wp', k1, k2⟩ := g4 wp bar
      refine ⟨rof', pla', ru', tb', tk', has', bar', wp', ?_, g3, k2⟩
      show gX3_planBest_28 N (fX3_planBest_28 N m) (nI nr) ro sea (nI nc) co moa ce eva (nI np) wd wc wi (nI hop) lea x rof pla tk hs ru tb tea wp bar wnt (nI b.1) (nI b.2) (nI (2 ^ nc)) (nI set) = _
      unfold gX3_planBest_28
      rw [if_pos (nI_le (by omega) (by omega)), f1, Option.bind_some]
      dsimp only
      rw [k1, Option.bind_some]
      rfl
    · exact absurd hcan g2
  | succ d ih =>
    intro set m b x rof pla tk hs ru tb wp bar h1 h2 h3 h4
    obtain ⟨m, rfl⟩ : ∃ z, m = z + 1 := ⟨m - 1, by omega⟩
    have hset : set < 2 ^ nc := by omega
    have hb2 := vl_lt e3 h4
    have hst : fX3_planBest_28 N (m + 1) (nI nr) ro sea (nI nc) co moa ce eva (nI np) wd wc wi (nI hop) lea x rof pla tk hs ru tb tea wp bar wnt (nI b.1) (nI b.2) (nI (2 ^ nc)) (nI set) = gX3_planBest_28 N (fX3_planBest_28 N m) (nI nr) ro sea (nI nc) co moa ce eva (nI np) wd wc wi (nI hop) lea x rof pla tk hs ru tb tea wp bar wnt (nI b.1) (nI b.2) (nI (2 ^ nc)) (nI set) := rfl
    rw [hst]
    unfold gX3_planBest_28 bst
    rw [if_neg (nI_ge (by omega) (by omega)), nI_and]
    have hal : set &&& hop < 1024 := Nat.lt_of_le_of_lt Nat.and_le_left (by omega)
    by_cases q : set &&& hop = 0
    · rw [q, if_pos (show nI 0 = 0 from rfl)]
      obtain ⟨r, rof', pla', ru', tb', f1, f2⟩ := setC (N := N) (by omega) hE hR hro hco hce hwd hset x rof pla tk hs ru tb
      rw [f1, Option.bind_some]
      dsimp only
      rcases f2 with ⟨g1, g2, g3, g4⟩ | ⟨g1, g2⟩
      · obtain ⟨has', tk', bar', wp', k1, k2⟩ := g4 wp bar
        rw [g1, if_neg (show ¬ nI 1 = 0 by decide), k1, Option.bind_some]
        dsimp only
        cases ev' : vl nr nc np se mo ev te le nw wa W set with
        | none =>
          rw [if_pos (show oI none ≤ nI b.2 by rw [show oI none = nM from rfl, nz_Mle (by omega)]; trivial), nz_let, nI_1]
          exact ih (set + 1) m b _ _ _ _ _ _ _ _ _ (by omega) (by omega) h3 h4
        | some v =>
          have hv := vl_lt e3 ev'
          rw [show oI (some v) = nI v from rfl]
          dsimp only
          by_cases y : b.2 < v
          · rw [if_neg (nI_ge y (by omega)), nz_let, nI_1, if_pos y]
            exact ih (set + 1) m (set, v) _ _ _ _ _ _ _ _ _ (by omega) (by omega) hset ev'
          · rw [if_pos (nI_le (by omega) (by omega)), nz_let, nI_1, if_neg y]
            exact ih (set + 1) m b _ _ _ _ _ _ _ _ _ (by omega) (by omega) h3 h4
      · have hn : vl nr nc np se mo ev te le nw wa W set = none := by unfold vl; rw [if_neg (fun z => g2 z.1)]
        rw [g1, if_pos (show nI 0 = 0 from rfl), nz_let, nI_1, hn]
        exact ih (set + 1) m b _ _ _ _ _ _ _ _ _ (by omega) (by omega) h3 h4
    · obtain ⟨z, z1, z2⟩ := and_ne q
      obtain ⟨z3, z4⟩ := hh2 z z2
      rw [if_neg (by rw [nz_e0 (by omega)]; exact q), nz_let, nI_1, hop_none hE z3 z1 z4]
      exact ih (set + 1) m b _ _ _ _ _ _ _ _ _ (by omega) (by omega) h3 h4
/-- the best set of a school, its points -/
noncomputable def bestS (nr nc np : Nat) (se mo ev te le nw wa : Nat → Nat) (W : Nat → Nat → Nat) : Nat × Nat := bst nr nc np se mo ev te le nw wa W (2 ^ nc - 1) 1 (0, 0)
theorem pow_nI : ∀ nc, nc ≤ 10 → ((1 : Int32) <<< (nI nc &&& 31)) = nI (2 ^ nc) := by decide +kernel
theorem best_eq (hN : 20000 ≤ N) (hE : EnvS nr nc np se mo ev te le nw wa W) (hR : RS se mo ev te le nw wa W sea moa eva tea lea wc wi wnt) (ro co ce wd : Nat → Int32) (x y : Int32) (rof pla tk hs ru tb : Nat → Int32) (wp : Int32) (bar : Nat → Int32) :
    ∃ (ro' co' ce' wd' rof' pla' ru' tb' tk' has' bar' : Nat → Int32) (hop' wp' : Int32), fX3_planBest N (nI nr) ro sea (nI nc) co moa ce eva (nI np) wd wc wi y lea x rof pla tk hs ru tb tea wp bar wnt = some (nI (bestS nr nc np se mo ev te le nw wa W).2, ro', co', ce', wd', hop', nI (bestS nr nc np se mo ev te le nw wa W).1, rof', pla', tk', has', ru', tb', wp', bar') ∧ RP nr nc se mo ev (bestS nr nc np se mo ev te le nw wa W).1 nc rof' pla' ∧ PIc (bestS nr nc np se mo ev te le nw wa W).1 np nc (plS nr nc se mo ev (bestS nr nc np se mo ev te le nw wa W).1) ev (P3 nr nc np se mo ev nw wa W (bestS nr nc np se mo ev te le nw wa W).1).1 has' tk' bar' wp' := by
  have hE0 := hE
  have hR0 := hR
  obtain ⟨e1, e2, e3, e4, e5, e6, e7⟩ := hE
  obtain ⟨r1, r2, r3, r4, r5, r6, r7, r8⟩ := hR
  have hp0 : 0 < 2 ^ nc := Nat.two_pow_pos _
  have hp : 2 ^ nc ≤ 1024 := Nat.pow_le_pow_right (n := 2) (by decide) e2
  obtain ⟨ro', co', ce', wd', a1, a2, a3, a4, a5⟩ := prep_eq (N := N) (by omega) e1 e2 e3 r1 e4 r2 (fun k hk => (e5 k hk).1) (fun p hp => (e7 p hp).1) (fun p hp k hk => by have := (e7 p hp).2.2 k hk; omega) r6 r7 r3 (fun k hk => (e5 k hk).2.2.1) ro co ce wd
  obtain ⟨hop, b1, b2, b3⟩ := hop_7 (N := N) (wa := wa) (le := le) (by omega) e2 e3 e7 a5 r5 (fun k hk => (e5 k hk).2.1) nc 0 N 0 (by omega) (by omega) (by decide) (fun z hz => absurd hz (by rw [Nat.zero_testBit]; decide))
  obtain ⟨rof', pla', ru', tb', tk', has', bar', wp', c1, c2, c3⟩ := best_loop (N := N) hN hE0 hR0 a2 a3 a4 a5 b2 b3 (2 ^ nc - 1) 1 N (0, 0) x rof pla tk hs ru tb wp bar (by omega) (by omega) hp0 vl_0
  refine ⟨ro', co', ce', wd', rof', pla', ru', tb', tk', has', bar', nI hop, wp', ?_, c2, c3⟩
  unfold fX3_planBest fX3_findHopeless
  rw [a1, Option.bind_some]
  dsimp only
  rw [show (0 : Int32) = nI 0 from rfl, b1, Option.bind_some, pow_nI nc e2, nz_let]
  exact c1
end BE
