/-! the reference's can, as a whole; it says what the class says -/
def ahN (mo ev : Nat → Nat) (set c i : Nat) : Nat := sm (fun d => if set.testBit d = true ∧ ev d = ev c ∧ bf mo d c = true then 1 else 0) i
theorem aho_eq {nc c : Nat} {mo ev : Nat → Nat} {set : Nat} (hc : c < nc) : aho nc mo ev set c = ahN mo ev set c nc := by
  unfold aho ah ahN
  refine sm_congr nc fun d hd => ?_
  by_cases q : set.testBit d = true ∧ ev d = ev c ∧ bf mo d c = true
  · rw [if_pos q, if_pos ⟨q.1, q.2.1, (ps_iff hd hc).mpr q.2.2⟩]
  · rw [if_neg q, if_neg (fun z => q ⟨z.1, z.2.1, (ps_iff hd hc).mp z.2.2⟩)]
theorem ahN_le {mo ev : Nat → Nat} {set c i : Nat} : ahN mo ev set c i ≤ i := by
  have h : ahN mo ev set c i ≤ sm (fun _ => 1) i := sm_le2 i (fun d _ => by split <;> omega)
  rw [sm_one] at h
  exact h
theorem aho_lt {nr nc c : Nat} {mo ev : Nat → Nat} {set : Nat} (hc : c < nc) (hin : set.testBit c = true) (h : ecn ev set (ev c) nc ≤ nr) : aho nc mo ev set c < nr := by
  refine Nat.lt_of_lt_of_le ?_ h
  unfold aho ah ecn
  refine sm_lt2 (a := c) nc (fun d _ => ?_) hc ?_
  · by_cases q : set.testBit d = true ∧ ev d = ev c ∧ ps mo nc d < ps mo nc c
    · rw [if_pos q, if_pos ⟨q.1, q.2.1⟩]; exact Nat.le_refl _
    · rw [if_neg q]; omega
  · rw [if_neg (fun z => by omega), if_pos ⟨hin, rfl⟩]; decide
theorem ah_all {nc : Nat} {mo ev : Nat → Nat} {set e : Nat} : ah nc mo ev set nc e = ecn ev set e nc := by
  unfold ah ecn
  refine sm_congr nc fun d hd => ?_
  by_cases q : set.testBit d = true ∧ ev d = e
  · rw [if_pos q, if_pos ⟨q.1, q.2, ps_bd hd⟩]
  · rw [if_neg q, if_neg (fun z => q ⟨z.1, z.2.1⟩)]
section C2
variable {N nr nc set : Nat} {se mo ev te le : Nat → Nat} {sea moa eva tea lea cs rs : Nat → Int32}
theorem gr_5 (hN : 40 < N) (hnr : nr ≤ 5) (hnc : nc ≤ 10) (hcs : cs 0 = nI nc) (hmo : rA moa mo 10) (hmob : ∀ k, k < 10 → mo k < 100) (hev : rA eva ev 10) (he5 : ∀ c, c < 10 → ev c < 5) (hset : set < 1024) {c : Nat} (hc : c < nc) {tp tr : Nat → Int32} :
    ∀ dd i m, i + dd = nc → dd < m → fX11_getsRoom_5 N m cs eva moa rs tp lea tr sea (nI set) (nI c) (nI (ahN mo ev set c i)) (nI i) = fX11_getsRoom_108 N N cs eva moa rs tp lea tr sea (nI c) (nI (ahN mo ev set c nc)) 0 := by
  have hc0 : ns_ald cs 4 0 = some (nI nc) := by rw [nz0, nz_ald (by omega) (by omega), hcs]
  have b1 := hmob c (by omega)
  have b2 := he5 c (by omega)
  intro dd
  induction dd with
  | zero =>
    intro i m h1 h2
    obtain ⟨m, rfl⟩ : ∃ z, m = z + 1 := ⟨m - 1, by omega⟩
    show gX11_getsRoom_5 N (fX11_getsRoom_5 N m) cs eva moa rs tp lea tr sea (nI set) (nI c) (nI (ahN mo ev set c i)) (nI i) = _
    unfold gX11_getsRoom_5
    rw [hc0, Option.bind_some, if_pos (nI_le (by omega) (by omega)), show i = nc by omega]
  | succ dd ih =>
    intro i m h1 h2
    obtain ⟨m, rfl⟩ : ∃ z, m = z + 1 := ⟨m - 1, by omega⟩
    have b3 := hmob i (by omega)
    have b4 := he5 i (by omega)
    rw [← ih (i + 1) m (by omega) (by omega)]
    show gX11_getsRoom_5 N (fX11_getsRoom_5 N m) cs eva moa rs tp lea tr sea (nI set) (nI c) (nI (ahN mo ev set c i)) (nI i) = _
    have h79 : gX11_getsRoom_79 N (fX11_getsRoom_5 N m) cs eva moa rs tp lea tr sea (nI set) (nI c) (nI (ahN mo ev set c i)) (nI i) = fX11_getsRoom_5 N m cs eva moa rs tp lea tr sea (nI set) (nI c) (nI (ahN mo ev set c i + 1)) (nI (i + 1)) := by
      unfold gX11_getsRoom_79 gX11_getsRoom_84
      rw [if_neg (by decide)]
      simp only [nz_let, nI_1]
    have h83 : gX11_getsRoom_83 N (fX11_getsRoom_5 N m) cs eva moa rs tp lea tr sea (nI set) (nI c) (nI (ahN mo ev set c i)) (nI i) = fX11_getsRoom_5 N m cs eva moa rs tp lea tr sea (nI set) (nI c) (nI (ahN mo ev set c i)) (nI (i + 1)) := by
      unfold gX11_getsRoom_83 gX11_getsRoom_84
      rw [if_pos (by decide)]
      simp only [nz_let, nI_1, nz_add0]
    have hsu : ahN mo ev set c (i + 1) = ahN mo ev set c i + if set.testBit i = true ∧ ev i = ev c ∧ bf mo i c = true then 1 else 0 := rfl
    unfold gX11_getsRoom_5
    rw [hc0, Option.bind_some, if_neg (nI_ge (by omega) (by omega)), bt_shr i (by omega) set hset, h79, h83, hsu]
    by_cases q1 : set.testBit i = true
    · rw [if_neg (bt_ne q1), nz_ald (by omega) (by omega), hev i (by omega), Option.bind_some, nz_ald (by omega) (by omega), hev c (by omega), Option.bind_some]
      by_cases q2 : ev i = ev c
      · rw [if_pos (show nI (ev i) = nI (ev c) by rw [q2]), nz_ald (by omega) (by omega), hmo i (by omega), Option.bind_some, nz_ald (by omega) (by omega), hmo c (by omega), Option.bind_some]
        simp only [Option.bind_some]
        by_cases q3 : mo c < mo i
        · rw [if_pos (nI_lt q3 (by omega)), if_pos ⟨q1, q2, bf_iff.mpr (Or.inl q3)⟩]
        · rw [if_neg (nI_nlt (by omega) (by omega))]
          by_cases q4 : mo i = mo c
          · rw [if_pos (show nI (mo i) = nI (mo c) by rw [q4])]
            by_cases q5 : c ≤ i
            · rw [if_pos (nI_le q5 (by omega)), if_neg (fun z => by have := bf_iff.mp z.2.2; omega)]; rfl
            · rw [if_neg (nI_ge (by omega) (by omega)), if_pos ⟨q1, q2, bf_iff.mpr (by omega)⟩]
          · rw [if_neg (by rw [nz_eq (by omega) (by omega)]; exact q4), if_neg (fun z => by have := bf_iff.mp z.2.2; omega)]; rfl
      · rw [if_neg (by rw [nz_eq (by omega) (by omega)]; exact q2), if_neg (fun z => q2 z.2.1)]; rfl
    · rw [if_pos (bt_is q1), if_neg (fun z => q1 z.1)]; rfl
theorem ps_sur (hnr : nr ≤ 5) (hse : rA sea se 5) (hseb : ∀ k, k < 5 → se k < 100) {a : Nat} (ha : a < nr) : ∃ r, r < nr ∧ ps se nr r = a := by
  obtain ⟨h', -, g, hg, -⟩ := ord_eq (N := 10) (n0 := 5) (by omega) (by omega) hse hseb hnr (fun _ => 0)
  exact ⟨g a, hg a ha⟩
theorem gr_eq (hN : 40 < N) (hnr : nr ≤ 5) (hnc : nc ≤ 10) (hcs : cs 0 = nI nc) (hrs : rs 0 = nI nr) (hse : rA sea se 5) (hseb : ∀ k, k < 5 → se k < 100) (hmo : rA moa mo 10) (hmob : ∀ k, k < 10 → mo k < 100) (hle : rA lea le 10) (hleb : ∀ k, k < 10 → le k < 100) (hev : rA eva ev 10) (he5 : ∀ c, c < 10 → ev c < 5) (hset : set < 1024) {c : Nat} (hc : c < nc) (ha : aho nc mo ev set c < nr) (tp tr : Nat → Int32) :
    fX11_getsRoom N cs eva moa rs tp lea tr sea (nI set) (nI c) = some (nI (if plS nr nc se mo ev set c < le c then 0 else 1), upd tr c (nI (rmS nr se (aho nc mo ev set c))), upd tp c (nI (plS nr nc se mo ev set c))) := by
  obtain ⟨r0, h1, h2⟩ := ps_sur hnr hse hseb ha
  have h5 := gr_5 (N := N) (rs := rs) (sea := sea) (lea := lea) hN hnr hnc hcs hmo hmob hev he5 hset hc (tp := tp) (tr := tr) nc 0 N (by omega) (by omega)
  have hb := gr_before (N := N) (cs := cs) (eva := eva) (le := le) hN hnr hrs hse hseb hmo hmob hle hleb (c := c) (a := aho nc mo ev set c) (r0 := r0) (by omega) h1 h2 (tp := tp) (tr := tr) r0 0 N (by omega) (by omega)
  have hrm := rmS_eq h1 h2
  unfold plS
  rw [hrm]
  rw [← aho_eq hc] at h5
  unfold fX11_getsRoom
  exact h5.trans hb
theorem can_117 (hN : 40 < N) (hnr : nr ≤ 5) (hnc : nc ≤ 10) (hcs : cs 0 = nI nc) (hrs : rs 0 = nI nr) (hse : rA sea se 5) (hseb : ∀ k, k < 5 → se k < 100) (hmo : rA moa mo 10) (hmob : ∀ k, k < 10 → mo k < 100) (hle : rA lea le 10) (hleb : ∀ k, k < 10 → le k < 100) (hev : rA eva ev 10) (he5 : ∀ c, c < 10 → ev c < 5) (hset : set < 1024) (hCE : ∀ e, e < 5 → CE nr nc ev te set e) :
    ∀ dd c m (tp tr : Nat → Int32), c + dd = nc → dd < m → (∀ d, d < c → set.testBit d = true → tr d = nI (rmS nr se (aho nc mo ev set d)) ∧ tp d = nI (plS nr nc se mo ev set d)) →
      ∃ (r : Nat) (tr' tp' : Nat → Int32), fX11_can_117 N m cs rs eva tea moa tp lea tr sea (nI set) (nI c) = some (nI r, tr', tp') ∧ ((r = 1 ∧ (∀ d, c ≤ d → d < nc → set.testBit d = true → le d ≤ plS nr nc se mo ev set d) ∧ ∀ d, d < nc → set.testBit d = true → tr' d = nI (rmS nr se (aho nc mo ev set d)) ∧ tp' d = nI (plS nr nc se mo ev set d)) ∨ (r = 0 ∧ ¬ ∀ d, c ≤ d → d < nc → set.testBit d = true → le d ≤ plS nr nc se mo ev set d)) := by
  have hc0 : ns_ald cs 4 0 = some (nI nc) := by rw [nz0, nz_ald (by omega) (by omega), hcs]
  intro dd
  induction dd with
  | zero =>
    intro c m tp tr h1 h2 h3
    obtain ⟨m, rfl⟩ : ∃ z, m = z + 1 := ⟨m - 1, by omega⟩
    refine ⟨1, tr, tp, ?_, Or.inl ⟨rfl, fun d a b => by omega, fun d a => h3 d (by omega)⟩⟩
    show gX11_can_117 N (fX11_can_117 N m) cs rs eva tea moa tp lea tr sea (nI set) (nI c) = _
    unfold gX11_can_117
    rw [hc0, Option.bind_some, if_pos (nI_le (by omega) (by omega))]
    rfl
  | succ dd ih =>
    intro c m tp tr h1 h2 h3
    obtain ⟨m, rfl⟩ : ∃ z, m = z + 1 := ⟨m - 1, by omega⟩
    have hst : fX11_can_117 N (m + 1) cs rs eva tea moa tp lea tr sea (nI set) (nI c) = gX11_can_117 N (fX11_can_117 N m) cs rs eva tea moa tp lea tr sea (nI set) (nI c) := rfl
    rw [hst]
    unfold gX11_can_117
    rw [hc0, Option.bind_some, if_neg (nI_ge (by omega) (by omega)), bt_shr c (by omega) set hset]
    by_cases hin : set.testBit c = true
    · have hcn : c < nc := by omega
      rw [if_neg (bt_ne hin), gr_eq hN hnr hnc hcs hrs hse hseb hmo hmob hle hleb hev he5 hset hcn (aho_lt hcn hin (hCE _ (he5 c (by omega))).2), Option.bind_some]
      dsimp only
      by_cases q : plS nr nc se mo ev set c < le c
      · rw [if_pos q, if_pos (show nI 0 = 0 from rfl)]
        exact ⟨0, _, _, rfl, Or.inr ⟨rfl, fun z => by have := z c (by omega) (by omega) hin; omega⟩⟩
      · rw [if_neg q, if_neg (show ¬ nI 1 = 0 by decide), nz_let, nI_1]
        obtain ⟨r, tr', tp', f1, f2⟩ := ih (c + 1) m (upd tp c (nI (plS nr nc se mo ev set c))) (upd tr c (nI (rmS nr se (aho nc mo ev set c)))) (by omega) (by omega) (fun d a b => by
          by_cases z : d = c
          · subst z; exact ⟨pk_us, pk_us⟩
          · rw [pk_un z, pk_un z]; exact h3 d (by omega) b)
        refine ⟨r, tr', tp', f1, ?_⟩
        rcases f2 with ⟨a1, a2, a3⟩ | ⟨a1, a2⟩
        · refine Or.inl ⟨a1, fun d z1 z2 z3 => ?_, a3⟩
          by_cases z : d = c
          · subst z; omega
          · exact a2 d (by omega) z2 z3
        · exact Or.inr ⟨a1, fun y => a2 (fun d z1 z2 z3 => y d (by omega) z2 z3)⟩
    · rw [if_pos (bt_is hin), nz_let, nI_1]
      obtain ⟨r, tr', tp', f1, f2⟩ := ih (c + 1) m tp tr (by omega) (by omega) (fun d a b => by
        by_cases z : d = c
        · subst z; exact absurd b hin
        · exact h3 d (by omega) b)
      refine ⟨r, tr', tp', f1, ?_⟩
      rcases f2 with ⟨a1, a2, a3⟩ | ⟨a1, a2⟩
      · refine Or.inl ⟨a1, fun d z1 z2 z3 => ?_, a3⟩
        by_cases z : d = c
        · subst z; exact absurd z3 hin
        · exact a2 d (by omega) z2 z3
      · exact Or.inr ⟨a1, fun y => a2 (fun d z1 z2 z3 => y d (by omega) z2 z3)⟩
/-- a set of courses as a number: bits without a course are refused by both -/
theorem sh_amt : ∀ nc, nc ≤ 10 → ((nI nc &&& 31).toBitVec.smod 32).toNat = nc ∧ (((nI nc).toUInt32 &&& Int32.toUInt32 31).toBitVec % 32).toNat = nc := by decide +kernel
theorem set_split (x : Int32) (hnc : nc ≤ 10) : (∃ set, set < 2 ^ nc ∧ x = nI set ∧ (x.toUInt32 >>> ((nI nc).toUInt32 &&& Int32.toUInt32 31)).toInt32 = 0 ∧ ¬ x < 0 ∧ x >>> (nI nc &&& 31) = 0) ∨ (¬ (x.toUInt32 >>> ((nI nc).toUInt32 &&& Int32.toUInt32 31)).toInt32 = 0 ∧ (x < 0 ∨ ¬ x >>> (nI nc &&& 31) = 0)) := by
  obtain ⟨s1, s2⟩ := sh_amt nc hnc
  have hu := pk_ushr x (nI nc) nc s2
  have hp : 2 ^ nc ≤ 1024 := Nat.pow_le_pow_right (n := 2) (by decide) hnc
  have hp0 : 0 < 2 ^ nc := Nat.two_pow_pos _
  by_cases hn : x < 0
  · right
    refine ⟨fun z => ?_, Or.inl hn⟩
    rw [z] at hu
    have h1 : x.toBitVec.toNat / 2 ^ nc = 0 := by rw [← hu]; rfl
    have h2 : x.toBitVec.toNat < 2 ^ nc := by
      rcases Nat.div_eq_zero_iff.mp h1 with q | q
      · omega
      · exact q
    have h3 : x = nI x.toBitVec.toNat := by
      apply Int32.toBitVec_inj.mp
      apply BitVec.eq_of_toNat_eq
      rw [pk_tn (by omega)]
    rw [h3] at hn
    exact nI_pos (by omega) hn
  · obtain ⟨u, hu1, rfl⟩ := nI_of hn
    rw [pk_tn (by omega)] at hu
    have hsr := pk_shrN hu1 (nI nc &&& 31) nc s1
    have hle : u / 2 ^ nc ≤ u := Nat.div_le_self _ _
    by_cases q : u < 2 ^ nc
    · left
      refine ⟨u, q, rfl, ?_, hn, ?_⟩
      · apply Int32.toBitVec_inj.mp
        apply BitVec.eq_of_toNat_eq
        rw [hu, Nat.div_eq_of_lt q]; rfl
      · rw [hsr, Nat.div_eq_of_lt q]; rfl
    · right
      have hne : u / 2 ^ nc ≠ 0 := fun z => by
        rcases Nat.div_eq_zero_iff.mp z with y | y <;> omega
      refine ⟨fun z => ?_, Or.inr ?_⟩
      · rw [z] at hu
        exact hne (by rw [← hu]; rfl)
      · rw [hsr, nz_e0 (by omega)]; exact hne
theorem can_eq (hN : 40 < N) (hnr : nr ≤ 5) (hnc : nc ≤ 10) (hcs : cs 0 = nI nc) (hrs : rs 0 = nI nr) (hse : rA sea se 5) (hseb : ∀ k, k < 5 → se k < 100) (hmo : rA moa mo 10) (hmob : ∀ k, k < 10 → mo k < 100) (hle : rA lea le 10) (hleb : ∀ k, k < 10 → le k < 100) (hev : rA eva ev 10) (he5 : ∀ c, c < 10 → ev c < 5) (hte : rA tea te 10) (ht6 : ∀ c, c < 10 → te c < 6) (hset : set < 2 ^ nc) (tp tr : Nat → Int32) :
    ∃ (r : Nat) (tr' tp' : Nat → Int32), fX11_can N cs rs eva tea moa tp lea tr sea (nI set) = some (nI r, tr', tp') ∧ ((r = 1 ∧ (∀ c, c < nc → set.testBit c = true → okc nr nc se mo ev te le set c) ∧ ∀ d, d < nc → set.testBit d = true → tr' d = nI (rmS nr se (aho nc mo ev set d)) ∧ tp' d = nI (plS nr nc se mo ev set d)) ∨ (r = 0 ∧ ((∀ e, e < 5 → ecn ev set e nc ≤ nr) → ¬ ∀ c, c < nc → set.testBit c = true → okc nr nc se mo ev te le set c))) := by
  have hp : 2 ^ nc ≤ 1024 := Nat.pow_le_pow_right (n := 2) (by decide) hnc
  have hs : set < 1024 := by omega
  have hc0 : ns_ald cs 4 0 = some (nI nc) := by rw [nz0, nz_ald (by omega) (by omega), hcs]
  have hsh : nI set >>> (nI nc &&& 31) = 0 := by
    rw [pk_shrN (by omega) (nI nc &&& 31) nc (sh_amt nc hnc).1, Nat.div_eq_of_lt hset]; rfl
  obtain ⟨c1, c2⟩ := can_19 (N := N) (sea := sea) (moa := moa) (lea := lea) hN hnr hnc hcs hrs hev he5 hte ht6 hs (tp := tp) (tr := tr) 5 0 N (by omega) (by omega)
  unfold fX11_can
  rw [if_neg (nI_pos (by omega)), hc0, Option.bind_some, if_pos hsh, show (0 : Int32) = nI 0 from rfl]
  by_cases q : ∀ e', 0 ≤ e' → e' < 5 → CE nr nc ev te set e'
  · have q' : ∀ e, e < 5 → CE nr nc ev te set e := fun e h => q e (by omega) h
    rw [c1 q]
    obtain ⟨r, tr', tp', f1, f2⟩ := can_117 (N := N) (tea := tea) hN hnr hnc hcs hrs hse hseb hmo hmob hle hleb hev he5 hs q' nc 0 N tp tr (by omega) (by omega) (fun d a => by omega)
    refine ⟨r, tr', tp', f1, ?_⟩
    rcases f2 with ⟨a1, a2, a3⟩ | ⟨a1, a2⟩
    · refine Or.inl ⟨a1, fun c hc hin => ⟨fun d z1 z2 z3 z4 z5 => ?_, aho_lt hc hin (q' _ (he5 c (by omega))).2, a2 c (by omega) hc hin⟩, a3⟩
      have := (q' _ (he5 c (by omega))).1 d c z1 hc z2 hin z3 rfl z5
      subst this
      exact bf_irr z4
    · exact Or.inr ⟨a1, fun _ z => a2 (fun d z1 z2 z3 => (z d z2 z3).2.2)⟩
  · rw [c2 q]
    refine ⟨0, tr, tp, rfl, Or.inr ⟨rfl, fun hec z => q (fun e _ he => ⟨fun d d' a1 a2 a3 a4 a5 a6 a7 => ?_, hec e he⟩)⟩⟩
    by_cases w : d = d'
    · exact w
    · rcases bf_tot (sz := mo) w with y | y
      · exact absurd a7 ((z d' a2 a4).1 d a1 a3 (by rw [a5, a6]) y)
      · exact absurd a7.symm ((z d a1 a3).1 d' a2 a4 (by rw [a5, a6]) y)
end C2
