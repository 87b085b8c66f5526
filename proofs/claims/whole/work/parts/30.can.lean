/-! whether a set can be held: the class's furnish as a whole, the reference's can -/
theorem sm_zero : ∀ n, sm (fun _ => 0) n = 0
  | 0 => rfl
  | n + 1 => by show sm (fun _ => 0) n + 0 = 0; rw [sm_zero n]
theorem nz_add0 (x : Int32) : x + 0 = x := Int32.add_zero x
section CA
variable {N nr nc set : Nat} {se mo ev te le : Nat → Nat} {sea moa eva tea lea ro co : Nat → Int32}
theorem furn_eq (hN : 40 < N) (hnr : nr ≤ 5) (hnc : nc ≤ 10) (hse : rA sea se 5) (hseb : ∀ k, k < 5 → se k < 100) (hmo : rA moa mo 10) (hmob : ∀ k, k < 10 → mo k < 100) (hev : rA eva ev 10) (he5 : ∀ c, c < 10 → ev c < 5) (hte : rA tea te 10) (ht6 : ∀ c, c < 10 → te c < 6) (hle : rA lea le 10) (hleb : ∀ k, k < 10 → le k < 100) (hro : OrdP se nr ro) (hco : OrdP mo nc co) (hset : set < 1024) (x : Int32) (rof pla tk hs ru tb : Nat → Int32) :
    ∃ (r : Nat) (rof' pla' ru' tb' : Nat → Int32), fX3_furnish N x rof pla tk hs ru tb (nI nc) co eva tea (nI nr) ro moa sea lea (nI set) = some (nI r, nI set, rof', pla', fil tk 10 0, fil hs 30 0, ru', tb') ∧ ((r = 1 ∧ (∀ c, c < nc → set.testBit c = true → okc nr nc se mo ev te le set c) ∧ RP nr nc se mo ev set nc rof' pla' ∧ ∀ e, e < 5 → ah nc mo ev set nc e ≤ nr) ∨ (r = 0 ∧ ¬ ∀ c, c < nc → set.testBit c = true → okc nr nc se mo ev te le set c)) := by
  have h0 : ∀ e, ah nc mo ev set 0 e = 0 := fun e => by
    unfold ah
    rw [sm_congr (g := fun _ => 0) nc (fun d _ => if_neg (fun z => by omega)), sm_zero]
  obtain ⟨r, rof', pla', ru', tb', f1, f2⟩ := furn_loop (N := N) (tk := fil tk 10 0) (hs := fil hs 30 0) hN hnr hnc hse hseb hmo hmob hev he5 hte ht6 hle hleb hro hco hset nc 0 N (fil rof 10 nM) (fil pla 10 0) (fil ru 5 0) (fil tb 5 0) (by omega) (by omega)
    (fun c hc => ⟨fun z => by omega, fun _ => ⟨fil_in hc, fil_in hc⟩⟩) (fun e he => by rw [fil_in he, h0]; rfl) (fun e _ => by rw [h0]; omega)
    (fun e he => ⟨0, by decide, by rw [fil_in he]; rfl, fun t _ => by
      rw [Nat.zero_testBit]
      constructor
      · intro z; cases z
      · rintro ⟨d, z1, z2, z3, z4, z5⟩; omega⟩)
  have hiff : (∀ c, c < nc → set.testBit c = true → 0 ≤ ps mo nc c → okc nr nc se mo ev te le set c) ↔ ∀ c, c < nc → set.testBit c = true → okc nr nc se mo ev te le set c := ⟨fun z c a b => z c a b (by omega), fun z c a b _ => z c a b⟩
  rw [hiff] at f2
  refine ⟨r, rof', pla', ru', tb', ?_, f2⟩
  rw [← f1]
  unfold fX3_furnish fX7_clear
  rw [fill_eq (by omega) (by omega), Option.bind_some, fill_eq (by omega) (by omega), Option.bind_some, fill_eq (by omega) (by omega), Option.bind_some, fill_eq (by omega) (by omega), Option.bind_some, Option.bind_some, fill_eq (by omega) (by omega), Option.bind_some, fill_eq (by omega) (by omega), Option.bind_some]
  rfl
end CA
theorem pop_or : ∀ t, t < 10 → ∀ m, m < 1024 → ¬ m.testBit t = true → pop (m ||| 2 ^ t) = pop m + 1 := by decide +kernel
/-- how many of the first i courses are in the set, on evening e -/
def ecn (ev : Nat → Nat) (set e i : Nat) : Nat := sm (fun d => if set.testBit d = true ∧ ev d = e then 1 else 0) i
def CE (nr nc : Nat) (ev te : Nat → Nat) (set e : Nat) : Prop := (∀ d d', d < nc → d' < nc → set.testBit d = true → set.testBit d' = true → ev d = e → ev d' = e → te d = te d' → d = d') ∧ ecn ev set e nc ≤ nr
section CR
variable {N nr nc set : Nat} {se mo ev te le : Nat → Nat} {sea moa eva tea lea cs rs : Nat → Int32}
theorem can_29 (hN : 40 < N) (hnr : nr ≤ 5) (hnc : nc ≤ 10) (hcs : cs 0 = nI nc) (hrs : rs 0 = nI nr) (hev : rA eva ev 10) (he5 : ∀ c, c < 10 → ev c < 5) (hte : rA tea te 10) (ht6 : ∀ c, c < 10 → te c < 6) (hset : set < 1024) {e : Nat} (he : e < 5) {tp tr : Nat → Int32} (r19 : (Nat → Int32) → (Nat → Int32) → (Nat → Int32) → (Nat → Int32) → (Nat → Int32) → (Nat → Int32) → (Nat → Int32) → (Nat → Int32) → (Nat → Int32) → Int32 → Int32 → Option (Int32 × (Nat → Int32) × (Nat → Int32))) :
    ∀ dd c m b, c + dd = nc → dd < m → b < 64 → (∀ t, t < 6 → (b.testBit t = true ↔ ∃ d, d < c ∧ set.testBit d = true ∧ ev d = e ∧ te d = t)) → pop b = ecn ev set e c → (∀ d d', d < c → d' < c → set.testBit d = true → set.testBit d' = true → ev d = e → ev d' = e → te d = te d' → d = d') →
      (CE nr nc ev te set e → fX11_can_29 N r19 m cs rs eva tea moa tp lea tr sea (nI set) (nI e) (nI b) (nI c) = r19 cs rs eva tea moa tp lea tr sea (nI set) (nI (e + 1))) ∧ (¬ CE nr nc ev te set e → fX11_can_29 N r19 m cs rs eva tea moa tp lea tr sea (nI set) (nI e) (nI b) (nI c) = some (0, tr, tp)) := by
  have hc0 : ns_ald cs 4 0 = some (nI nc) := by rw [nz0, nz_ald (by omega) (by omega), hcs]
  have hr0 : ns_ald rs 4 0 = some (nI nr) := by rw [nz0, nz_ald (by omega) (by omega), hrs]
  intro dd
  induction dd with
  | zero =>
    intro c m b h1 h2 hb hbits hpop hnc2
    obtain ⟨m, rfl⟩ : ∃ z, m = z + 1 := ⟨m - 1, by omega⟩
    have hst : fX11_can_29 N r19 (m + 1) cs rs eva tea moa tp lea tr sea (nI set) (nI e) (nI b) (nI c) = gX11_can_29 N r19 (fX11_can_29 N r19 m) cs rs eva tea moa tp lea tr sea (nI set) (nI e) (nI b) (nI c) := rfl
    have ec : c = nc := by omega
    rw [ec] at hpop hnc2
    have hp10 := pop_le b
    rw [hst]
    unfold gX11_can_29
    rw [hc0, Option.bind_some, if_pos (nI_le (by omega) (by omega)), ones_eq (by omega) (by omega), Option.bind_some, hr0, Option.bind_some]
    by_cases q : pop b ≤ nr
    · rw [if_pos (nI_le q (by omega)), nz_let, nI_1]
      exact ⟨fun _ => rfl, fun z => absurd ⟨hnc2, by omega⟩ z⟩
    · rw [if_neg (nI_ge (by omega) (by omega))]
      exact ⟨fun z => absurd z.2 (by omega), fun _ => rfl⟩
  | succ dd ih =>
    intro c m b h1 h2 hb hbits hpop hnc2
    obtain ⟨m, rfl⟩ : ∃ z, m = z + 1 := ⟨m - 1, by omega⟩
    have hst : fX11_can_29 N r19 (m + 1) cs rs eva tea moa tp lea tr sea (nI set) (nI e) (nI b) (nI c) = gX11_can_29 N r19 (fX11_can_29 N r19 m) cs rs eva tea moa tp lea tr sea (nI set) (nI e) (nI b) (nI c) := rfl
    have b5 := he5 c (by omega)
    have b6 := ht6 c (by omega)
    rw [hst]
    unfold gX11_can_29
    rw [hc0, Option.bind_some, if_neg (nI_ge (by omega) (by omega)), bt_shr c (by omega) set hset]
    have hsk : ¬ (set.testBit c = true ∧ ev c = e) → (CE nr nc ev te set e → fX11_can_29 N r19 m cs rs eva tea moa tp lea tr sea (nI set) (nI e) (nI b) (nI (c + 1)) = r19 cs rs eva tea moa tp lea tr sea (nI set) (nI (e + 1))) ∧ (¬ CE nr nc ev te set e → fX11_can_29 N r19 m cs rs eva tea moa tp lea tr sea (nI set) (nI e) (nI b) (nI (c + 1)) = some (0, tr, tp)) := by
      intro hno
      refine ih (c + 1) m b (by omega) (by omega) hb (fun t ht => ?_) ?_ (fun d d' a1 a2 a3 a4 a5 a6 a7 => ?_)
      · rw [hbits t ht]
        constructor
        · rintro ⟨d, z1, z2⟩; exact ⟨d, by omega, z2⟩
        · rintro ⟨d, z1, z2, z3, z4⟩
          by_cases y : d = c
          · subst y; exact absurd ⟨z2, z3⟩ hno
          · exact ⟨d, by omega, z2, z3, z4⟩
      · rw [hpop]
        show _ = ecn ev set e c + if set.testBit c = true ∧ ev c = e then 1 else 0
        rw [if_neg hno]; rfl
      · refine hnc2 d d' ?_ ?_ a3 a4 a5 a6 a7
        · by_cases y : d = c
          · subst y; exact absurd ⟨a3, a5⟩ hno
          · omega
        · by_cases y : d' = c
          · subst y; exact absurd ⟨a4, a6⟩ hno
          · omega
    by_cases hin : set.testBit c = true
    · rw [if_neg (bt_ne hin), nz_ald (by omega) (by omega), hev c (by omega), Option.bind_some]
      by_cases hee : ev c = e
      · rw [if_pos (show nI (ev c) = nI e by rw [hee]), nz_ald (by omega) (by omega), hte c (by omega), Option.bind_some, bt_shr (te c) (by omega) b (by omega)]
        by_cases hbt : b.testBit (te c) = true
        · rw [if_neg (bt_ne hbt)]
          refine ⟨fun z => ?_, fun _ => rfl⟩
          obtain ⟨d, z1, z2, z3, z4⟩ := (hbits _ b6).mp hbt
          have := z.1 d c (by omega) (by omega) z2 hin z3 hee z4
          omega
        · rw [if_pos (bt_is hbt), Option.bind_some, bt_or _ (by omega) _ (by omega), nz_let, nz_let, nI_1]
          refine ih (c + 1) m (b ||| 2 ^ te c) (by omega) (by omega) (or_lt6 hb b6) (fun t ht => ?_) ?_ (fun d d' a1 a2 a3 a4 a5 a6 a7 => ?_)
          · rw [tb_or, Bool.or_eq_true, hbits t ht, decide_eq_true_iff]
            constructor
            · rintro (⟨d, z1, z2⟩ | z)
              · exact ⟨d, by omega, z2⟩
              · exact ⟨c, by omega, hin, hee, z⟩
            · rintro ⟨d, z1, z2, z3, z4⟩
              by_cases y : d = c
              · subst y; exact Or.inr z4
              · exact Or.inl ⟨d, by omega, z2, z3, z4⟩
          · rw [pop_or _ (by omega) _ (by omega) hbt, hpop]
            show _ = ecn ev set e c + if set.testBit c = true ∧ ev c = e then 1 else 0
            rw [if_pos ⟨hin, hee⟩]
          · by_cases y : d = c
            · by_cases y' : d' = c
              · omega
              · subst y
                exact absurd ((hbits _ b6).mpr ⟨d', by omega, a4, a6, a7.symm⟩) hbt
            · by_cases y' : d' = c
              · subst y'
                exact absurd ((hbits _ b6).mpr ⟨d, by omega, a3, a5, a7⟩) hbt
              · exact hnc2 d d' (by omega) (by omega) a3 a4 a5 a6 a7
      · rw [if_neg (by rw [nz_eq (by omega) (by omega)]; exact hee), nz_let, nI_1]
        exact hsk (fun z => hee z.2)
    · rw [if_pos (bt_is hin), nz_let, nI_1]
      exact hsk (fun z => hin z.1)
theorem can_19 (hN : 40 < N) (hnr : nr ≤ 5) (hnc : nc ≤ 10) (hcs : cs 0 = nI nc) (hrs : rs 0 = nI nr) (hev : rA eva ev 10) (he5 : ∀ c, c < 10 → ev c < 5) (hte : rA tea te 10) (ht6 : ∀ c, c < 10 → te c < 6) (hset : set < 1024) {tp tr : Nat → Int32} :
    ∀ dd e m, e + dd = 5 → dd < m → ((∀ e', e ≤ e' → e' < 5 → CE nr nc ev te set e') → fX11_can_19 N m cs rs eva tea moa tp lea tr sea (nI set) (nI e) = fX11_can_117 N N cs rs eva tea moa tp lea tr sea (nI set) 0) ∧ ((¬ ∀ e', e ≤ e' → e' < 5 → CE nr nc ev te set e') → fX11_can_19 N m cs rs eva tea moa tp lea tr sea (nI set) (nI e) = some (0, tr, tp)) := by
  intro dd
  induction dd with
  | zero =>
    intro e m h1 h2
    obtain ⟨m, rfl⟩ : ∃ z, m = z + 1 := ⟨m - 1, by omega⟩
    have hst : fX11_can_19 N (m + 1) cs rs eva tea moa tp lea tr sea (nI set) (nI e) = gX11_can_19 N (fX11_can_19 N m) cs rs eva tea moa tp lea tr sea (nI set) (nI e) := rfl
    rw [hst]
    unfold gX11_can_19
    rw [if_pos (by rw [nz5]; exact nI_le (by omega) (by omega))]
    exact ⟨fun _ => rfl, fun z => absurd (fun e' a b => by omega) z⟩
  | succ dd ih =>
    intro e m h1 h2
    obtain ⟨m, rfl⟩ : ∃ z, m = z + 1 := ⟨m - 1, by omega⟩
    have hst : fX11_can_19 N (m + 1) cs rs eva tea moa tp lea tr sea (nI set) (nI e) = gX11_can_19 N (fX11_can_19 N m) cs rs eva tea moa tp lea tr sea (nI set) (nI e) := rfl
    obtain ⟨c1, c2⟩ := can_29 (N := N) (sea := sea) (moa := moa) (lea := lea) hN hnr hnc hcs hrs hev he5 hte ht6 hset (e := e) (by omega) (tp := tp) (tr := tr) (fX11_can_19 N m) nc 0 N 0 (by omega) (by omega) (by decide) (fun t _ => by
      rw [Nat.zero_testBit]
      constructor
      · intro z; cases z
      · rintro ⟨d, z1, z2⟩; omega) (by rw [show pop 0 = 0 by decide]; rfl) (fun d d' a1 => by omega)
    obtain ⟨i1, i2⟩ := ih (e + 1) m (by omega) (by omega)
    rw [hst]
    unfold gX11_can_19
    rw [if_neg (by rw [nz5]; exact nI_ge (by omega) (by omega)), show (0 : Int32) = nI 0 from rfl]
    by_cases q : CE nr nc ev te set e
    · rw [c1 q]
      refine ⟨fun z => i1 (fun e' a b => z e' (by omega) b), fun z => i2 (fun y => z (fun e' a b => ?_))⟩
      by_cases w : e' = e
      · subst w; exact q
      · exact y e' (by omega) b
    · rw [c2 q]
      exact ⟨fun z => absurd (z e (by omega) (by omega)) q, fun _ => rfl⟩
/-! the reference's getsRoom -/
theorem gr_125 (hN : 40 < N) (hnr : nr ≤ 5) (hrs : rs 0 = nI nr) (hse : rA sea se 5) (hseb : ∀ k, k < 5 → se k < 100) (hmo : rA moa mo 10) (hmob : ∀ k, k < 10 → mo k < 100) {c a r : Nat} (hc : c < 10) (hr : r < nr) (ha : a < 100) {tp tr : Nat → Int32} (r108 : (Nat → Int32) → (Nat → Int32) → (Nat → Int32) → (Nat → Int32) → (Nat → Int32) → (Nat → Int32) → (Nat → Int32) → (Nat → Int32) → Int32 → Int32 → Int32 → Option (Int32 × (Nat → Int32) × (Nat → Int32))) :
    ∀ dd q m, q + dd = nr → dd < m → fX11_getsRoom_125 N r108 m cs eva moa rs tp lea tr sea (nI c) (nI a) (nI r) (nI (ps se q r)) (nI q) = if ps se nr r = a then r108 cs eva moa rs (upd tp c (nI (if se r < mo c then se r else mo c))) lea (upd tr c (nI r)) sea (nI c) (nI a) (nI (r + 1)) else r108 cs eva moa rs tp lea tr sea (nI c) (nI a) (nI (r + 1)) := by
  have hr0 : ns_ald rs 4 0 = some (nI nr) := by rw [nz0, nz_ald (by omega) (by omega), hrs]
  have b1 := hseb r (by omega)
  have b2 := hmob c hc
  intro dd
  induction dd with
  | zero =>
    intro q m h1 h2
    obtain ⟨m, rfl⟩ : ∃ z, m = z + 1 := ⟨m - 1, by omega⟩
    have eq : q = nr := by omega
    have hpl := ps_le (sz := se) (n := nr) (i := r)
    show gX11_getsRoom_125 N r108 (fX11_getsRoom_125 N r108 m) cs eva moa rs tp lea tr sea (nI c) (nI a) (nI r) (nI (ps se q r)) (nI q) = _
    unfold gX11_getsRoom_125
    rw [hr0, Option.bind_some, if_pos (nI_le (by omega) (by omega)), eq]
    by_cases z : ps se nr r = a
    · rw [if_pos z, if_pos (show nI (ps se nr r) = nI a by rw [z]), nz_ast (by omega) (by omega), Option.bind_some, nz_ald (by omega) (by omega), hmo c hc, Option.bind_some, nz_ald (by omega) (by omega), hse r (by omega), Option.bind_some]
      by_cases y : se r ≤ mo c
      · rw [if_pos (nI_le y (by omega)), Option.bind_some, nz_ast (by omega) (by omega), Option.bind_some, nz_let, nI_1]
        have : (if se r < mo c then se r else mo c) = se r := by split <;> omega
        rw [this]
      · rw [if_neg (nI_ge (by omega) (by omega)), Option.bind_some, nz_ast (by omega) (by omega), Option.bind_some, nz_let, nI_1, if_neg (show ¬ se r < mo c by omega)]
    · rw [if_neg z, if_neg (by rw [nz_eq (by omega) (by omega)]; exact z), nz_let, nI_1]
  | succ dd ih =>
    intro q m h1 h2
    obtain ⟨m, rfl⟩ : ∃ z, m = z + 1 := ⟨m - 1, by omega⟩
    have b3 := hseb q (by omega)
    rw [← ih (q + 1) m (by omega) (by omega)]
    show gX11_getsRoom_125 N r108 (fX11_getsRoom_125 N r108 m) cs eva moa rs tp lea tr sea (nI c) (nI a) (nI r) (nI (ps se q r)) (nI q) = _
    unfold gX11_getsRoom_125 gX11_getsRoom_179
    rw [hr0, Option.bind_some, if_neg (nI_ge (by omega) (by omega)), nz_ald (by omega) (by omega), hse q (by omega), Option.bind_some, nz_ald (by omega) (by omega), hse r (by omega), Option.bind_some, ps_succ]
    simp only [nz_let, nI_1, nz_add0, Option.bind_some]
    by_cases z : se r < se q
    · rw [if_pos (nI_lt z (by omega)), if_pos (bf_iff.mpr (Or.inl z))]
    · rw [if_neg (nI_nlt (by omega) (by omega))]
      by_cases y : se q = se r
      · rw [if_pos (show nI (se q) = nI (se r) by rw [y])]
        by_cases w : r ≤ q
        · rw [if_pos (nI_le w (by omega)), if_neg (by rw [bf_iff]; omega)]; rfl
        · rw [if_neg (nI_ge (by omega) (by omega)), if_pos (by rw [bf_iff]; omega)]
      · rw [if_neg (by rw [nz_eq (by omega) (by omega)]; exact y), if_neg (by rw [bf_iff]; omega)]; rfl
theorem gr_after (hN : 40 < N) (hnr : nr ≤ 5) (hrs : rs 0 = nI nr) (hse : rA sea se 5) (hseb : ∀ k, k < 5 → se k < 100) (hmo : rA moa mo 10) (hmob : ∀ k, k < 10 → mo k < 100) (hle : rA lea le 10) (hleb : ∀ k, k < 10 → le k < 100) {c a r0 x : Nat} (hc : c < 10) (hr0 : r0 < nr) (ha : ps se nr r0 = a) (hx : x < 100) {tp tr : Nat → Int32} (htp : tp c = nI x) :
    ∀ dd r m, r + dd = nr → r0 < r → dd < m → fX11_getsRoom_108 N m cs eva moa rs tp lea tr sea (nI c) (nI a) (nI r) = some (nI (if x < le c then 0 else 1), tr, tp) := by
  have hrr : ns_ald rs 4 0 = some (nI nr) := by rw [nz0, nz_ald (by omega) (by omega), hrs]
  have b2 := hleb c hc
  have hpl := ps_le (sz := se) (n := nr) (i := r0)
  intro dd
  induction dd with
  | zero =>
    intro r m h1 h2 h3
    obtain ⟨m, rfl⟩ : ∃ z, m = z + 1 := ⟨m - 1, by omega⟩
    show gX11_getsRoom_108 N (fX11_getsRoom_108 N m) cs eva moa rs tp lea tr sea (nI c) (nI a) (nI r) = _
    unfold gX11_getsRoom_108
    rw [hrr, Option.bind_some, if_pos (nI_le (by omega) (by omega)), nz_ald (by omega) (by omega), htp, Option.bind_some, nz_ald (by omega) (by omega), hle c hc, Option.bind_some]
    by_cases z : x < le c
    · rw [if_pos z, if_pos (nI_lt z (by omega))]; rfl
    · rw [if_neg z, if_neg (nI_nlt (by omega) (by omega))]; rfl
  | succ dd ih =>
    intro r m h1 h2 h3
    obtain ⟨m, rfl⟩ : ∃ z, m = z + 1 := ⟨m - 1, by omega⟩
    rw [← ih (r + 1) m (by omega) (by omega) (by omega)]
    show gX11_getsRoom_108 N (fX11_getsRoom_108 N m) cs eva moa rs tp lea tr sea (nI c) (nI a) (nI r) = _
    unfold gX11_getsRoom_108
    rw [hrr, Option.bind_some, if_neg (nI_ge (by omega) (by omega))]
    have h125 := gr_125 (N := N) (cs := cs) (eva := eva) (lea := lea) hN hnr hrs hse hseb hmo hmob (c := c) (a := a) (r := r) hc (by omega) (by omega) (tp := tp) (tr := tr) (fX11_getsRoom_108 N m) nr 0 N (by omega) (by omega)
    rw [if_neg (fun z => by have := ps_inj (sz := se) (n := nr) (i := r) (j := r0) (by omega) hr0 (by rw [z, ha]); omega)] at h125
    exact h125
theorem gr_before (hN : 40 < N) (hnr : nr ≤ 5) (hrs : rs 0 = nI nr) (hse : rA sea se 5) (hseb : ∀ k, k < 5 → se k < 100) (hmo : rA moa mo 10) (hmob : ∀ k, k < 10 → mo k < 100) (hle : rA lea le 10) (hleb : ∀ k, k < 10 → le k < 100) {c a r0 : Nat} (hc : c < 10) (hr0 : r0 < nr) (ha : ps se nr r0 = a) {tp tr : Nat → Int32} :
    ∀ dd r m, r + dd = r0 → dd + nr < m → fX11_getsRoom_108 N m cs eva moa rs tp lea tr sea (nI c) (nI a) (nI r) = some (nI (if (if se r0 < mo c then se r0 else mo c) < le c then 0 else 1), upd tr c (nI r0), upd tp c (nI (if se r0 < mo c then se r0 else mo c))) := by
  have hrr : ns_ald rs 4 0 = some (nI nr) := by rw [nz0, nz_ald (by omega) (by omega), hrs]
  have hpl := ps_le (sz := se) (n := nr) (i := r0)
  have b1 := hseb r0 (by omega)
  have b2 := hmob c hc
  intro dd
  induction dd with
  | zero =>
    intro r m h1 h2
    obtain ⟨m, rfl⟩ : ∃ z, m = z + 1 := ⟨m - 1, by omega⟩
    have er : r = r0 := by omega
    subst er
    have haf := gr_after (N := N) (cs := cs) (eva := eva) (le := le) hN hnr hrs hse hseb hmo hmob hle hleb (c := c) (a := a) (r0 := r) (x := if se r < mo c then se r else mo c) hc hr0 ha (by split <;> omega) (tp := upd tp c (nI (if se r < mo c then se r else mo c))) (tr := upd tr c (nI r)) pk_us (nr - (r + 1)) (r + 1) m (by omega) (by omega) (by omega)
    rw [← haf]
    show gX11_getsRoom_108 N (fX11_getsRoom_108 N m) cs eva moa rs tp lea tr sea (nI c) (nI a) (nI r) = _
    unfold gX11_getsRoom_108
    rw [hrr, Option.bind_some, if_neg (nI_ge (by omega) (by omega))]
    have h125 := gr_125 (N := N) (cs := cs) (eva := eva) (lea := lea) hN hnr hrs hse hseb hmo hmob (c := c) (a := a) (r := r) hc (by omega) (by omega) (tp := tp) (tr := tr) (fX11_getsRoom_108 N m) nr 0 N (by omega) (by omega)
    rw [if_pos ha] at h125
    exact h125
  | succ dd ih =>
    intro r m h1 h2
    obtain ⟨m, rfl⟩ : ∃ z, m = z + 1 := ⟨m - 1, by omega⟩
    rw [← ih (r + 1) m (by omega) (by omega)]
    show gX11_getsRoom_108 N (fX11_getsRoom_108 N m) cs eva moa rs tp lea tr sea (nI c) (nI a) (nI r) = _
    unfold gX11_getsRoom_108
    rw [hrr, Option.bind_some, if_neg (nI_ge (by omega) (by omega))]
    have h125 := gr_125 (N := N) (cs := cs) (eva := eva) (lea := lea) hN hnr hrs hse hseb hmo hmob (c := c) (a := a) (r := r) hc (by omega) (by omega) (tp := tp) (tr := tr) (fX11_getsRoom_108 N m) nr 0 N (by omega) (by omega)
    rw [if_neg (fun z => by have := ps_inj (sz := se) (n := nr) (i := r) (j := r0) (by omega) hr0 (by rw [z, ha]); omega)] at h125
    exact h125
end CR
