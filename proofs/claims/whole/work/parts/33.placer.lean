/-! placing one pupil: the reference -/
def emN (ev : Nat → Nat) (m : Nat) : Nat → Nat
  | 0 => 0
  | n + 1 => if m.testBit n = true then emN ev m n ||| 2 ^ ev n else emN ev m n
theorem emN_lt {ev : Nat → Nat} {m : Nat} : ∀ n, (∀ c, c < n → ev c < 5) → emN ev m n < 64
  | 0, _ => by show 0 < 64; decide
  | n + 1, h => by
    have h1 := emN_lt (ev := ev) (m := m) n (fun c hc => h c (by omega))
    unfold emN
    split
    · exact or_lt6 h1 (by have := h n (by omega); omega)
    · exact h1
theorem emN_tb {ev : Nat → Nat} {m e : Nat} : ∀ n, (emN ev m n).testBit e = true ↔ ∃ d, d < n ∧ m.testBit d = true ∧ ev d = e
  | 0 => by simp [emN]
  | n + 1 => by
    have ih := emN_tb (ev := ev) (m := m) (e := e) n
    unfold emN
    split
    · rw [tb_or, Bool.or_eq_true, ih, decide_eq_true_iff]
      constructor
      · rintro (⟨d, a, b⟩ | a)
        · exact ⟨d, by omega, b⟩
        · exact ⟨n, by omega, by assumption, a⟩
      · rintro ⟨d, a, b, c⟩
        by_cases q : d = n
        · subst q; exact Or.inr c
        · exact Or.inl ⟨d, by omega, b, c⟩
    · rw [ih]
      constructor
      · rintro ⟨d, a, b⟩; exact ⟨d, by omega, b⟩
      · rintro ⟨d, a, b, c⟩
        by_cases q : d = n
        · subst q; exact absurd b (by assumption)
        · exact ⟨d, by omega, b, c⟩
section PE
variable {N np nc set : Nat} {nw wa pl ev hs : Nat → Nat} {W : Nat → Nat → Nat} {wc wi tp tr eva tea moa lea sea wnt cs rs pu th : Nat → Int32}
theorem even_loop (hnc : nc ≤ 10) (hcs : cs 0 = nI nc) (hev : rA eva ev 10) (he5 : ∀ c, c < 10 → ev c < 5) {m : Nat} (hm : m < 1024) : ∀ d i n, i + d = nc → d < n → fX11_evenings_4 N n cs eva (nI m) (nI (emN ev m i)) (nI i) = some (nI (emN ev m nc)) := by
  have hc0 : ns_ald cs 4 0 = some (nI nc) := by rw [nz0, nz_ald (by omega) (by omega), hcs]
  intro d
  induction d with
  | zero =>
    intro i n h1 h2
    obtain ⟨n, rfl⟩ : ∃ z, n = z + 1 := ⟨n - 1, by omega⟩
    show gX11_evenings_4 N (fX11_evenings_4 N n) cs eva (nI m) (nI (emN ev m i)) (nI i) = _
    unfold gX11_evenings_4
    rw [hc0, Option.bind_some, if_pos (nI_le (by omega) (by omega)), show i = nc by omega]
  | succ d ih =>
    intro i n h1 h2
    obtain ⟨n, rfl⟩ : ∃ z, n = z + 1 := ⟨n - 1, by omega⟩
    have hl := emN_lt (ev := ev) (m := m) i (fun c hc => he5 c (by omega))
    have b5 := he5 i (by omega)
    rw [← ih (i + 1) n (by omega) (by omega)]
    show gX11_evenings_4 N (fX11_evenings_4 N n) cs eva (nI m) (nI (emN ev m i)) (nI i) = fX11_evenings_4 N n cs eva (nI m) (nI (if m.testBit i = true then emN ev m i ||| 2 ^ ev i else emN ev m i)) (nI (i + 1))
    unfold gX11_evenings_4
    rw [hc0, Option.bind_some, if_neg (nI_ge (by omega) (by omega)), bt_shr i (by omega) m hm]
    by_cases q : m.testBit i = true
    · rw [if_neg (bt_ne q), if_pos q, nz_ald (by omega) (by omega), hev i (by omega), Option.bind_some, bt_or _ (by omega) _ (by omega), nz_let, nz_let, nI_1]
    · rw [if_pos (bt_is q), if_neg q, nz_let, nz_let, nI_1, nz0, nI_or, Nat.or_zero]
theorem even_eq (hN : 40 < N) (hnc : nc ≤ 10) (hcs : cs 0 = nI nc) (hev : rA eva ev 10) (he5 : ∀ c, c < 10 → ev c < 5) {m : Nat} (hm : m < 1024) : fX11_evenings N cs eva (nI m) = some (nI (emN ev m nc)) :=
  even_loop hnc hcs hev he5 hm nc 0 N (by omega) (by omega)
theorem taken_loop {c : Nat} (hps : pu 0 = nI np) (hnp : np ≤ 30) (hh : rA th hs np) (hm : ∀ p, p < 30 → hs p < 1024) (hc : c < 10) : ∀ d i n, i + d = np → d < n → fX11_taken_5 N 30 n pu th (nI c) (nI (cnt hs c i)) (nI i) = some (nI (cnt hs c np)) := by
  have h0 : ns_ald pu 4 0 = some (nI np) := by rw [nz0, nz_ald (by omega) (by omega), hps]
  intro d
  induction d with
  | zero =>
    intro i n h1 h2
    obtain ⟨n, rfl⟩ : ∃ z, n = z + 1 := ⟨n - 1, by omega⟩
    show gX11_taken_5 N 30 (fX11_taken_5 N 30 n) pu th (nI c) (nI (cnt hs c i)) (nI i) = _
    unfold gX11_taken_5
    rw [h0, Option.bind_some, if_pos (nI_le (by omega) (by omega)), show i = np by omega]
  | succ d ih =>
    intro i n h1 h2
    obtain ⟨n, rfl⟩ : ∃ z, n = z + 1 := ⟨n - 1, by omega⟩
    show gX11_taken_5 N 30 (fX11_taken_5 N 30 n) pu th (nI c) (nI (cnt hs c i)) (nI i) = _
    have h3 := hh i (by omega)
    have h4 := hm i (by omega)
    unfold gX11_taken_5
    rw [h0, Option.bind_some, if_neg (nI_ge (by omega) (by omega))]
    simp (disch := omega) only [nz_ald, h3, Option.bind_some, bt_shr, nI_add, nI_1, nz_let]
    exact ih (i + 1) n (by omega) (by omega)
theorem taken_eq {c : Nat} (hN : 40 < N) (hps : pu 0 = nI np) (hnp : np ≤ 30) (hh : rA th hs np) (hm : ∀ p, p < 30 → hs p < 1024) (hc : c < 10) : fX11_taken N 30 pu th (nI c) = some (nI (cnt hs c np)) :=
  taken_loop hps hnp hh hm hc np 0 N (by omega) (by omega)
theorem isFor_eq {p c : Nat} (hN : 40 < N) (hnp : np ≤ 30) (hnc : nc ≤ 10) (hcs : cs 0 = nI nc) (hps : pu 0 = nI np) (hev : rA eva ev 10) (he5 : ∀ c, c < 10 → ev c < 5) (hh : rA th hs np) (hm : ∀ p, p < 30 → hs p < 1024) (hset : set < 1024) (hplb : ∀ c, c < 10 → pl c < 100) (htp : ∀ c, c < nc → set.testBit c = true → tp c = nI (pl c)) (hp : p < np) (hc : c < nc) :
    fX11_isFor N th cs eva pu tp (nI set) (nI p) (nI c) = some (if isF set np nc pl ev hs p c = true then 1 else 0) := by
  have e5 := he5 c (by omega)
  have hcl := cnt_le hs c np
  have b9 := hplb c (by omega)
  have hel := emN_lt (ev := ev) (m := hs p) nc (fun c hc => he5 c (by omega))
  unfold fX11_isFor
  rw [bt_shr c (by omega) set hset]
  unfold isF
  by_cases q1 : set.testBit c = true
  · rw [if_neg (bt_ne q1), nz_ald (by omega) (by omega), hh p hp, Option.bind_some, even_eq hN hnc hcs hev he5 (hm p (by omega)), Option.bind_some, nz_ald (by omega) (by omega), hev c (by omega), Option.bind_some, bt_shr _ (by omega) _ (by omega)]
    by_cases q2 : (emN ev (hs p) nc).testBit (ev c) = true
    · rw [if_neg (bt_ne q2), if_neg]
      rw [decide_eq_true_iff]
      rintro ⟨-, z, -⟩
      obtain ⟨d, z1, z2, z3⟩ := (emN_tb _).mp q2
      exact z d z1 z2 z3
    · have q2' : ∀ d, d < nc → (hs p).testBit d = true → ev d ≠ ev c := fun d z1 z2 z3 => q2 ((emN_tb _).mpr ⟨d, z1, z2, z3⟩)
      rw [if_pos (bt_is q2), taken_eq hN hps hnp hh hm (by omega), Option.bind_some, nz_ald (by omega) (by omega), htp c hc q1, Option.bind_some]
      by_cases q3 : pl c ≤ cnt hs c np
      · rw [if_pos (nI_le q3 (by omega)), if_neg]
        rw [decide_eq_true_iff]
        rintro ⟨-, -, z⟩; omega
      · rw [if_neg (nI_ge (by omega) (by omega)), if_pos]
        rw [decide_eq_true_iff]
        exact ⟨q1, q2', by omega⟩
  · rw [if_pos (bt_is q1), if_neg]
    rw [decide_eq_true_iff]
    exact fun z => q1 z.1
theorem plp_r {p pts i rnd : Nat} (hN : 40 < N) (hnp : np ≤ 30) (hnc : nc ≤ 10) (hcs : cs 0 = nI nc) (hps : pu 0 = nI np) (hnw : ∀ p, p < 30 → nw p ≤ 6) (hwab : ∀ p, p < 30 → wa p < 100) (hW : ∀ p, p < 30 → ∀ k, k < nw p → W p k < nc) (hwc : rA wc nw 30) (hwi : rW wi W) (hev : rA eva ev 10) (he5 : ∀ c, c < 10 → ev c < 5) (hwn : rA wnt wa 30) (hh : rA th hs np) (hm : ∀ p, p < 30 → hs p < 1024) (hset : set < 1024) (hplb : ∀ c, c < 10 → pl c < 100) (htp : ∀ c, c < nc → set.testBit c = true → tp c = nI (pl c)) (hp : p < np) (r39 : (Nat → Int32) → (Nat → Int32) → (Nat → Int32) → (Nat → Int32) → (Nat → Int32) → (Nat → Int32) → (Nat → Int32) → (Nat → Int32) → (Nat → Int32) → (Nat → Int32) → (Nat → Int32) → (Nat → Int32) → (Nat → Int32) → (Nat → Int32) → Int32 → Int32 → Int32 → Option (Int32 × (Nat → Int32) × (Nat → Int32) × (Nat → Int32))) (r47 : (Nat → Int32) → (Nat → Int32) → (Nat → Int32) → (Nat → Int32) → (Nat → Int32) → (Nat → Int32) → (Nat → Int32) → (Nat → Int32) → (Nat → Int32) → (Nat → Int32) → (Nat → Int32) → (Nat → Int32) → (Nat → Int32) → (Nat → Int32) → Int32 → Int32 → Int32 → Int32 → Option (Int32 × (Nat → Int32) × (Nat → Int32) × (Nat → Int32))) :
    ∃ th' : Nat → Int32, gX11_placed_79 N r39 r47 cs rs eva tea moa tp lea tr sea pu th wnt wc wi (nI set) (nI pts) (nI rnd) (nI i) (nI p) = r47 cs rs eva tea moa tp lea tr sea pu th' wnt wc wi (nI set) (nI (plp set np nc pl ev nw wa W (hs, pts) p).2) (nI rnd) (nI (i + 1)) ∧ rA th' (plp set np nc pl ev nw wa W (hs, pts) p).1 np ∧ ∀ p', p' < 30 → (plp set np nc pl ev nw wa W (hs, pts) p).1 p' < 1024 := by
  have hp3 : p < 30 := by omega
  have e7 := hnw p hp3
  have hskip : ∀ k, nw p ≤ k → k < 100 → gX11_placed_155 N r39 r47 cs rs eva tea moa tp lea tr sea pu th wnt wc wi (nI set) (nI pts) (nI rnd) (nI i) (nI p) (nI k) = r47 cs rs eva tea moa tp lea tr sea pu th wnt wc wi (nI set) (nI pts) (nI rnd) (nI (i + 1)) := by
    intro k h1 h2
    unfold gX11_placed_155
    rw [nz_ald (by omega) (by omega), hwc p hp3, Option.bind_some, if_pos (nI_le (by omega) (by omega)), nz_let, nI_1]
  have hgive : ∀ k, k < nw p → gX11_placed_155 N r39 r47 cs rs eva tea moa tp lea tr sea pu th wnt wc wi (nI set) (nI pts) (nI rnd) (nI i) (nI p) (nI k) = r47 cs rs eva tea moa tp lea tr sea pu (upd th p (nI (hs p ||| 2 ^ W p k))) wnt wc wi (nI set) (nI (pts + (6 - k))) (nI rnd) (nI (i + 1)) := by
    intro k h1
    have hc := hW p hp3 k h1
    have hw1 := hwi p hp3 k (by omega)
    rw [Nat.mul_comm] at hw1
    have hcr : ns_ald wi 720 (6 * nI p + nI k) = some (nI (W p k)) := by
      simp (disch := omega) only [nz6, pk_mul, nI_add, nz_ald, hw1]
    unfold gX11_placed_155
    rw [nz_ald (by omega) (by omega), hwc p hp3, Option.bind_some, if_neg (nI_ge (by omega) (by omega)), nz_ald (by omega) (by omega), hh p hp, Option.bind_some, hcr, Option.bind_some, bt_or _ (by omega) _ (hm p hp3), nz_ast (by omega) (by omega), Option.bind_some, nz_let, nz_let, nI_1, nz6, pk_sub (by omega), nI_add]
  have h114 : ∀ d k m, k + d = nw p → d < m → fX11_placed_114 N r39 r47 m cs rs eva tea moa tp lea tr sea pu th wnt wc wi (nI set) (nI pts) (nI rnd) (nI i) (nI p) (nI k) = match fst1 (fun k => isF set np nc pl ev hs p (W p k)) d k with
      | some k' => gX11_placed_155 N r39 r47 cs rs eva tea moa tp lea tr sea pu th wnt wc wi (nI set) (nI pts) (nI rnd) (nI i) (nI p) (nI k')
      | none => gX11_placed_155 N r39 r47 cs rs eva tea moa tp lea tr sea pu th wnt wc wi (nI set) (nI pts) (nI rnd) (nI i) (nI p) (nI (nw p)) := by
    intro d
    induction d with
    | zero =>
      intro k m h1 h2
      obtain ⟨m, rfl⟩ : ∃ z, m = z + 1 := ⟨m - 1, by omega⟩
      show gX11_placed_114 N r39 r47 (fX11_placed_114 N r39 r47 m) cs rs eva tea moa tp lea tr sea pu th wnt wc wi (nI set) (nI pts) (nI rnd) (nI i) (nI p) (nI k) = gX11_placed_155 _ _ _ _ _ _ _ _ _ _ _ _ _ _ _ _ _ _ _ _ _ _ _
      unfold gX11_placed_114
      rw [nz_ald (by omega) (by omega), hwc p hp3, Option.bind_some, if_pos (nI_le (by omega) (by omega)), show k = nw p by omega]
    | succ d ih =>
      intro k m h1 h2
      obtain ⟨m, rfl⟩ : ∃ z, m = z + 1 := ⟨m - 1, by omega⟩
      have hc := hW p hp3 k (by omega)
      have hw1 := hwi p hp3 k (by omega)
      rw [Nat.mul_comm] at hw1
      have hcr : ns_ald wi 720 (6 * nI p + nI k) = some (nI (W p k)) := by
        simp (disch := omega) only [nz6, pk_mul, nI_add, nz_ald, hw1]
      show gX11_placed_114 N r39 r47 (fX11_placed_114 N r39 r47 m) cs rs eva tea moa tp lea tr sea pu th wnt wc wi (nI set) (nI pts) (nI rnd) (nI i) (nI p) (nI k) = _
      unfold gX11_placed_114 fst1
      rw [nz_ald (by omega) (by omega), hwc p hp3, Option.bind_some, if_neg (nI_ge (by omega) (by omega)), hcr, Option.bind_some, isFor_eq hN hnp hnc hcs hps hev he5 hh hm hset hplb htp hp hc, Option.bind_some]
      by_cases q : isF set np nc pl ev hs p (W p k) = true
      · rw [if_pos q, if_pos q, if_neg (by decide)]
      · rw [if_neg q, if_neg q, if_pos rfl, nz_let, nI_1, ih (k + 1) m (by omega) (by omega)]
  have hpop := pop_le (hs p)
  have hwb := hwab p hp3
  unfold gX11_placed_79 plp
  rw [nz_ald (by omega) (by omega), hh p hp, Option.bind_some, ones_eq (by omega) (hm p hp3), Option.bind_some, nz_ald (by omega) (by omega), hwn p hp3, Option.bind_some]
  dsimp only
  by_cases q : pop (hs p) < wa p
  · rw [if_neg (nI_ge q (by omega)), if_pos q, show (0 : Int32) = nI 0 from rfl, h114 (nw p) 0 N (by omega) (by omega)]
    cases e : fst1 (fun k => isF set np nc pl ev hs p (W p k)) (nw p) 0 with
    | none => exact ⟨th, hskip _ (by omega) (by omega), hh, hm⟩
    | some k =>
      obtain ⟨-, h1, -⟩ := fst1_some _ _ _ e
      exact ⟨_, hgive k (by omega), rA_upd hh, mvm_all hm (or_lt (hm p hp3) (by have := hW p hp3 k (by omega); omega))⟩
  · rw [if_pos (nI_le (by omega) (by omega)), if_neg q, nz_ald (by omega) (by omega), hwc p hp3, Option.bind_some]
    have h := h114 0 (nw p) N (by omega) (by omega)
    exact ⟨th, h.trans (hskip _ (by omega) (by omega)), hh, hm⟩
end PE
