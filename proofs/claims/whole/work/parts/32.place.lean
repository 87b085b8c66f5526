/-! placing one pupil: the class and the reference -/
theorem nI_bv (a : Nat) : (nI a).toBitVec = BitVec.ofNat 32 a := rfl
theorem nI_and (a b : Nat) : nI a &&& nI b = nI (a &&& b) := by
  apply Int32.toBitVec_inj.mp
  rw [Int32.toBitVec_and, nI_bv, nI_bv, nI_bv]
  refine BitVec.eq_of_getLsbD_eq fun i hi => ?_
  rw [BitVec.getLsbD_and, BitVec.getLsbD_ofNat, BitVec.getLsbD_ofNat, BitVec.getLsbD_ofNat, Nat.testBit_and]
  simp [hi]
theorem nI_or (a b : Nat) : nI a ||| nI b = nI (a ||| b) := by
  apply Int32.toBitVec_inj.mp
  rw [Int32.toBitVec_or, nI_bv, nI_bv, nI_bv]
  refine BitVec.eq_of_getLsbD_eq fun i hi => ?_
  rw [BitVec.getLsbD_or, BitVec.getLsbD_ofNat, BitVec.getLsbD_ofNat, BitVec.getLsbD_ofNat, Nat.testBit_or]
  simp [hi]
theorem nI_xor (a b : Nat) : nI a ^^^ nI b = nI (a ^^^ b) := by
  apply Int32.toBitVec_inj.mp
  rw [Int32.toBitVec_xor, nI_bv, nI_bv, nI_bv]
  refine BitVec.eq_of_getLsbD_eq fun i hi => ?_
  rw [BitVec.getLsbD_xor, BitVec.getLsbD_ofNat, BitVec.getLsbD_ofNat, BitVec.getLsbD_ofNat, Nat.testBit_xor]
  simp [hi]
theorem nI_not (b : Nat) : nI b ^^^ (-1) = nI (b ^^^ (2 ^ 32 - 1)) := by
  rw [show (-1 : Int32) = nI (2 ^ 32 - 1) by decide, nI_xor]
theorem tb_not {a b c : Nat} (hc : c < 10) : (a &&& (b ^^^ (2 ^ 32 - 1))).testBit c = (a.testBit c && !b.testBit c) := by
  rw [Nat.testBit_and, Nat.testBit_xor, Nat.testBit_two_pow_sub_one]
  simp [show c < 32 by omega]
/-- whether course c is for pupil p now -/
def isF (set np nc : Nat) (pl ev : Nat → Nat) (hs : Nat → Nat) (p c : Nat) : Bool := decide (set.testBit c = true ∧ (∀ d, d < nc → (hs p).testBit d = true → ev d ≠ ev c) ∧ cnt hs c np < pl c)
abbrev PS : Type := (Nat → Nat) × Nat
def plp (set np nc : Nat) (pl ev nw wa : Nat → Nat) (W : Nat → Nat → Nat) (s : PS) (p : Nat) : PS :=
  if pop (s.1 p) < wa p then (match fst1 (fun k => isF set np nc pl ev s.1 p (W p k)) (nw p) 0 with
    | some k => (va_up s.1 p (s.1 p ||| 2 ^ W p k), s.2 + (6 - k))
    | none => s) else s
/-- what the class keeps beside the masks -/
def PIc (set np nc : Nat) (pl ev : Nat → Nat) (hs : Nat → Nat) (has tk bar : Nat → Int32) (wp : Int32) : Prop := rA has hs 30 ∧ (∀ p, p < 30 → hs p < 1024) ∧ rA tk (fun c => cnt hs c np) 10 ∧ (∀ p, p < np → ∃ bm, bm < 1024 ∧ bar p = nI bm ∧ ∀ c, c < nc → (bm.testBit c = true ↔ ∃ d, d < nc ∧ (hs p).testBit d = true ∧ ev d = ev c)) ∧ ∃ w, w < 1024 ∧ wp = nI w ∧ ∀ c, c < 10 → (w.testBit c = true ↔ set.testBit c = true ∧ cnt hs c np < pl c)
section PC
variable {N np nc set : Nat} {nw wa pl ev : Nat → Nat} {W : Nat → Nat → Nat} {wc wi pla eva wnt wd ce : Nat → Int32}
theorem place_50 (hN : 40 < N) (hnp : np ≤ 30) (hnc : nc ≤ 10) (hnw : ∀ p, p < 30 → nw p ≤ 6) (hW : ∀ p, p < 30 → ∀ k, k < nw p → W p k < nc) (hwc : rA wc nw 30) (hwi : rW wi W) (hev : rA eva ev 10) {p fr : Nat} (hp : p < np) (hfr : fr < 1024) {wp : Int32} {has tk bar : Nat → Int32} :
    ∀ d k m, k + d = nw p → d < m → fX3_placePupil_50 N m wp bar wd has wnt wc wi eva tk ce pla (nI p) (nI fr) (nI k) = match fst1 (fun k => fr.testBit (W p k)) d k with
      | some k' => (fX3_givePlace N has tk bar ce pla wp (nI p) (nI (W p k')) (nI (ev (W p k')))).bind fun o5 => some (nI (6 - k'), o5.1, o5.2.1, o5.2.2.1, o5.2.2.2)
      | none => some (0, has, tk, bar, wp) := by
  have hp3 : p < 30 := by omega
  have e7 := hnw p hp3
  intro d
  induction d with
  | zero =>
    intro k m h1 h2
    obtain ⟨m, rfl⟩ : ∃ z, m = z + 1 := ⟨m - 1, by omega⟩
    show gX3_placePupil_50 N (fX3_placePupil_50 N m) wp bar wd has wnt wc wi eva tk ce pla (nI p) (nI fr) (nI k) = some _
    unfold gX3_placePupil_50
    rw [nz_ald (by omega) (by omega), hwc p hp3, Option.bind_some, if_pos (nI_le (by omega) (by omega))]
  | succ d ih =>
    intro k m h1 h2
    obtain ⟨m, rfl⟩ : ∃ z, m = z + 1 := ⟨m - 1, by omega⟩
    have hc := hW p hp3 k (by omega)
    have hcr : fX4_courseOfRank N wi (nI p) (nI k) = some (nI (W p k)) := by
      simp (disch := omega) only [fX4_courseOfRank, nz6, pk_mul, nI_add, nz_ald, hwi p hp3 k (by omega), Option.bind_some]
    show gX3_placePupil_50 N (fX3_placePupil_50 N m) wp bar wd has wnt wc wi eva tk ce pla (nI p) (nI fr) (nI k) = _
    unfold gX3_placePupil_50 fst1
    rw [nz_ald (by omega) (by omega), hwc p hp3, Option.bind_some, if_neg (nI_ge (by omega) (by omega)), hcr, Option.bind_some, bt_shr _ (by omega) _ hfr]
    by_cases q : fr.testBit (W p k) = true
    · rw [if_neg (bt_ne q), if_pos q, nz_ald (by omega) (by omega), hev _ (by omega), Option.bind_some]
      dsimp only
      rw [show (6 : Int32) - nI k = nI (6 - k) by rw [nz6, pk_sub (by omega)]]
    · rw [if_pos (bt_is q), if_neg q, nz_let, nI_1, ih (k + 1) m (by omega) (by omega)]
theorem plp_c (hN : 40 < N) (hnp : np ≤ 30) (hnc : nc ≤ 10) (hnw : ∀ p, p < 30 → nw p ≤ 6) (hwab : ∀ p, p < 30 → wa p < 100) (hW : ∀ p, p < 30 → ∀ k, k < nw p → W p k < nc) (hwc : rA wc nw 30) (hwi : rW wi W) (hev : rA eva ev 10) (he5 : ∀ c, c < 10 → ev c < 5) (hwn : rA wnt wa 30) (hplb : ∀ c, c < 10 → pl c < 100) (hpla : ∀ c, c < nc → set.testBit c = true → pla c = nI (pl c)) (hce : rA ce (fun e => cemN ev e nc) 5) (hwd : ∀ q, q < np → wd q = nI (wmN (W q) (nw q))) {p : Nat} (hp : p < np) {s : PS} {has tk bar : Nat → Int32} {wp : Int32} (hI : PIc set np nc pl ev s.1 has tk bar wp) :
    ∃ (g : Nat) (has' tk' bar' : Nat → Int32) (wp' : Int32), fX3_placePupil N wp bar wd has wnt wc wi eva tk ce pla (nI p) = some (nI g, has', tk', bar', wp') ∧ PIc set np nc pl ev (plp set np nc pl ev nw wa W s p).1 has' tk' bar' wp' ∧ (plp set np nc pl ev nw wa W s p).2 = s.2 + g := by
  have hp3 : p < 30 := by omega
  obtain ⟨hh, hma, htk, hbar, w, hw1, hw2, hw3⟩ := hI
  obtain ⟨bm, hb1, hb2, hb3⟩ := hbar p hp
  have hwl : wmN (W p) (nw p) < 1024 := wmN_lt _ (fun k hk => by have := hW p hp3 k hk; omega)
  have hfrl : w &&& (bm ^^^ (2 ^ 32 - 1)) < 1024 := Nat.lt_of_le_of_lt Nat.and_le_left hw1
  have hfb : ∀ c, c < nc → ((w &&& (bm ^^^ (2 ^ 32 - 1))).testBit c = true ↔ isF set np nc pl ev s.1 p c = true) := by
    intro c hc
    rw [tb_not (by omega)]
    unfold isF
    rw [decide_eq_true_iff, Bool.and_eq_true, Bool.not_eq_true', ← Bool.not_eq_true, hw3 c (by omega), hb3 c hc]
    constructor
    · rintro ⟨⟨a1, a2⟩, a3⟩; exact ⟨a1, fun d z1 z2 z3 => a3 ⟨d, z1, z2, z3⟩, a2⟩
    · rintro ⟨a1, a2, a3⟩; exact ⟨⟨a1, a3⟩, fun ⟨d, z1, z2, z3⟩ => a2 d z1 z2 z3⟩
  have hfst : ∀ d k, k + d = nw p → fst1 (fun k => (w &&& (bm ^^^ (2 ^ 32 - 1))).testBit (W p k)) d k = fst1 (fun k => isF set np nc pl ev s.1 p (W p k)) d k := by
    intro d
    induction d with
    | zero => intro k _; rfl
    | succ d ih =>
      intro k h
      have := hfb (W p k) (hW p hp3 k (by omega))
      unfold fst1
      rw [ih (k + 1) (by omega)]
      by_cases q : isF set np nc pl ev s.1 p (W p k) = true
      · rw [if_pos q, if_pos (this.mpr q)]
      · rw [if_neg q, if_neg (fun z => q (this.mp z))]
  have hI0 : PIc set np nc pl ev s.1 has tk bar wp := ⟨hh, hma, htk, hbar, w, hw1, hw2, hw3⟩
  unfold fX3_placePupil plp
  rw [nz_ald (by omega) (by omega), hb2, Option.bind_some, nz_let, hw2, nI_not, nI_and, nz_ald (by omega) (by omega), hwd p hp, Option.bind_some, nI_and]
  by_cases q0 : (w &&& (bm ^^^ (2 ^ 32 - 1))) &&& wmN (W p) (nw p) = 0
  · rw [q0, if_pos (show nI 0 = 0 from rfl)]
    have hnone : fst1 (fun k => isF set np nc pl ev s.1 p (W p k)) (nw p) 0 = none := by
      cases e : fst1 (fun k => isF set np nc pl ev s.1 p (W p k)) (nw p) 0 with
      | none => rfl
      | some k =>
        obtain ⟨-, h1, h2⟩ := fst1_some _ _ _ e
        have h3 := (hfb _ (hW p hp3 k (by omega))).mpr h2
        have h4 : (wmN (W p) (nw p)).testBit (W p k) = true := (wmN_tb _).mpr ⟨k, by omega, rfl⟩
        have h5 := congrArg (fun z => z.testBit (W p k)) q0
        try dsimp only at h5
        rw [Nat.testBit_and, h3, h4, Nat.zero_testBit] at h5
        cases h5
    rw [hnone]
    refine ⟨0, has, tk, bar, nI w, rfl, ?_, ?_⟩
    · rw [← hw2]; split <;> exact hI0
    · split <;> rfl
  · have hlt2 : (w &&& (bm ^^^ (2 ^ 32 - 1))) &&& wmN (W p) (nw p) < 1024 := Nat.lt_of_le_of_lt Nat.and_le_left hfrl
    have hpop := pop_le (s.1 p)
    rw [if_neg (by rw [nz_e0 (by omega)]; exact q0), coursesOf_eq hp3 (hh p hp3) (hma p hp3), Option.bind_some, nz_ald (by omega) (by omega), hwn p hp3, Option.bind_some, iteq (nz_lt (a := pop (s.1 p)) (b := wa p) (by omega) (by have := hwab p hp3; omega))]
    by_cases q1 : pop (s.1 p) < wa p
    · rw [if_pos q1, if_pos q1, show (0 : Int32) = nI 0 from rfl, place_50 hN hnp hnc hnw hW hwc hwi hev hp hfrl (nw p) 0 N (by omega) (by have := hnw p hp3; omega), hfst (nw p) 0 (by omega)]
      cases e : fst1 (fun k => isF set np nc pl ev s.1 p (W p k)) (nw p) 0 with
      | none => exact ⟨0, has, tk, bar, nI w, rfl, by rw [← hw2]; exact hI0, rfl⟩
      | some k =>
        obtain ⟨-, h1, h2⟩ := fst1_some _ _ _ e
        have hc := hW p hp3 k (by omega)
        unfold isF at h2
        rw [decide_eq_true_iff] at h2
        obtain ⟨f1, f2, f3⟩ := h2
        have hno : ¬ (s.1 p).testBit (W p k) = true := fun z => f2 _ hc z rfl
        have hm := hma p hp3
        have e5 := he5 (W p k) (by omega)
        have hcl := cemN_lt (ev := ev) (e := ev (W p k)) nc hnc
        have hcu : ∀ c, c < 10 → cnt (va_up s.1 p (s.1 p ||| 2 ^ W p k)) c np = if c = W p k then cnt s.1 c np + 1 else cnt s.1 c np := by
          intro c hc2
          have z := cnt_up (hs := s.1) (m := s.1 p ||| 2 ^ W p k) (c := c) hp
          by_cases y : c = W p k
          · subst y
            rw [if_pos rfl]
            rw [bt_f hno, bt_t (m := s.1 p ||| 2 ^ W p k) (by rw [tb_or]; simp)] at z
            omega
          · rw [if_neg y]
            have : bt (s.1 p ||| 2 ^ W p k) c = bt (s.1 p) c := by unfold bt; rw [tb_or]; simp [Ne.symm y]
            omega
        have hcb := cnt_le s.1 (W p k) np
        have hgp : fX3_givePlace N has tk bar ce pla (nI w) (nI p) (nI (W p k)) (nI (ev (W p k))) = some (upd has p (nI (s.1 p ||| 2 ^ W p k)), upd tk (W p k) (nI (cnt s.1 (W p k) np + 1)), upd bar p (nI (bm ||| cemN ev (ev (W p k)) nc)), nI (if pl (W p k) ≤ cnt s.1 (W p k) np + 1 then clr w (W p k) else w)) := by
          have b9 := hplb (W p k) (by omega)
          have hpr : fX7_hasPlaceLeft N (upd tk (W p k) (nI (cnt s.1 (W p k) np + 1))) pla (nI (W p k)) = some (if pl (W p k) ≤ cnt s.1 (W p k) np + 1 then 0 else 1) := by
            simp (disch := omega) only [fX7_hasPlaceLeft, nz_ald, Option.bind_some, pk_us, hpla _ hc f1, nz_le]
            split <;> rfl
          have hgi : fX7_give N has tk (nI p) (nI (W p k)) = some (upd has p (nI (s.1 p ||| 2 ^ W p k)), upd tk (W p k) (nI (cnt s.1 (W p k) np + 1))) := by
            simp (disch := omega) only [fX7_give, nz_ald, nz_ast, hh p hp3, Option.bind_some, bt_or (W p k) (by omega) (s.1 p) hm, htk (W p k) (by omega), nI_1]
          unfold fX3_givePlace
          rw [hgi, Option.bind_some]
          dsimp only
          rw [nz_ald (by omega) (by omega), hb2, Option.bind_some, nz_ald (by omega) (by omega), hce _ e5, Option.bind_some, nI_or, nz_ast (by omega) (by omega), Option.bind_some, hpr, Option.bind_some]
          by_cases y : pl (W p k) ≤ cnt s.1 (W p k) np + 1
          · rw [if_pos y, if_pos y, if_pos rfl, nz_let, bt_clr (W p k) (by omega) w hw1]
          · rw [if_neg y, if_neg y, if_neg (by decide)]
        dsimp only
        rw [hgp]
        refine ⟨6 - k, _, _, _, _, rfl, ⟨rA_upd hh, mvm_all hma (or_lt hm (by omega)), fun c hc2 => ?_, fun q hq => ?_, _, ?_, rfl, fun c hc2 => ?_⟩, rfl⟩
        · dsimp only
          rw [hcu c hc2]
          by_cases y : c = W p k
          · subst y; rw [pk_us, if_pos rfl]
          · rw [pk_un y, if_neg y]; exact htk c hc2
        · by_cases y : q = p
          · subst y
            refine ⟨bm ||| cemN ev (ev (W q k)) nc, Nat.or_lt_two_pow (n := 10) hb1 hcl, pk_us, fun c hc2 => ?_⟩
            try dsimp only
            rw [Nat.testBit_or, Bool.or_eq_true, hb3 c hc2, cemN_tb, va_up_self]
            constructor
            · rintro (⟨d, z1, z2, z3⟩ | ⟨z1, z2⟩)
              · exact ⟨d, z1, by rw [tb_or, z2]; rfl, z3⟩
              · exact ⟨W q k, hc, by rw [tb_or]; simp, z2.symm⟩
            · rintro ⟨d, z1, z2, z3⟩
              rw [tb_or, Bool.or_eq_true, decide_eq_true_iff] at z2
              rcases z2 with z2 | z2
              · exact Or.inl ⟨d, z1, z2, z3⟩
              · subst z2; exact Or.inr ⟨hc2, z3.symm⟩
          · obtain ⟨b', y1, y2, y3⟩ := hbar q hq
            exact ⟨b', y1, (by dsimp only; rw [pk_un y]; exact y2), fun c hc2 => (by rw [va_up_ne _ _ y]; exact y3 c hc2)⟩
        · split
          · exact clr_lt hw1
          · exact hw1
        · try dsimp only
          rw [hcu c hc2]
          by_cases y : c = W p k
          · subst y
            rw [if_pos rfl]
            by_cases z : pl (W p k) ≤ cnt s.1 (W p k) np + 1
            · rw [if_pos z, tb_clr]
              constructor
              · intro v; simp at v
              · rintro ⟨-, v⟩; omega
            · rw [if_neg z, hw3 _ hc2]
              constructor
              · rintro ⟨v1, v2⟩; exact ⟨v1, by omega⟩
              · rintro ⟨v1, v2⟩; exact ⟨v1, by omega⟩
          · rw [if_neg y]
            by_cases z : pl (W p k) ≤ cnt s.1 (W p k) np + 1
            · rw [if_pos z, tb_clr, ← hw3 c hc2]
              simp [Ne.symm y]
            · rw [if_neg z]; exact hw3 c hc2
    · rw [if_neg q1, if_neg q1]
      exact ⟨0, has, tk, bar, nI w, rfl, by rw [← hw2]; exact hI0, rfl⟩
end PC
