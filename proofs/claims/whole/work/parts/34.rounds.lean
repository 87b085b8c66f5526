/-! placing: three rounds; lawful; points -/
def pidx (np rnd i : Nat) : Nat := if rnd = 1 then np - 1 - i else i
def plr (set np nc : Nat) (pl ev nw wa : Nat → Nat) (W : Nat → Nat → Nat) (rnd : Nat) : Nat → Nat → PS → PS
  | 0, _, s => s
  | d + 1, i, s => plr set np nc pl ev nw wa W rnd d (i + 1) (plp set np nc pl ev nw wa W s (pidx np rnd i))
def plR (set np nc : Nat) (pl ev nw wa : Nat → Nat) (W : Nat → Nat → Nat) : Nat → Nat → PS → PS
  | 0, _, s => s
  | d + 1, rnd, s => plR set np nc pl ev nw wa W d (rnd + 1) (plr set np nc pl ev nw wa W rnd np 0 s)
def law (set np nc : Nat) (le : Nat → Nat) (hs : Nat → Nat) : Bool := decide (∀ c, c < nc → set.testBit c = true → le c ≤ cnt hs c np)
def ptv (set np nc : Nat) (le : Nat → Nat) (s : PS) : Int32 := if law set np nc le s.1 = true then nI s.2 else nM
theorem pidx_lt {np rnd i : Nat} (h : i < np) : pidx np rnd i < np := by unfold pidx; split <;> omega
theorem last_lt {np i : Nat} (h1 : np < 1000) (h2 : i < 1000) : (nI np - 1 < nI i) = (np ≤ i) := by
  rw [Int32.lt_iff_toInt_lt, nz1, pk_sub_toInt (by omega) (by omega), nI_toInt (by omega)]
  exact propext ⟨fun h => by omega, fun h => by omega⟩
theorem last_ix {np i : Nat} (h : i < np) : nI np - 1 - nI i = nI (np - 1 - i) := by
  rw [nz1, pk_sub (by omega), pk_sub (by omega)]
section RO
variable {N np nc set : Nat} {nw wa pl ev le : Nat → Nat} {W : Nat → Nat → Nat} {wc wi pla eva wnt wd ce lea : Nat → Int32}
theorem pl43 (hN : 40 < N) (hnp : np ≤ 30) (hnc : nc ≤ 10) (hnw : ∀ p, p < 30 → nw p ≤ 6) (hwab : ∀ p, p < 30 → wa p < 100) (hW : ∀ p, p < 30 → ∀ k, k < nw p → W p k < nc) (hwc : rA wc nw 30) (hwi : rW wi W) (hev : rA eva ev 10) (he5 : ∀ c, c < 10 → ev c < 5) (hwn : rA wnt wa 30) (hplb : ∀ c, c < 10 → pl c < 100) (hpla : ∀ c, c < nc → set.testBit c = true → pla c = nI (pl c)) (hce : rA ce (fun e => cemN ev e nc) 5) (hwd : ∀ q, q < np → wd q = nI (wmN (W q) (nw q))) {rnd : Nat} (hr : rnd < 3) (r34 : Int32 → Int32 → (Nat → Int32) → Int32 → Int32 → (Nat → Int32) → (Nat → Int32) → (Nat → Int32) → (Nat → Int32) → (Nat → Int32) → (Nat → Int32) → (Nat → Int32) → (Nat → Int32) → (Nat → Int32) → (Nat → Int32) → Int32 → Int32 → Int32 → Option (Int32 × Int32 × (Nat → Int32) × (Nat → Int32) × (Nat → Int32))) :
    ∀ d i m (s : PS) (has tk bar : Nat → Int32) (wp : Int32), i + d = np → d < m → PIc set np nc pl ev s.1 has tk bar wp → ∃ (has' tk' bar' : Nat → Int32) (wp' : Int32), fX3_placePupils_43 N r34 m (nI set) wp bar (nI np) (nI nc) tk lea wd has wnt wc wi eva ce pla (nI s.2) (nI np - 1) (nI rnd) (nI i) = r34 (nI set) wp' bar' (nI np) (nI nc) tk' lea wd has' wnt wc wi eva ce pla (nI (plr set np nc pl ev nw wa W rnd d i s).2) (nI np - 1) (nI (rnd + 1)) ∧ PIc set np nc pl ev (plr set np nc pl ev nw wa W rnd d i s).1 has' tk' bar' wp' := by
  intro d
  induction d with
  | zero =>
    intro i m s has tk bar wp h1 h2 hI
    obtain ⟨m, rfl⟩ : ∃ z, m = z + 1 := ⟨m - 1, by omega⟩
    refine ⟨has, tk, bar, wp, ?_, hI⟩
    show gX3_placePupils_43 N r34 (fX3_placePupils_43 N r34 m) (nI set) wp bar (nI np) (nI nc) tk lea wd has wnt wc wi eva ce pla (nI s.2) (nI np - 1) (nI rnd) (nI i) = _
    unfold gX3_placePupils_43
    rw [if_pos (by rw [last_lt (by omega) (by omega)]; omega), nz_let, nI_1]
    rfl
  | succ d ih =>
    intro i m s has tk bar wp h1 h2 hI
    obtain ⟨m, rfl⟩ : ∃ z, m = z + 1 := ⟨m - 1, by omega⟩
    have hix : pidx np rnd i < np := pidx_lt (by omega)
    obtain ⟨g, has1, tk1, bar1, wp1, e1, e2, e3⟩ := plp_c (N := N) hN hnp hnc hnw hwab hW hwc hwi hev he5 hwn hplb hpla hce hwd hix hI
    obtain ⟨has', tk', bar', wp', f1, f2⟩ := ih (i + 1) m (plp set np nc pl ev nw wa W s (pidx np rnd i)) has1 tk1 bar1 wp1 (by omega) (by omega) e2
    refine ⟨has', tk', bar', wp', ?_, f2⟩
    show _ = r34 (nI set) wp' bar' (nI np) (nI nc) tk' lea wd has' wnt wc wi eva ce pla (nI (plr set np nc pl ev nw wa W rnd d (i + 1) (plp set np nc pl ev nw wa W s (pidx np rnd i))).2) (nI np - 1) (nI (rnd + 1))
    rw [← f1, e3]
    have h67 : gX3_placePupils_67 N r34 (fX3_placePupils_43 N r34 m) (nI set) wp bar (nI np) (nI nc) tk lea wd has wnt wc wi eva ce pla (nI np - 1) (nI rnd) (nI i) (nI s.2) (nI (pidx np rnd i)) = fX3_placePupils_43 N r34 m (nI set) wp1 bar1 (nI np) (nI nc) tk1 lea wd has1 wnt wc wi eva ce pla (nI (s.2 + g)) (nI np - 1) (nI rnd) (nI (i + 1)) := by
      unfold gX3_placePupils_67
      rw [e1, Option.bind_some]
      simp only [nz_let, nI_add, nI_1]
    rw [← h67]
    show gX3_placePupils_43 N r34 (fX3_placePupils_43 N r34 m) (nI set) wp bar (nI np) (nI nc) tk lea wd has wnt wc wi eva ce pla (nI s.2) (nI np - 1) (nI rnd) (nI i) = _
    unfold gX3_placePupils_43
    rw [if_neg (by rw [last_lt (by omega) (by omega)]; omega)]
    unfold pidx
    by_cases q : rnd = 1
    · rw [if_pos (show nI rnd = 1 by rw [q]; rfl), if_pos q, last_ix (by omega)]
    · rw [if_neg (show ¬ nI rnd = 1 by rw [nz1, nz_eq (by omega) (by omega)]; exact q), if_neg q]
theorem lawful_loop (hnc : nc ≤ 10) {hs : Nat → Nat} {tk : Nat → Int32} (hset : set < 1024) (htk : rA tk (fun c => cnt hs c np) 10) (hnp : np ≤ 30) (hle : rA lea le 10) (hleb : ∀ k, k < 10 → le k < 100) : ∀ d i m, i + d = nc → d < m → fX3_isLawful_2 N m (nI nc) (nI set) tk lea (nI i) = some (if ∀ c, c < nc → i ≤ c → set.testBit c = true → le c ≤ cnt hs c np then 1 else 0) := by
  intro d
  induction d with
  | zero =>
    intro i m h1 h2
    obtain ⟨m, rfl⟩ : ∃ z, m = z + 1 := ⟨m - 1, by omega⟩
    show gX3_isLawful_2 N (fX3_isLawful_2 N m) (nI nc) (nI set) tk lea (nI i) = _
    unfold gX3_isLawful_2
    rw [if_pos (nI_le (by omega) (by omega)), if_pos (fun c a b => by omega)]
  | succ d ih =>
    intro i m h1 h2
    obtain ⟨m, rfl⟩ : ∃ z, m = z + 1 := ⟨m - 1, by omega⟩
    have hcl := cnt_le hs i np
    have hlb := hleb i (by omega)
    show gX3_isLawful_2 N (fX3_isLawful_2 N m) (nI nc) (nI set) tk lea (nI i) = _
    unfold gX3_isLawful_2
    rw [if_neg (nI_ge (by omega) (by omega)), isHeld_eq hset (by omega), Option.bind_some]
    by_cases q : set.testBit i = true
    · rw [if_neg (bt_ne q), nz_ald (by omega) (by omega), show tk i = nI (cnt hs i np) from htk i (by omega), Option.bind_some, nz_ald (by omega) (by omega), hle i (by omega), Option.bind_some]
      by_cases y : le i ≤ cnt hs i np
      · rw [if_pos (nI_le y (by omega)), nz_let, nI_1, ih (i + 1) m (by omega) (by omega)]
        congr 1
        refine iteq (propext ⟨fun z c a b => ?_, fun z c a b => z c a (by omega)⟩)
        by_cases w : c = i
        · subst w; exact fun _ => y
        · exact z c a (by omega)
      · rw [if_neg (nI_ge (by omega) (by omega)), if_neg (fun z => y (z i (by omega) (Nat.le_refl _) q))]
    · rw [if_pos (bt_is q), nz_let, nI_1, ih (i + 1) m (by omega) (by omega)]
      congr 1
      refine iteq (propext ⟨fun z c a b => ?_, fun z c a b => z c a (by omega)⟩)
      by_cases w : c = i
      · subst w; exact fun v => absurd v q
      · exact z c a (by omega)
theorem lawful_eq (hN : 40 < N) (hnc : nc ≤ 10) {hs : Nat → Nat} {tk : Nat → Int32} (hset : set < 1024) (htk : rA tk (fun c => cnt hs c np) 10) (hnp : np ≤ 30) (hle : rA lea le 10) (hleb : ∀ k, k < 10 → le k < 100) : fX3_isLawful N (nI nc) (nI set) tk lea = some (if law set np nc le hs = true then 1 else 0) := by
  have h := lawful_loop (N := N) hnc hset htk hnp hle hleb nc 0 N (by omega) (by omega)
  unfold fX3_isLawful law
  refine h.trans (congrArg some (iteq (d := decide (∀ c, c < nc → set.testBit c = true → le c ≤ cnt hs c np) = true) ?_))
  rw [decide_eq_true_eq]
  exact propext ⟨fun z c a => z c a (by omega), fun z c a _ => z c a⟩
theorem pl34 (hN : 40 < N) (hnp : np ≤ 30) (hnc : nc ≤ 10) (hnw : ∀ p, p < 30 → nw p ≤ 6) (hwab : ∀ p, p < 30 → wa p < 100) (hW : ∀ p, p < 30 → ∀ k, k < nw p → W p k < nc) (hwc : rA wc nw 30) (hwi : rW wi W) (hev : rA eva ev 10) (he5 : ∀ c, c < 10 → ev c < 5) (hwn : rA wnt wa 30) (hplb : ∀ c, c < 10 → pl c < 100) (hpla : ∀ c, c < nc → set.testBit c = true → pla c = nI (pl c)) (hce : rA ce (fun e => cemN ev e nc) 5) (hwd : ∀ q, q < np → wd q = nI (wmN (W q) (nw q))) (hset : set < 1024) (hle : rA lea le 10) (hleb : ∀ k, k < 10 → le k < 100) :
    ∀ d rnd m (s : PS) (has tk bar : Nat → Int32) (wp : Int32), rnd + d = 3 → d < m → PIc set np nc pl ev s.1 has tk bar wp → ∃ (has' tk' bar' : Nat → Int32) (wp' : Int32), fX3_placePupils_34 N m (nI set) wp bar (nI np) (nI nc) tk lea wd has wnt wc wi eva ce pla (nI s.2) (nI np - 1) (nI rnd) = some (ptv set np nc le (plR set np nc pl ev nw wa W d rnd s), wp', bar', has', tk') ∧ PIc set np nc pl ev (plR set np nc pl ev nw wa W d rnd s).1 has' tk' bar' wp' := by
  intro d
  induction d with
  | zero =>
    intro rnd m s has tk bar wp h1 h2 hI
    obtain ⟨m, rfl⟩ : ∃ z, m = z + 1 := ⟨m - 1, by omega⟩
    refine ⟨has, tk, bar, wp, ?_, hI⟩
    show gX3_placePupils_34 N (fX3_placePupils_34 N m) (nI set) wp bar (nI np) (nI nc) tk lea wd has wnt wc wi eva ce pla (nI s.2) (nI np - 1) (nI rnd) = _
    unfold gX3_placePupils_34 ptv
    rw [if_pos (by rw [nz3]; exact nI_le (by omega) (by omega)), lawful_eq hN hnc hset hI.2.2.1 hnp hle hleb, Option.bind_some]
    show _ = some ((if law set np nc le s.1 = true then nI s.2 else nM), wp, bar, has, tk)
    by_cases q : law set np nc le s.1 = true
    · rw [if_pos q, if_pos q, if_neg (by decide)]
    · rw [if_neg q, if_neg q, if_pos rfl]; rfl
  | succ d ih =>
    intro rnd m s has tk bar wp h1 h2 hI
    obtain ⟨m, rfl⟩ : ∃ z, m = z + 1 := ⟨m - 1, by omega⟩
    obtain ⟨has1, tk1, bar1, wp1, e1, e2⟩ := pl43 (N := N) (lea := lea) hN hnp hnc hnw hwab hW hwc hwi hev he5 hwn hplb hpla hce hwd (rnd := rnd) (by omega) (fX3_placePupils_34 N m) np 0 N s has tk bar wp (by omega) (by omega) hI
    obtain ⟨has', tk', bar', wp', f1, f2⟩ := ih (rnd + 1) m (plr set np nc pl ev nw wa W rnd np 0 s) has1 tk1 bar1 wp1 (by omega) (by omega) e2
    refine ⟨has', tk', bar', wp', ?_, f2⟩
    show _ = some (ptv set np nc le (plR set np nc pl ev nw wa W d (rnd + 1) (plr set np nc pl ev nw wa W rnd np 0 s)), wp', bar', has', tk')
    rw [← f1, ← e1]
    show gX3_placePupils_34 N (fX3_placePupils_34 N m) (nI set) wp bar (nI np) (nI nc) tk lea wd has wnt wc wi eva ce pla (nI s.2) (nI np - 1) (nI rnd) = _
    unfold gX3_placePupils_34
    rw [if_neg (by rw [nz3]; exact nI_ge (by omega) (by omega))]
    rfl
/-- the placing of a set -/
def pla3 (set np nc : Nat) (pl ev nw wa : Nat → Nat) (W : Nat → Nat → Nat) : PS := plR set np nc pl ev nw wa W 3 0 (fun _ => 0, 0)
theorem bt_0 (c : Nat) : bt 0 c = 0 := by unfold bt; rw [Nat.zero_testBit]; rfl
theorem cnt_0 (c : Nat) : ∀ n, cnt (fun _ => 0) c n = 0
  | 0 => rfl
  | n + 1 => by show cnt (fun _ => 0) c n + bt 0 c = 0; rw [cnt_0 c n, bt_0]
theorem placePupils_eq (hN : 40 < N) (hnp : np ≤ 30) (hnc : nc ≤ 10) (hnw : ∀ p, p < 30 → nw p ≤ 6) (hwab : ∀ p, p < 30 → wa p < 100) (hW : ∀ p, p < 30 → ∀ k, k < nw p → W p k < nc) (hwc : rA wc nw 30) (hwi : rW wi W) (hev : rA eva ev 10) (he5 : ∀ c, c < 10 → ev c < 5) (hwn : rA wnt wa 30) (hplb : ∀ c, c < 10 → pl c < 100) (hpla : ∀ c, c < nc → set.testBit c = true → pla c = nI (pl c)) (hpl1 : ∀ c, c < nc → set.testBit c = true → 0 < pl c) (hce : rA ce (fun e => cemN ev e nc) 5) (hwd : ∀ q, q < np → wd q = nI (wmN (W q) (nw q))) (hset : set < 2 ^ nc) (hle : rA lea le 10) (hleb : ∀ k, k < 10 → le k < 100) {has tk : Nat → Int32} (hh : ∀ p, p < 30 → has p = nI 0) (ht : ∀ c, c < 10 → tk c = nI 0) (wp : Int32) (bar : Nat → Int32) :
    ∃ (has' tk' bar' : Nat → Int32) (wp' : Int32), fX3_placePupils N (nI set) wp bar (nI np) (nI nc) tk lea wd has wnt wc wi eva ce pla = some (ptv set np nc le (pla3 set np nc pl ev nw wa W), wp', bar', has', tk') ∧ PIc set np nc pl ev (pla3 set np nc pl ev nw wa W).1 has' tk' bar' wp' := by
  have hp : 2 ^ nc ≤ 1024 := Nat.pow_le_pow_right (n := 2) (by decide) hnc
  obtain ⟨has', tk', bar', wp', f1, f2⟩ := pl34 (N := N) hN hnp hnc hnw hwab hW hwc hwi hev he5 hwn hplb hpla hce hwd (by omega) hle hleb 3 0 N (fun _ => 0, 0) has tk (fil bar 30 0) (nI set) (by omega) (by omega) ⟨hh, fun _ _ => by show 0 < 1024; decide, fun c hc => by rw [ht c hc]; show nI 0 = nI (cnt (fun _ => 0) c np); rw [cnt_0], fun p hp => ⟨0, by decide, by rw [fil_in (by omega)]; rfl, fun c _ => by
      rw [Nat.zero_testBit]
      constructor
      · intro z; cases z
      · rintro ⟨d, z1, z2, z3⟩; rw [Nat.zero_testBit] at z2; cases z2⟩, set, by omega, rfl, fun c hc => by
      show _ ↔ _ ∧ cnt (fun _ => 0) c np < pl c
      rw [cnt_0]
      constructor
      · intro z
        refine ⟨z, hpl1 c ?_ z⟩
        by_cases y : c < nc
        · exact y
        · have : set < 2 ^ c := Nat.lt_of_lt_of_le hset (Nat.pow_le_pow_right (by decide) (by omega))
          rw [Nat.testBit_lt_two_pow this] at z
          cases z
      · exact fun z => z.1⟩
  refine ⟨has', tk', bar', wp', ?_, f2⟩
  unfold fX3_placePupils
  rw [fill_eq (by omega) (by omega), Option.bind_some, nz_let]
  exact f1
end RO
