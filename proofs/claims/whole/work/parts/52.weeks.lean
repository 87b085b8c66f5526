/-! weeks, first: the pure steps -/
def itr (f : Nat → SX → SX) : Nat → Nat → SX → SX
  | 0, _, X => X
  | d + 1, i, X => itr f d (i + 1) (f i X)
theorem itr_P {f : Nat → SX → SX} {P : SX → Prop} {b : Nat} (hf : ∀ c X, c < b → P X → P (f c X)) : ∀ d i X, i + d ≤ b → P X → P (itr f d i X)
  | 0, _, _, _, h => h
  | d + 1, i, X, hb, h => itr_P hf d (i + 1) (f i X) (by omega) (hf i X (by omega) h)
/-- a week of a course is counted -/
def cwk (c : Nat) (X : SX) : SX := if (X 80 0).testBit c = true then va_up (va_up (va_up X 87 (va_up (X 87) (X 81 c - 1) (X 87 (X 81 c - 1) + 2))) 86 (va_up (X 86) (X 69 c) (X 86 (X 69 c) + 2))) 83 (va_up (X 83) c (X 83 c + 1)) else X
/-- a course falls if too few have it -/
def fal (c : Nat) (X : SX) : SX := if (X 80 0).testBit c = true ∧ 2 * cnt (X 84) c (X 73 0) < X 70 c then va_up (va_up (va_up (va_up X 84 (fun p => clr (X 84 p) c)) 82 (va_up (X 82) c 0)) 81 (va_up (X 81) c 0)) 80 (fun _ => clr (X 80 0) c) else X
def wkp (X : SX) : SX := va_up X 79 (fun _ => X 79 0 + 1)
def pw (X : SX) : SX := mvX (wkp (itr fal (X 67 0) 0 (itr cwk (X 67 0) 0 X)))
theorem cwk_pos {c : Nat} {X : SX} (h : (X 80 0).testBit c = true) : cwk c X = va_up (va_up (va_up X 87 (va_up (X 87) (X 81 c - 1) (X 87 (X 81 c - 1) + 2))) 86 (va_up (X 86) (X 69 c) (X 86 (X 69 c) + 2))) 83 (va_up (X 83) c (X 83 c + 1)) := if_pos h
theorem cwk_neg {c : Nat} {X : SX} (h : ¬ (X 80 0).testBit c = true) : cwk c X = X := if_neg h
theorem fal_pos {c : Nat} {X : SX} (h : (X 80 0).testBit c = true ∧ 2 * cnt (X 84) c (X 73 0) < X 70 c) : fal c X = va_up (va_up (va_up (va_up X 84 (fun p => clr (X 84 p) c)) 82 (va_up (X 82) c 0)) 81 (va_up (X 81) c 0)) 80 (fun _ => clr (X 80 0) c) := if_pos h
theorem fal_neg {c : Nat} {X : SX} (h : ¬ ((X 80 0).testBit c = true ∧ 2 * cnt (X 84) c (X 73 0) < X 70 c)) : fal c X = X := if_neg h
theorem cwk_ne {c z : Nat} {X : SX} (h : z ≠ 83 ∧ z ≠ 86 ∧ z ≠ 87) : cwk c X z = X z := by
  unfold cwk
  split
  · rw [va_up_ne _ _ h.1, va_up_ne _ _ h.2.1, va_up_ne _ _ h.2.2]
  · rfl
theorem fal_ne {c z : Nat} {X : SX} (h : z ≠ 80 ∧ z ≠ 81 ∧ z ≠ 82 ∧ z ≠ 84) : fal c X z = X z := by
  unfold fal
  split
  · rw [va_up_ne _ _ h.1, va_up_ne _ _ h.2.1, va_up_ne _ _ h.2.2.1, va_up_ne _ _ h.2.2.2]
  · rfl
theorem icw_ne {z : Nat} (h : z ≠ 83 ∧ z ≠ 86 ∧ z ≠ 87) (d i : Nat) (X : SX) : itr cwk d i X z = X z :=
  itr_P (P := fun Z => Z z = X z) (b := i + d) (fun c Z _ hZ => (cwk_ne h).trans hZ) d i X (Nat.le_refl _) rfl
theorem ifa_ne {z : Nat} (h : z ≠ 80 ∧ z ≠ 81 ∧ z ≠ 82 ∧ z ≠ 84) (d i : Nat) (X : SX) : itr fal d i X z = X z :=
  itr_P (P := fun Z => Z z = X z) (b := i + d) (fun c Z _ hZ => (fal_ne h).trans hZ) d i X (Nat.le_refl _) rfl
theorem nI_2 (a : Nat) : nI a + 2 = nI (a + 2) := nI_add a 2
theorem clr_le {m c b : Nat} (h : m < 2 ^ b) : clr m c < 2 ^ b := by
  refine Nat.lt_pow_two_of_testBit _ (fun i hi => ?_)
  rw [tb_clr, Nat.testBit_lt_two_pow (Nat.lt_of_lt_of_le h (Nat.pow_le_pow_right (n := 2) (by decide) hi))]
  rfl
theorem cnt_clr {hs : Nat → Nat} {c z : Nat} : ∀ n, cnt (fun p => clr (hs p) c) z n = if z = c then 0 else cnt hs z n
  | 0 => by
    show 0 = if z = c then 0 else 0
    split <;> rfl
  | n + 1 => by
    show cnt (fun p => clr (hs p) c) z n + bt (clr (hs n) c) z = if z = c then 0 else cnt hs z n + bt (hs n) z
    rw [cnt_clr n]
    by_cases q : z = c
    · rw [if_pos q, if_pos q, q, bt_f (show ¬ (clr (hs n) c).testBit c = true by rw [tb_clr]; simp)]
    · rw [if_neg q, if_neg q]
      have h2 : bt (clr (hs n) c) z = bt (hs n) z := by
        unfold bt
        rw [tb_clr, decide_eq_false (Ne.symm q)]
        simp
      rw [h2]
theorem IV0_cwk {X : SX} {n c : Nat} (h : IV0 X n ∧ X 79 0 ≠ 0) : IV0 (cwk c X) n ∧ cwk c X 79 0 ≠ 0 := by
  by_cases q : (X 80 0).testBit c = true
  · rw [cwk_pos q]
    obtain ⟨⟨a, b, d, e, f, g, k⟩, hw⟩ := h
    exact ⟨⟨a, b, d, e, fun h0 => absurd h0 hw, g, k⟩, hw⟩
  · rw [cwk_neg q]; exact h
theorem IV0_fal {X : SX} {n c : Nat} (h : IV0 X n ∧ X 79 0 ≠ 0) : IV0 (fal c X) n ∧ fal c X 79 0 ≠ 0 := by
  by_cases q : (X 80 0).testBit c = true ∧ 2 * cnt (X 84) c (X 73 0) < X 70 c
  · rw [fal_pos q]
    obtain ⟨⟨a, b, d, e, f, g, k⟩, hw⟩ := h
    refine ⟨⟨a, b, d, ⟨clr_le e.1, fun p hp z hz => ?_, fun p hp hq => ?_, fun z hz => ⟨fun hb => ?_, ?_⟩⟩, fun h0 => absurd h0 hw, g, k⟩, hw⟩
    · have hz' : (clr (X 84 p) c).testBit z = true := hz
      rw [tb_clr] at hz'
      simp only [Bool.and_eq_true, Bool.not_eq_true', decide_eq_false_iff_not] at hz'
      obtain ⟨e1, e2⟩ := e.2.1 p hp z hz'.1
      refine ⟨?_, e2⟩
      show (clr (X 80 0) c).testBit z = true
      rw [tb_clr, e1, decide_eq_false hz'.2]; rfl
    · have := e.2.2.1 p hp hq
      refine ⟨?_, this.2⟩
      show clr (X 84 p) c = 0
      rw [this.1]
      unfold clr
      simp
    · have hb' : (clr (X 80 0) c).testBit z = true := hb
      rw [tb_clr] at hb'
      simp only [Bool.and_eq_true, Bool.not_eq_true', decide_eq_false_iff_not] at hb'
      show 1 ≤ va_up (X 81) c 0 z ∧ va_up (X 81) c 0 z ≤ 5
      rw [va_up_ne _ _ (Ne.symm hb'.2)]
      exact (e.2.2.2 z hz).1 hb'.1
    · exact va_lt (by decide) (e.2.2.2 z hz).2
  · rw [fal_neg q]; exact h
theorem IV0_wkp {X : SX} {n : Nat} (h : IV0 X n ∧ X 79 0 ≠ 0) : IV0 (wkp X) (n + 1) := by
  obtain ⟨⟨a, b, d, e, f, g, k⟩, hw⟩ := h
  exact ⟨a, b, d, e, fun h0 => absurd (show X 79 0 + 1 = 0 from h0) (by omega), show X 79 0 + 1 ≤ n + 1 by omega, k⟩
section WK
variable {N n : Nat} {S : ns_S} {X : SX}
/-- counting, on rows -/
def B1 (X : SX) (wh th rh : Nat → Int32) : Prop := rA wh (X 83) 10 ∧ rA th (X 86) 6 ∧ rA rh (X 87) 5
def whU (X : SX) (wh : Nat → Int32) (i : Nat) : Nat → Int32 := upd wh i (nI (X 83 i + 1))
def thU (X : SX) (th : Nat → Int32) (i : Nat) : Nat → Int32 := upd th (X 69 i) (nI (X 86 (X 69 i) + 2))
def rhU (X : SX) (rh : Nat → Int32) (i : Nat) : Nat → Int32 := upd rh (X 81 i - 1) (nI (X 87 (X 81 i - 1) + 2))
theorem B1_step {wh th rh : Nat → Int32} {i : Nat} (h : B1 X wh th rh) (hb : (X 80 0).testBit i = true) : B1 (cwk i X) (whU X wh i) (thU X th i) (rhU X rh i) := by
  rw [cwk_pos hb]
  exact ⟨rA_upd h.1, rA_upd h.2.1, rA_upd h.2.2⟩
theorem cwo_eq {wh th rh roa tea : Nat → Int32} {i : Nat} (hV : IV0 X n) (h : B1 X wh th rh) (h81 : rD roa (X 81) 10) (h69 : rA tea (X 69) 10) (hi : i < 10) (hb : (X 80 0).testBit i = true) : fX6_countWeekOf N wh tea th roa rh (nI i) = some (whU X wh i, thU X th i, rhU X rh i) := by
  have hr := (hV.2.2.2.1.2.2.2 i hi).1 hb
  have ht := (hV.1.2.2.2.2.1 i hi).2.2.2
  have hd : roa i = nI (X 81 i - 1) := by
    rw [h81 i hi]
    obtain ⟨r, e⟩ : ∃ r, X 81 i = r + 1 := ⟨X 81 i - 1, by omega⟩
    rw [e]; rfl
  unfold fX6_countWeekOf
  rw [nz_ald hi (by omega), h.1 i hi, Option.bind_some, nz_ast hi (by omega), Option.bind_some, nz_ald hi (by omega), h69 i hi, Option.bind_some, nz_ald ht (by omega), h.2.1 _ ht, Option.bind_some, nz_ast ht (by omega), Option.bind_some, nz_ald hi (by omega), hd, Option.bind_some, if_neg (show ¬ nI (X 81 i - 1) = -1 by show ¬ nI (X 81 i - 1) = nM; rw [nz_eqM (by omega)]; exact id), nz_ald (show X 81 i - 1 < 5 by omega) (by omega), h.2.2 _ (by omega), Option.bind_some, nz_ast (show X 81 i - 1 < 5 by omega) (by omega), Option.bind_some, nI_1, nI_2, nI_2]
  rfl
theorem pw15 {wk npI mia : Int32} {tea roa wc wi tk pl has eva wnt mva lea : Nat → Int32} (h81 : rD roa (X 81) 10) (h69 : rA tea (X 69) 10) : ∀ d i m (Z : SX) (wh th rh : Nat → Int32), i + d = X 67 0 → d < m → X 67 0 ≤ 10 → IV0 Z n → Z 79 0 ≠ 0 → Z 81 = X 81 → Z 69 = X 69 → Z 80 = X 80 → B1 Z wh th rh → ∃ wh' th' rh', fX6_passWeek_15 N m wk (nI (X 67 0)) (nI (X 80 0)) wh tea th roa rh npI wc wi tk pl has eva wnt mva mia lea (nI i) = fX6_passWeek_50 N N wk (nI (X 67 0)) (nI (X 80 0)) wh' tea th' roa rh' npI wc wi tk pl has eva wnt mva mia lea 0 ∧ B1 (itr cwk d i Z) wh' th' rh' := by
  intro d
  induction d with
  | zero =>
    intro i m Z wh th rh h1 h2 h3 hV hw z81 z69 z80 hB
    obtain ⟨m, rfl⟩ : ∃ z, m = z + 1 := ⟨m - 1, by omega⟩
    refine ⟨wh, th, rh, ?_, hB⟩
    rw [show fX6_passWeek_15 N (m + 1) = gX6_passWeek_15 N (fX6_passWeek_15 N m) from rfl]
    unfold gX6_passWeek_15
    rw [if_pos (nI_le (by omega) (by omega))]
  | succ d ih =>
    intro i m Z wh th rh h1 h2 h3 hV hw z81 z69 z80 hB
    obtain ⟨m, rfl⟩ : ∃ z, m = z + 1 := ⟨m - 1, by omega⟩
    have hq := IV0_cwk (c := i) ⟨hV, hw⟩
    have hl : X 80 0 < 1024 := by have := (E0_of0 hV).2.2.1; rw [z80] at this; exact this
    rw [show fX6_passWeek_15 N (m + 1) = gX6_passWeek_15 N (fX6_passWeek_15 N m) from rfl]
    unfold gX6_passWeek_15
    rw [if_neg (nI_ge (by omega) (by omega)), isHeld_eq hl (by omega), Option.bind_some]
    by_cases hb : (X 80 0).testBit i = true
    · rw [if_neg (bt_ne hb), cwo_eq hV hB (by rw [z81]; exact h81) (by rw [z69]; exact h69) (by omega) (by rw [z80]; exact hb), Option.bind_some, nz_let, nI_1]
      exact ih (i + 1) m (cwk i Z) _ _ _ (by omega) (by omega) h3 hq.1 hq.2 (by rw [cwk_ne (by decide), z81]) (by rw [cwk_ne (by decide), z69]) (by rw [cwk_ne (by decide), z80]) (B1_step hB (by rw [z80]; exact hb))
    · rw [if_pos (bt_is hb), nz_let, nI_1]
      have e : cwk i Z = Z := cwk_neg (by rw [z80]; exact hb)
      obtain ⟨wh', th', rh', g1, g2⟩ := ih (i + 1) m Z wh th rh (by omega) (by omega) h3 hV hw z81 z69 z80 hB
      refine ⟨wh', th', rh', g1, ?_⟩
      show B1 (itr cwk d (i + 1) (cwk i Z)) wh' th' rh'
      rw [e]; exact g2
theorem wk36 {r29 : Int32 → (Nat → Int32) → (Nat → Int32) → (Nat → Int32) → (Nat → Int32) → (Nat → Int32) → (Nat → Int32) → (Nat → Int32) → (Nat → Int32) → (Nat → Int32) → (Nat → Int32) → (Nat → Int32) → (Nat → Int32) → (Nat → Int32) → (Nat → Int32) → (Nat → Int32) → (Nat → Int32) → (Nat → Int32) → Int32 → Int32 → Option (Int32 × Int32 × (Nat → Int32) × (Nat → Int32) × (Nat → Int32) × (Nat → Int32) × (Nat → Int32) × (Nat → Int32) × (Nat → Int32) × (Nat → Int32) × (Nat → Int32))} {cod l1 l2 : Int32} {wk cs hl tea roa ps wc wi has eva wnt pl mva lea : Nat → Int32} (h81 : rD roa (X 81) 10) (h69 : rA tea (X 69) 10) (h67 : cs 0 = nI (X 67 0)) (h80 : hl 0 = nI (X 80 0)) : ∀ d i m (Z : SX) (wh th rh : Nat → Int32), i + d = X 67 0 → d < m → X 67 0 ≤ 10 → IV0 Z n → Z 79 0 ≠ 0 → Z 81 = X 81 → Z 69 = X 69 → Z 80 = X 80 → B1 Z wh th rh → ∃ wh' th' rh', fX11_weeks_36 N r29 m cod wk cs hl wh tea th roa rh ps wc wi has eva wnt pl mva lea l1 l2 (nI i) = fX11_weeks_107 N r29 N cod wk cs hl wh' tea th' roa rh' ps wc wi has eva wnt pl mva lea l1 l2 0 ∧ B1 (itr cwk d i Z) wh' th' rh' ∧ kp wh wh' 10 ∧ kp th th' 6 ∧ kp rh rh' 5 := by
  intro d
  induction d with
  | zero =>
    intro i m Z wh th rh h1 h2 h3 hV hw z81 z69 z80 hB
    obtain ⟨m, rfl⟩ : ∃ z, m = z + 1 := ⟨m - 1, by omega⟩
    refine ⟨wh, th, rh, ?_, hB, kp.rf, kp.rf, kp.rf⟩
    rw [show fX11_weeks_36 N r29 (m + 1) = gX11_weeks_36 N r29 (fX11_weeks_36 N r29 m) from rfl]
    unfold gX11_weeks_36
    rw [ald0 (by omega) (by omega), h67, Option.bind_some, if_pos (nI_le (by omega) (by omega))]
  | succ d ih =>
    intro i m Z wh th rh h1 h2 h3 hV hw z81 z69 z80 hB
    obtain ⟨m, rfl⟩ : ∃ z, m = z + 1 := ⟨m - 1, by omega⟩
    have hq := IV0_cwk (c := i) ⟨hV, hw⟩
    have hl' : X 80 0 < 1024 := by have := (E0_of0 hV).2.2.1; rw [z80] at this; exact this
    have hi : i < 10 := by omega
    rw [show fX11_weeks_36 N r29 (m + 1) = gX11_weeks_36 N r29 (fX11_weeks_36 N r29 m) from rfl]
    unfold gX11_weeks_36
    rw [ald0 (by omega) (by omega), h67, Option.bind_some, if_neg (nI_ge (by omega) (by omega)), ald0 (by omega) (by omega), h80, Option.bind_some, bt_shr i hi _ hl']
    by_cases hb : (X 80 0).testBit i = true
    · have hb' : (Z 80 0).testBit i = true := by rw [z80]; exact hb
      have hr := (hV.2.2.2.1.2.2.2 i hi).1 hb'
      have ht := (hV.1.2.2.2.2.1 i hi).2.2.2
      have hd : roa i = nI (Z 81 i - 1) := by
        rw [h81 i hi, ← z81]
        obtain ⟨r, e⟩ : ∃ r, Z 81 i = r + 1 := ⟨Z 81 i - 1, by omega⟩
        rw [e]; rfl
      have h69' : tea i = nI (Z 69 i) := by rw [z69]; exact h69 i hi
      obtain ⟨wh', th', rh', g1, g2, g3, g4, g5⟩ := ih (i + 1) m (cwk i Z) (whU Z wh i) (thU Z th i) (rhU Z rh i) (by omega) (by omega) h3 hq.1 hq.2 (by rw [cwk_ne (by decide), z81]) (by rw [cwk_ne (by decide), z69]) (by rw [cwk_ne (by decide), z80]) (B1_step hB hb')
      refine ⟨wh', th', rh', ?_, g2, kp.tr (kp.up hi) g3, kp.tr (kp.up ht) g4, kp.tr (kp.up (by omega)) g5⟩
      rw [if_neg (bt_ne hb), nz_ald (show i < 40 by omega) (by omega), hB.1 i hi, Option.bind_some, nz_ast (show i < 40 by omega) (by omega), Option.bind_some, nz_ald (show i < 40 by omega) (by omega), h69', Option.bind_some, nz_ald (show Z 69 i < 24 by omega) (by omega), hB.2.1 _ ht, Option.bind_some, nz_ast (show Z 69 i < 24 by omega) (by omega), Option.bind_some, nz_ald (show i < 40 by omega) (by omega), hd, Option.bind_some, nz_ald (show Z 81 i - 1 < 20 by omega) (by omega), hB.2.2 _ (by omega), Option.bind_some, nz_ast (show Z 81 i - 1 < 20 by omega) (by omega), Option.bind_some, nz_let, nI_1, nI_1, nI_2, nI_2]
      exact g1
    · rw [if_pos (bt_is hb), nz_let, nI_1]
      have e : cwk i Z = Z := cwk_neg (by rw [z80]; exact hb)
      obtain ⟨wh', th', rh', g1, g2, g3⟩ := ih (i + 1) m Z wh th rh (by omega) (by omega) h3 hV hw z81 z69 z80 hB
      refine ⟨wh', th', rh', g1, ?_, g3⟩
      show B1 (itr cwk d (i + 1) (cwk i Z)) wh' th' rh'
      rw [e]; exact g2
end WK
