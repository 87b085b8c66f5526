/-! who has what, and why: the class and the reference answer one number -/
def rA (f : Nat → Int32) (g : Nat → Nat) (n : Nat) : Prop := ∀ j, j < n → f j = nI (g j)
theorem bt01 (m c : Nat) : bt m c = 0 ∨ bt m c = 1 := by
  unfold bt
  cases m.testBit c
  · exact Or.inl rfl
  · exact Or.inr rfl
theorem bt_t {m c : Nat} (h : m.testBit c = true) : bt m c = 1 := by unfold bt; rw [h]; rfl
theorem bt_f {m c : Nat} (h : ¬ m.testBit c = true) : bt m c = 0 := by
  unfold bt
  cases e : m.testBit c
  · rfl
  · exact absurd e h
theorem nz_e0 {a : Nat} (h : a < 2 ^ 31) : (nI a = 0) = (a = 0) := nz_eq h (by decide)
theorem bt_e0 (m c : Nat) : (nI (bt m c) = 0) = (¬ m.testBit c = true) := by
  rcases bt01 m c with h | h
  · rw [h]
    refine propext ⟨fun _ q => ?_, fun _ => rfl⟩
    rw [bt_t q] at h; exact absurd h (by decide)
  · rw [h]
    refine propext ⟨fun q => absurd q (by decide), fun q => ?_⟩
    rw [bt_f q] at h; exact absurd h (by decide)
theorem bt_ne {m c : Nat} (h : m.testBit c = true) : ¬ nI (bt m c) = 0 := by rw [bt_e0]; exact fun q => q h
theorem bt_is {m c : Nat} (h : ¬ m.testBit c = true) : nI (bt m c) = 0 := by rw [bt_e0]; exact h
theorem iteq {c d : Prop} [Decidable c] [Decidable d] {α : Type} {a b : α} (h : c = d) : (if c then a else b) = (if d then a else b) := by
  by_cases q : c
  · rw [if_pos q, if_pos (h ▸ q)]
  · rw [if_neg q, if_neg (fun z => q (h ▸ z))]
theorem hasCourse_eq {N p c m : Nat} {has : Nat → Int32} (hp : p < 30) (hh : has p = nI m) (hm : m < 1024) (hc : c < 10) : fX7_hasCourse N has (nI p) (nI c) = some (nI (bt m c)) := by
  simp (disch := omega) only [fX7_hasCourse, nz_ald, hh, Option.bind_some, bt_shr]
  rcases bt01 m c with h | h <;> rw [h] <;> rfl
theorem hasCourse_eq16 {N p c m : Nat} {has : Nat → Int32} (hp : p < 30) (hh : has p = nI m) (hm : m < 1024) (hc : c < 10) : fX7_hasCourse N has (nI p) (nI c) = some (nI (bt m c)) := hasCourse_eq hp hh hm hc
theorem isHeld_eq {N c m : Nat} (hm : m < 1024) (hc : c < 10) : fX7_isHeld N (nI m) (nI c) = some (nI (bt m c)) := by
  simp (disch := omega) only [fX7_isHeld, bt_shr]
  rcases bt01 m c with h | h <;> rw [h] <;> rfl
theorem coursesOf_eq {N p m : Nat} {has : Nat → Int32} (hp : p < 30) (hh : has p = nI m) (hm : m < 1024) : fX7_coursesOf N has (nI p) = some (nI (pop m)) := by
  simp (disch := omega) only [fX7_coursesOf, nz_ald, hh, Option.bind_some, bitCount_eq]
theorem pop_le (m : Nat) : pop m ≤ 10 := by
  unfold pop
  have h := bt01 m
  have h0 := h 0; have h1 := h 1; have h2 := h 2; have h3 := h 3; have h4 := h 4; have h5 := h 5; have h6 := h 6; have h7 := h 7; have h8 := h 8; have h9 := h 9
  omega
theorem ones_step : ∀ m, m < 1024 → m ≠ 0 → (nI m &&& (nI m - 1)) = nI (m &&& (m - 1)) ∧ pop (m &&& (m - 1)) + 1 = pop m ∧ (m &&& (m - 1)) < 1024 := by decide +kernel
theorem ones_zero : ∀ m, m < 1024 → pop m = 0 → m = 0 := by decide +kernel
theorem ones_loop {N : Nat} : ∀ d n m a, m < 1024 → pop m = d → d < n → fX11_ones_4 N n (nI a) (nI m) = some (nI (a + pop m)) := by
  intro d
  induction d with
  | zero =>
    intro n m a hm hd hn
    obtain ⟨n, rfl⟩ : ∃ z, n = z + 1 := ⟨n - 1, by omega⟩
    show gX11_ones_4 N (fX11_ones_4 N n) (nI a) (nI m) = _
    have := ones_zero m hm hd
    subst this
    unfold gX11_ones_4
    rw [if_pos (by rfl), hd]; rfl
  | succ d ih =>
    intro n m a hm hd hn
    obtain ⟨n, rfl⟩ : ∃ z, n = z + 1 := ⟨n - 1, by omega⟩
    show gX11_ones_4 N (fX11_ones_4 N n) (nI a) (nI m) = _
    have h0 : m ≠ 0 := fun h => by subst h; rw [show pop 0 = 0 by decide] at hd; omega
    obtain ⟨h1, h2, h3⟩ := ones_step m hm h0
    unfold gX11_ones_4
    rw [if_neg (by rw [nz_e0 (by omega)]; exact h0)]
    simp only [nz_let, h1, nI_1]
    rw [ih n _ _ h3 (by omega) (by omega)]
    congr 2
    omega
theorem ones_eq {N m : Nat} (hN : 20 < N) (hm : m < 1024) : fX11_ones N (nI m) = some (nI (pop m)) := by
  have := ones_loop (N := N) (pop m) N m 0 hm rfl (by have := pop_le m; omega)
  rw [Nat.zero_add] at this
  exact this
/-- the first course from i on, of d, on evening e, that the mask m has -/
def onN (ev : Nat → Nat) (m e : Nat) : Nat → Nat → Option Nat
  | 0, _ => none
  | d + 1, i => if ev i = e ∧ m.testBit i = true then some i else onN ev m e d (i + 1)
theorem onN_lt {ev : Nat → Nat} {m e : Nat} : ∀ d i o, onN ev m e d i = some o → i ≤ o ∧ o < i + d ∧ ev o = e ∧ m.testBit o = true := by
  intro d
  induction d with
  | zero => intro i o h; cases h
  | succ d ih =>
    intro i o h
    unfold onN at h
    split at h
    · cases h; rename_i hc; exact ⟨Nat.le_refl _, by omega, hc.1, hc.2⟩
    · obtain ⟨h1, h2, h3⟩ := ih _ _ h
      exact ⟨by omega, by omega, h3⟩
theorem courseOn_loop {N p m e nc : Nat} {has eva : Nat → Int32} {ev : Nat → Nat} (hp : p < 30) (hh : has p = nI m) (hm : m < 1024) (hev : rA eva ev 10) (he5 : ∀ i, i < 10 → ev i < 100) (hnc : nc ≤ 10) (he : e < 100) : ∀ d i n, i + d = nc → d < n → fX6_courseOn_2 N n (nI nc) eva has (nI p) (nI e) (nI i) = some (oI (onN ev m e d i)) := by
  intro d
  induction d with
  | zero =>
    intro i n h1 h2
    obtain ⟨n, rfl⟩ : ∃ z, n = z + 1 := ⟨n - 1, by omega⟩
    show gX6_courseOn_2 N (fX6_courseOn_2 N n) (nI nc) eva has (nI p) (nI e) (nI i) = _
    unfold gX6_courseOn_2
    rw [if_pos (nI_le (by omega) (by omega))]
    rfl
  | succ d ih =>
    intro i n h1 h2
    obtain ⟨n, rfl⟩ : ∃ z, n = z + 1 := ⟨n - 1, by omega⟩
    show gX6_courseOn_2 N (fX6_courseOn_2 N n) (nI nc) eva has (nI p) (nI e) (nI i) = _
    unfold gX6_courseOn_2
    have h3 := hev i (by omega)
    have h4 := he5 i (by omega)
    rw [if_neg (nI_ge (by omega) (by omega))]
    simp (disch := omega) only [nz_ald, h3, Option.bind_some, nz_eq, nz_let, nI_1, hasCourse_eq hp hh hm, bt_e0, ih (i + 1) n (by omega) (by omega)]
    show _ = some (oI (if ev i = e ∧ m.testBit i = true then some i else onN ev m e d (i + 1)))
    by_cases a : ev i = e
    · by_cases b : m.testBit i = true
      · rw [if_pos a, if_neg (fun q => q b), if_pos ⟨a, b⟩]; rfl
      · rw [if_pos a, if_pos b, if_neg (fun q => b q.2)]
    · rw [if_neg a, if_neg (fun q => a q.1)]
theorem courseOn_eq {N p m e nc : Nat} {has eva : Nat → Int32} {ev : Nat → Nat} (hN : 20 < N) (hp : p < 30) (hh : has p = nI m) (hm : m < 1024) (hev : rA eva ev 10) (he5 : ∀ i, i < 10 → ev i < 100) (hnc : nc ≤ 10) (he : e < 100) : fX6_courseOn N (nI nc) eva has (nI p) (nI e) = some (oI (onN ev m e nc 0)) :=
  courseOn_loop hp hh hm hev he5 hnc he nc 0 N (by omega) (by omega)
theorem on_loop {N p m e nc : Nat} {cs has eva : Nat → Int32} {ev : Nat → Nat} (hp : p < 30) (hh : has p = nI m) (hm : m < 1024) (hev : rA eva ev 10) (he5 : ∀ i, i < 10 → ev i < 100) (hcs : cs 0 = nI nc) (hnc : nc ≤ 10) (he : e < 100) : ∀ d i n, i + d = nc → d < n → fX11_on_2 N n cs has eva (nI p) (nI e) (nI i) = some (oI (onN ev m e d i)) := by
  intro d
  induction d with
  | zero =>
    intro i n h1 h2
    obtain ⟨n, rfl⟩ : ∃ z, n = z + 1 := ⟨n - 1, by omega⟩
    show gX11_on_2 N (fX11_on_2 N n) cs has eva (nI p) (nI e) (nI i) = _
    simp (disch := omega) only [gX11_on_2, nz0, nz_ald, hcs, Option.bind_some]
    rw [if_pos (nI_le (by omega) (by omega))]
    rfl
  | succ d ih =>
    intro i n h1 h2
    obtain ⟨n, rfl⟩ : ∃ z, n = z + 1 := ⟨n - 1, by omega⟩
    show gX11_on_2 N (fX11_on_2 N n) cs has eva (nI p) (nI e) (nI i) = _
    have h3 := hev i (by omega)
    have h4 := he5 i (by omega)
    have h0 : ns_ald cs 4 0 = some (nI nc) := by rw [nz0, nz_ald (by omega) (by omega), hcs]
    unfold gX11_on_2
    rw [h0, Option.bind_some, if_neg (nI_ge (by omega) (by omega))]
    simp (disch := omega) only [nz_ald, hh, h3, Option.bind_some, bt_shr, bt_e0, nz_eq, nz_let, nI_1, ih (i + 1) n (by omega) (by omega)]
    show _ = some (oI (if ev i = e ∧ m.testBit i = true then some i else onN ev m e d (i + 1)))
    by_cases b : m.testBit i = true
    · rw [if_neg (fun q => q b)]
      by_cases a : ev i = e
      · rw [if_pos a, if_pos ⟨a, b⟩]; rfl
      · rw [if_neg a, if_neg (fun q => a q.1)]
    · rw [if_pos b, if_neg (fun q => b q.2)]
theorem on_eq {N p m e nc : Nat} {cs has eva : Nat → Int32} {ev : Nat → Nat} (hN : 20 < N) (hp : p < 30) (hh : has p = nI m) (hm : m < 1024) (hev : rA eva ev 10) (he5 : ∀ i, i < 10 → ev i < 100) (hcs : cs 0 = nI nc) (hnc : nc ≤ 10) (he : e < 100) : fX11_on N cs has eva (nI p) (nI e) = some (oI (onN ev m e nc 0)) :=
  on_loop hp hh hm hev he5 hcs hnc he nc 0 N (by omega) (by omega)
theorem rank_loop {N p c n : Nat} {wc wi : Nat → Int32} {W : Nat → Nat} (hp : p < 30) (hwc : wc p = nI n) (hn : n ≤ 6) (hW : ∀ k, k < n → wi (p * 6 + k) = nI (W k)) (hb : ∀ k, k < n → W k < 10) (hc : c < 10) : ∀ d i m, i + d = n → d < m → fX11_rank_2 N m wc wi (nI p) (nI c) (nI i) = some (oI (rkN W c d i)) := by
  intro d
  induction d with
  | zero =>
    intro i m h1 h2
    obtain ⟨m, rfl⟩ : ∃ z, m = z + 1 := ⟨m - 1, by omega⟩
    show gX11_rank_2 N (fX11_rank_2 N m) wc wi (nI p) (nI c) (nI i) = _
    simp (disch := omega) only [gX11_rank_2, ↓nz_m1, nz6, nz_ald, hwc, Option.bind_some, nz_le]
    rw [if_pos (by omega)]
    rfl
  | succ d ih =>
    intro i m h1 h2
    obtain ⟨m, rfl⟩ : ∃ z, m = z + 1 := ⟨m - 1, by omega⟩
    show gX11_rank_2 N (fX11_rank_2 N m) wc wi (nI p) (nI c) (nI i) = _
    have h3 := hW i (by omega)
    have h4 := hb i (by omega)
    rw [Nat.mul_comm] at h3
    simp (disch := omega) only [gX11_rank_2, ↓nz_m1, nz6, nz1, nz_ald, hwc, Option.bind_some, nz_le, pk_mul, nI_add, h3, nz_eq, nz_let]
    rw [if_neg (by omega), ih (i + 1) m (by omega) (by omega)]
    show _ = some (oI (if W i = c then some i else rkN W c d (i + 1)))
    by_cases h : W i = c
    · rw [if_pos h, if_pos h]; rfl
    · rw [if_neg h, if_neg h]
theorem rank_eq {N p c n : Nat} {wc wi : Nat → Int32} {W : Nat → Nat} (hN : 20 < N) (hp : p < 30) (hwc : wc p = nI n) (hn : n ≤ 6) (hW : ∀ k, k < n → wi (p * 6 + k) = nI (W k)) (hb : ∀ k, k < n → W k < 10) (hc : c < 10) : fX11_rank N wc wi (nI p) (nI c) = some (oI (rkN W c n 0)) :=
  rank_loop hp hwc hn hW hb hc n 0 N (by omega) (by omega)
theorem rkN_lt {W : Nat → Nat} {c : Nat} : ∀ d i o, rkN W c d i = some o → i ≤ o ∧ o < i + d ∧ W o = c := by
  intro d
  induction d with
  | zero => intro i o h; cases h
  | succ d ih =>
    intro i o h
    unfold rkN at h
    split at h
    · cases h; exact ⟨Nat.le_refl _, by omega, by assumption⟩
    · obtain ⟨h1, h2, h3⟩ := ih _ _ h
      exact ⟨by omega, by omega, h3⟩
/-- how many of the first n have bit c -/
def cnt (hs : Nat → Nat) (c : Nat) : Nat → Nat
  | 0 => 0
  | n + 1 => cnt hs c n + bt (hs n) c
theorem hasNow_loop {N c np : Nat} {ps has : Nat → Int32} {hs : Nat → Nat} (hps : ps 0 = nI np) (hnp : np ≤ 30) (hh : rA has hs 30) (hm : ∀ p, p < 30 → hs p < 1024) (hc : c < 10) : ∀ d i n, i + d = np → d < n → fX11_hasNow_4 N n ps has (nI c) (nI (cnt hs c i)) (nI i) = some (nI (cnt hs c np)) := by
  intro d
  induction d with
  | zero =>
    intro i n h1 h2
    obtain ⟨n, rfl⟩ : ∃ z, n = z + 1 := ⟨n - 1, by omega⟩
    show gX11_hasNow_4 N (fX11_hasNow_4 N n) ps has (nI c) (nI (cnt hs c i)) (nI i) = _
    have h0 : ns_ald ps 4 0 = some (nI np) := by rw [nz0, nz_ald (by omega) (by omega), hps]
    unfold gX11_hasNow_4
    rw [h0, Option.bind_some, if_pos (nI_le (by omega) (by omega)), show i = np by omega]
  | succ d ih =>
    intro i n h1 h2
    obtain ⟨n, rfl⟩ : ∃ z, n = z + 1 := ⟨n - 1, by omega⟩
    show gX11_hasNow_4 N (fX11_hasNow_4 N n) ps has (nI c) (nI (cnt hs c i)) (nI i) = _
    have h0 : ns_ald ps 4 0 = some (nI np) := by rw [nz0, nz_ald (by omega) (by omega), hps]
    have h3 := hh i (by omega)
    have h4 := hm i (by omega)
    unfold gX11_hasNow_4
    rw [h0, Option.bind_some, if_neg (nI_ge (by omega) (by omega))]
    simp (disch := omega) only [nz_ald, h3, Option.bind_some, bt_shr, nI_add, nI_1, nz_let]
    exact ih (i + 1) n (by omega) (by omega)
theorem hasNow_eq {N c np : Nat} {ps has : Nat → Int32} {hs : Nat → Nat} (hN : 40 < N) (hps : ps 0 = nI np) (hnp : np ≤ 30) (hh : rA has hs 30) (hm : ∀ p, p < 30 → hs p < 1024) (hc : c < 10) : fX11_hasNow N ps has (nI c) = some (nI (cnt hs c np)) :=
  hasNow_loop hps hnp hh hm hc np 0 N (by omega) (by omega)
theorem cnt_le (hs : Nat → Nat) (c : Nat) : ∀ n, cnt hs c n ≤ n
  | 0 => Nat.le_refl _
  | n + 1 => by
    have h1 := cnt_le hs c n
    have h2 := bt01 (hs n) c
    show cnt hs c n + bt (hs n) c ≤ n + 1
    omega
def rkv : Option Nat → Int
  | none => -1
  | some k => k
theorem oI_le {a b : Option Nat} (ha : ∀ k, a = some k → k < 100) (hb : ∀ k, b = some k → k < 100) : (oI a ≤ oI b) = (rkv a ≤ rkv b) := by
  have e : ∀ a : Option Nat, (∀ k, a = some k → k < 100) → (oI a).toInt = rkv a := by
    intro a h
    cases a with
    | none => exact nM_toInt
    | some k => exact nI_toInt (by have := h k rfl; omega)
  rw [Int32.le_iff_toInt_le, e a ha, e b hb]
/-- why (5: there is no place left, or there is one) -/
def rs5 (m nwp : Nat) (Wp : Nat → Nat) (held : Nat) (ev : Nat → Nat) (nc wan c : Nat) : Nat :=
  if m.testBit c = true then 0 else match rkN Wp c nwp 0 with
    | none => 1
    | some r => if held.testBit c = true then (match onN ev m (ev c) nc 0 with
        | some o => if (r : Int) ≤ rkv (rkN Wp o nwp 0) then 5 else 3
        | none => if pop m < wan then 5 else 4) else 2
theorem reasonFor_eq {N p c m n held nc wan : Nat} {has wc wi eva wnt : Nat → Int32} {W ev : Nat → Nat} (hN : 20 < N) (hp : p < 30) (hc : c < 10) (hh : has p = nI m) (hm : m < 1024) (hwc : wc p = nI n) (hn : n ≤ 6) (hW : ∀ k, k < n → wi (p * 6 + k) = nI (W k)) (hb : ∀ k, k < n → W k < 10) (hhe : held < 1024) (hev : rA eva ev 10) (he5 : ∀ i, i < 10 → ev i < 100) (hnc : nc ≤ 10) (hwn : wnt p = nI wan) (hwl : wan < 100) :
    fX6_reasonFor N has wc wi (nI held) eva (nI nc) wnt (nI p) (nI c) = some (nI (rs5 m n W held ev nc wan c)) := by
  have h3 := hev c hc
  have h4 := he5 c hc
  have hrk := fun x (hx : x < 10) => rankOf_eq (N := N) (c := x) (by omega) hp hwc hn hW hb hx
  have hon := courseOn_eq hN hp hh hm hev he5 hnc h4
  have hbd : ∀ x k, rkN W x n 0 = some k → k < 100 := fun x k h => by have := (rkN_lt _ _ _ h).2.1; omega
  unfold fX6_reasonFor rs5
  rw [hasCourse_eq hp hh hm hc, Option.bind_some]
  by_cases h1 : m.testBit c = true
  · rw [if_neg (bt_ne h1), if_pos h1]; rfl
  rw [if_pos (bt_is h1), if_neg h1, hrk c hc, Option.bind_some]
  cases hr : rkN W c n 0 with
  | none => rw [if_pos (show oI none = -1 from rfl)]; rfl
  | some r =>
    have hr1 := hbd c r hr
    rw [if_neg (by rw [show oI (some r) = nI r from rfl, nz_m1, nz_eqM (by omega)]; exact fun q => q), isHeld_eq hhe hc, Option.bind_some]
    by_cases h2 : held.testBit c = true
    · rw [if_neg (bt_ne h2)]
      dsimp only
      rw [if_pos h2, nz_ald (by omega) (by omega), h3, Option.bind_some, hon, Option.bind_some]
      cases ho : onN ev m (ev c) nc 0 with
      | none =>
        rw [if_pos (show oI none = -1 from rfl), coursesOf_eq hp hh hm, Option.bind_some, nz_ald (by omega) (by omega), hwn, Option.bind_some, iteq (nz_lt (a := pop m) (b := wan) (by have := pop_le m; omega) (by omega))]
        dsimp only
        by_cases h5 : pop m < wan
        · rw [if_pos h5, if_pos h5]; rfl
        · rw [if_neg h5, if_neg h5]; rfl
      | some o =>
        have ho1 := (onN_lt _ _ _ ho).2.1
        rw [if_neg (by rw [show oI (some o) = nI o from rfl, nz_m1, nz_eqM (by omega)]; exact fun q => q), show oI (some o) = nI o from rfl, hrk o (by omega), Option.bind_some, iteq (oI_le (a := some r) (b := rkN W o n 0) (fun k h => by cases h; exact hr1) (hbd o))]
        dsimp only
        by_cases h5 : (r : Int) ≤ rkv (rkN W o n 0)
        · rw [if_pos h5, if_pos (show rkv (some r) ≤ _ from h5)]; rfl
        · rw [if_neg h5, if_neg (show ¬ rkv (some r) ≤ _ from h5)]; rfl
    · rw [if_pos (bt_is h2)]
      dsimp only
      rw [if_neg h2]; rfl
/-- the reference's why: 6 where a place is left -/
def r56 (r a b : Nat) : Nat := if r = 5 then (if a < b then 6 else 5) else r
theorem reason_eq {N p c m n held nc wan np : Nat} {has wc wi eva wnt hl cs ps pla : Nat → Int32} {W ev hs pl : Nat → Nat} (hN : 40 < N) (hp : p < 30) (hc : c < 10) (hh : rA has hs 30) (hma : ∀ p, p < 30 → hs p < 1024) (hhp : hs p = m) (hwc : wc p = nI n) (hn : n ≤ 6) (hW : ∀ k, k < n → wi (p * 6 + k) = nI (W k)) (hb : ∀ k, k < n → W k < 10) (hhe : held < 1024) (hhl : hl 0 = nI held) (hev : rA eva ev 10) (he5 : ∀ i, i < 10 → ev i < 100) (hcs : cs 0 = nI nc) (hnc : nc ≤ 10) (hps : ps 0 = nI np) (hnp : np ≤ 30) (hwn : wnt p = nI wan) (hwl : wan < 100) (hpl : rA pla pl 10) (hplb : ∀ c, c < 10 → pl c < 100) :
    fX11_reason N has wc wi hl eva cs wnt ps pla (nI p) (nI c) = some (nI (r56 (rs5 m n W held ev nc wan c) (cnt hs c np) (pl c))) := by
  have h3 := hev c hc
  have h4 := he5 c hc
  have hhm : has p = nI m := by rw [hh p hp, hhp]
  have hm : m < 1024 := by rw [← hhp]; exact hma p hp
  have hrk := fun x (hx : x < 10) => rank_eq (N := N) (c := x) (by omega) hp hwc hn hW hb hx
  have hon := on_eq (N := N) (by omega) hp hhm hm hev he5 hcs hnc h4
  have hbd : ∀ x k, rkN W x n 0 = some k → k < 100 := fun x k h => by have := (rkN_lt _ _ _ h).2.1; omega
  have hl0 : ns_ald hl 4 0 = some (nI held) := by rw [nz0, nz_ald (by omega) (by omega), hhl]
  have h101 : gX11_reason_101 N has wc wi hl eva cs wnt ps pla (nI c) = some (nI (r56 5 (cnt hs c np) (pl c))) := by
    unfold gX11_reason_101
    rw [hasNow_eq hN hps hnp hh hma hc, Option.bind_some, nz_ald (by omega) (by omega), hpl c hc, Option.bind_some, iteq (nz_lt (a := cnt hs c np) (b := pl c) (by have := cnt_le hs c np; omega) (by have := hplb c hc; omega))]
    by_cases q : cnt hs c np < pl c
    · rw [if_pos q]; unfold r56; rw [if_pos rfl, if_pos q]; rfl
    · rw [if_neg q]; unfold r56; rw [if_pos rfl, if_neg q]; rfl
  unfold fX11_reason rs5
  rw [nz_ald (by omega) (by omega), hhm, Option.bind_some, bt_shr c hc m hm]
  by_cases h1 : m.testBit c = true
  · rw [if_neg (bt_ne h1), if_pos h1]; rfl
  rw [if_pos (bt_is h1), if_neg h1, hrk c hc, Option.bind_some]
  cases hr : rkN W c n 0 with
  | none => rw [if_pos (show oI none = -1 from rfl)]; rfl
  | some r =>
    have hr1 := hbd c r hr
    rw [if_neg (by rw [show oI (some r) = nI r from rfl, nz_m1, nz_eqM (by omega)]; exact fun q => q), hl0, Option.bind_some, bt_shr c hc held hhe]
    by_cases h2 : held.testBit c = true
    · rw [if_neg (bt_ne h2)]
      dsimp only
      rw [if_pos h2, nz_ald (by omega) (by omega), h3, Option.bind_some, hon, Option.bind_some]
      cases ho : onN ev m (ev c) nc 0 with
      | none =>
        rw [if_pos (show oI none = -1 from rfl)]
        unfold gX11_reason_76
        rw [if_pos (show oI none = -1 from rfl), nz_ald (by omega) (by omega), hhm, Option.bind_some, ones_eq (by omega) hm, Option.bind_some, nz_ald (by omega) (by omega), hwn, Option.bind_some, iteq (nz_lt (a := pop m) (b := wan) (by have := pop_le m; omega) (by omega)), h101]
        dsimp only
        by_cases h5 : pop m < wan
        · rw [if_pos h5, if_pos h5]
        · rw [if_neg h5, if_neg h5]; rfl
      | some o =>
        have ho1 := (onN_lt _ _ _ ho).2.1
        have hne : ¬ oI (some o) = -1 := by rw [show oI (some o) = nI o from rfl, nz_m1, nz_eqM (by omega)]; exact fun q => q
        rw [if_neg hne]
        unfold gX11_reason_76
        rw [if_neg hne, show oI (some o) = nI o from rfl, hrk o (by omega), Option.bind_some, Option.bind_some, iteq (oI_le (a := some r) (b := rkN W o n 0) (fun k h => by cases h; exact hr1) (hbd o)), h101]
        dsimp only
        by_cases h5 : (r : Int) ≤ rkv (rkN W o n 0)
        · rw [if_pos h5, if_pos (show rkv (some r) ≤ _ from h5)]
        · rw [if_neg h5, if_neg (show ¬ rkv (some r) ≤ _ from h5)]; rfl
    · rw [if_pos (bt_is h2)]
      dsimp only
      rw [if_neg h2]; rfl
