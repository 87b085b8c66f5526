/-! moving up: one move, and all of them -/
def sm (f : Nat → Nat) : Nat → Nat
  | 0 => 0
  | n + 1 => sm f n + f n
theorem sm_congr {f g : Nat → Nat} : ∀ n, (∀ k, k < n → f k = g k) → sm f n = sm g n
  | 0, _ => rfl
  | n + 1, h => by
    show sm f n + f n = sm g n + g n
    rw [sm_congr n (fun k hk => h k (by omega)), h n (by omega)]
theorem sm_up {f : Nat → Nat} {a v : Nat} : ∀ n, a < n → sm (va_up f a v) n + f a = sm f n + v
  | 0, h => by omega
  | n + 1, h => by
    show sm (va_up f a v) n + va_up f a v n + f a = sm f n + f n + v
    by_cases e : n = a
    · subst e
      rw [va_up_self, sm_congr (g := f) n (fun k hk => va_up_ne f v (by omega))]
      omega
    · have := sm_up (f := f) (v := v) n (show a < n by omega)
      rw [va_up_ne f v e]
      omega
theorem sm_le {f : Nat → Nat} {b : Nat} : ∀ n, (∀ k, k < n → f k ≤ b) → sm f n ≤ n * b
  | 0, _ => by simp [sm]
  | n + 1, h => by
    have h1 := sm_le n (fun k hk => h k (by omega))
    have h2 := h n (by omega)
    show sm f n + f n ≤ (n + 1) * b
    rw [Nat.add_mul]; omega
theorem cnt_sm (hs : Nat → Nat) (c : Nat) : ∀ n, cnt hs c n = sm (fun p => bt (hs p) c) n
  | 0 => rfl
  | n + 1 => by
    show cnt hs c n + _ = sm _ n + _
    rw [cnt_sm hs c n]
theorem cnt_up {hs : Nat → Nat} {p m c n : Nat} (h : p < n) : cnt (va_up hs p m) c n + bt (hs p) c = cnt hs c n + bt m c := by
  rw [cnt_sm, cnt_sm]
  have e : sm (fun q => bt (va_up hs p m q) c) n = sm (va_up (fun q => bt (hs q) c) p (bt m c)) n := sm_congr n (fun k _ => by
    by_cases q : k = p
    · subst q; rw [va_up_self, va_up_self]
    · rw [va_up_ne _ _ q, va_up_ne _ _ q])
  rw [e]
  exact sm_up n h
theorem tb_or (m c i : Nat) : (m ||| 2 ^ c).testBit i = (m.testBit i || decide (c = i)) := by
  rw [Nat.testBit_or, Nat.testBit_two_pow]
theorem tb_clr (m c i : Nat) : (clr m c).testBit i = (m.testBit i && !decide (c = i)) := by
  unfold clr
  rw [Nat.testBit_xor, Nat.testBit_and, Nat.testBit_two_pow]
  cases m.testBit i <;> cases decide (c = i) <;> rfl
theorem or_lt {m c : Nat} (h : m < 1024) (hc : c < 10) : m ||| 2 ^ c < 1024 :=
  Nat.or_lt_two_pow (n := 10) h (Nat.pow_lt_pow_right (by decide) hc)
theorem clr_lt {m c : Nat} (h : m < 1024) : clr m c < 1024 := by
  have h1 : m &&& 2 ^ c < 1024 := Nat.lt_of_le_of_lt Nat.and_le_left h
  exact Nat.xor_lt_two_pow (n := 10) h h1
theorem clr_or {m c o : Nat} (h : o ≠ c) : clr (m ||| 2 ^ c) o = clr m o ||| 2 ^ c := by
  refine Nat.eq_of_testBit_eq fun i => ?_
  rw [tb_clr, tb_or, tb_or, tb_clr]
  by_cases a : c = i
  · subst a; simp [h]
  · simp [a]
theorem rA_upd {f : Nat → Int32} {g : Nat → Nat} {n k v : Nat} (h : rA f g n) : rA (upd f k (nI v)) (va_up g k v) n := by
  intro j hj
  by_cases q : j = k
  · subst q; rw [pk_us, va_up_self]
  · rw [pk_un q, va_up_ne _ _ q]; exact h j hj
theorem rA_congr {f : Nat → Int32} {g g' : Nat → Nat} {n : Nat} (h : rA f g n) (e : ∀ j, j < n → g j = g' j) : rA f g' n := fun j hj => by rw [h j hj, e j hj]
/-- the mask behind a move into c -/
def mvm (ev : Nat → Nat) (nc m c : Nat) : Nat := match onN ev m (ev c) nc 0 with
  | none => m ||| 2 ^ c
  | some o => clr m o ||| 2 ^ c
theorem mvm_lt {ev : Nat → Nat} {nc m c : Nat} (hm : m < 1024) (hc : c < 10) : mvm ev nc m c < 1024 := by
  unfold mvm
  split
  · exact or_lt hm hc
  · exact or_lt (clr_lt hm) hc
theorem moveInto_eq {N p c m nc np : Nat} {has tk mva eva : Nat → Int32} {mia : Int32} {hs ev mv : Nat → Nat} (hN : 40 < N) (hp : p < np) (hnp : np ≤ 30) (hc : c < 10) (hh : rA has hs 30) (hma : ∀ p, p < 30 → hs p < 1024) (hhp : hs p = m) (htk : rA tk (fun c => cnt hs c np) 10) (hmv : rA mva mv 30) (hev : rA eva ev 10) (he5 : ∀ i, i < 10 → ev i < 100) (hnc : nc ≤ 10) (hno : ¬ m.testBit c = true) :
    ∃ has' tk' mva', fX6_moveInto N eva (nI nc) has tk mva mia (nI p) (nI c) = some (has', tk', mva', mia + 1) ∧ rA has' (va_up hs p (mvm ev nc m c)) 30 ∧ rA tk' (fun c' => cnt (va_up hs p (mvm ev nc m c)) c' np) 10 ∧ rA mva' (va_up mv p (mv p + 1)) 30 := by
  have hp3 : p < 30 := by omega
  have hhm : has p = nI m := by rw [hh p hp3, hhp]
  have hm : m < 1024 := by rw [← hhp]; exact hma p hp3
  have hon := courseOn_eq (N := N) (by omega) hp3 hhm hm hev he5 hnc (he5 c hc)
  have h29 : ∀ (has tk : Nat → Int32) (m : Nat), has p = nI m → m < 1024 → gX6_moveInto_29 N eva (nI nc) has tk mva mia (nI p) (nI c) = some (upd has p (nI (m ||| 2 ^ c)), upd tk c (tk c + 1), upd mva p (nI (mv p + 1)), mia + 1) := by
    intro has tk m h1 h2
    simp (disch := omega) only [gX6_moveInto_29, fX7_give, nz_ald, nz_ast, h1, Option.bind_some, bt_or c hc m h2, nz_let, hmv p hp3, nI_1]
  unfold fX6_moveInto mvm
  rw [nz_ald (by omega) (by omega), hev c hc, Option.bind_some, hon, Option.bind_some]
  cases ho : onN ev m (ev c) nc 0 with
  | none =>
    rw [if_pos (show oI none = -1 from rfl), h29 has tk m hhm hm]
    refine ⟨_, _, _, rfl, rA_upd hh, fun j hj => ?_, rA_upd hmv⟩
    have e := cnt_up (hs := hs) (m := m ||| 2 ^ c) (c := j) hp
    rw [hhp] at e
    by_cases q : j = c
    · subst q
      rw [pk_us, htk j hj, nI_1]
      have b1 : bt m j = 0 := bt_f hno
      have b2 : bt (m ||| 2 ^ j) j = 1 := bt_t (by rw [tb_or]; simp)
      congr 1; dsimp only; omega
    · rw [pk_un q, htk j hj]
      have b2 : bt (m ||| 2 ^ c) j = bt m j := by unfold bt; rw [tb_or]; simp [Ne.symm q]
      congr 1; dsimp only; omega
  | some o =>
    obtain ⟨-, ho1, -, ho2⟩ := onN_lt _ _ _ ho
    have hoc : o ≠ c := fun q => hno (by rw [← q]; exact ho2)
    have hpos : 0 < cnt hs o np := by
      have e := cnt_up (hs := hs) (m := 0) (c := o) hp
      rw [hhp, bt_t ho2, show bt 0 o = 0 by unfold bt; rw [Nat.zero_testBit]; rfl] at e
      omega
    obtain ⟨z, hz⟩ : ∃ z, cnt hs o np = z + 1 := ⟨cnt hs o np - 1, by omega⟩
    have hta : fX7_takeAway N has tk (nI p) (nI o) = some (upd has p (nI (clr m o)), upd tk o (nI z)) := by
      simp (disch := omega) only [fX7_takeAway, nz_ald, nz_ast, hhm, Option.bind_some, bt_clr o (by omega) m hm, htk o (by omega), hz, nI_pred]
    rw [if_neg (by rw [show oI (some o) = nI o from rfl, nz_m1, nz_eqM (by omega)]; exact fun q => q), show oI (some o) = nI o from rfl, hta, Option.bind_some]
    dsimp only
    rw [h29 _ _ (clr m o) pk_us (clr_lt hm)]
    refine ⟨_, _, _, rfl, fun j hj => ?_, fun j hj => ?_, rA_upd hmv⟩
    · by_cases q : j = p
      · subst q; rw [pk_us, va_up_self]
      · rw [pk_un q, pk_un q, va_up_ne _ _ q]; exact hh j hj
    · have e := cnt_up (hs := hs) (m := clr m o ||| 2 ^ c) (c := j) hp
      rw [hhp] at e
      by_cases q : j = c
      · subst q
        rw [pk_us, pk_un (Ne.symm hoc), htk j hj, nI_1]
        have b1 : bt m j = 0 := bt_f hno
        have b2 : bt (clr m o ||| 2 ^ j) j = 1 := bt_t (by rw [tb_or]; simp)
        congr 1; dsimp only; omega
      · rw [pk_un q]
        by_cases q2 : j = o
        · subst q2
          rw [pk_us]
          have b1 : bt m j = 1 := bt_t ho2
          have b2 : bt (clr m j ||| 2 ^ c) j = 0 := bt_f (by rw [tb_or, tb_clr]; simp [Ne.symm q])
          congr 1; dsimp only; omega
        · rw [pk_un q2, htk j hj]
          have b2 : bt (clr m o ||| 2 ^ c) j = bt m j := by unfold bt; rw [tb_or, tb_clr]; simp [Ne.symm q, Ne.symm q2]
          congr 1; dsimp only; omega
