/-! the text of fees: words, the class's scan -/
theorem ud_s {f : Nat → Int32} {k : Nat} {v : Int32} : upd f k v k = v := if_pos rfl
theorem ud_n {f : Nat → Int32} {k j : Nat} {v : Int32} (h : j ≠ k) : upd f k v j = f j := if_neg h
section LY
variable {N : Nat} {tp : Nat → Int32} {u : Nat → Nat} {t : Nat}
theorem let_val {x : Nat} (h : lL x = true) : 97 ≤ x ∧ x ≤ 122 := of_decide_eq_true h
theorem tp_let (hT : TB tp u) {j : Nat} (hj : j < 500) (h : lL (u j) = true) : tp j = nI (u j) := by
  obtain ⟨-, -, w⟩ := hT j hj
  have := let_val h
  rcases w with w | w
  · exact w.2
  · omega
theorem eL_le {q : Nat} (h : q ≤ t) : q ≤ eL u t q ∧ eL u t q ≤ t := by
  obtain ⟨r1, r2, -, -⟩ := run_ge (P := fun j => lL (u j)) (t - q) q
  exact ⟨r1, by show run _ _ _ ≤ t; omega⟩
theorem eD_le {q : Nat} (h : q ≤ t) : q ≤ eD u t q ∧ eD u t q ≤ t := by
  obtain ⟨r1, r2, -, -⟩ := run_ge (P := fun j => lD (u j)) (t - q) q
  exact ⟨r1, by show run _ _ _ ≤ t; omega⟩
theorem eL_in {q j : Nat} (h1 : q ≤ j) (h2 : j < eL u t q) : lL (u j) = true := (run_ge (P := fun j => lL (u j)) (t - q) q).2.2.1 j h1 h2
theorem eD_in {q j : Nat} (h1 : q ≤ j) (h2 : j < eD u t q) : lD (u j) = true := (run_ge (P := fun j => lD (u j)) (t - q) q).2.2.1 j h1 h2
theorem eL_out {q : Nat} (h : q ≤ t) (h2 : eL u t q < t) : lL (u (eL u t q)) = false := (run_ge (P := fun j => lL (u j)) (t - q) q).2.2.2 (by show eL u t q < _; omega)
theorem eD_out {q : Nat} (h : q ≤ t) (h2 : eD u t q < t) : lD (u (eD u t q)) = false := (run_ge (P := fun j => lD (u j)) (t - q) q).2.2.2 (by show eD u t q < _; omega)
theorem len_lt (k : Nat) : ns_len.getD k 0 ≤ 7 := by
  by_cases h : k < 15
  · rcases (by omega : k = 0 ∨ k = 1 ∨ k = 2 ∨ k = 3 ∨ k = 4 ∨ k = 5 ∨ k = 6 ∨ k = 7 ∨ k = 8 ∨ k = 9 ∨ k = 10 ∨ k = 11 ∨ k = 12 ∨ k = 13 ∨ k = 14) with e | e | e | e | e | e | e | e | e | e | e | e | e | e | e <;> subst e <;> decide
  · have : ns_len.length ≤ k := by show 15 ≤ k; omega
    rw [List.getD_eq_getElem?_getD, List.getElem?_eq_none this]
    decide
theorem same_eq (hT : TB tp u) (ht : t ≤ 500) {q k : Nat} (hq : q ≤ t) (hN : 1000 < N) : fX9_isSameWord N tp (nI q) (nI (eL u t q)) k = some (eI (mtB u t q k)) := by
  obtain ⟨h1, h2⟩ := eL_le (u := u) hq
  have h7 := len_lt k
  unfold fX9_isSameWord
  rw [show ns_sln k = nI (ns_len.getD k 0) from rfl, pk_sub h1]
  by_cases hl : eL u t q - q = ns_len.getD k 0
  · rw [if_pos (show nI (eL u t q - q) = nI (ns_len.getD k 0) by rw [hl])]
    have loop : ∀ d i z, i + d = eL u t q → d < z → q ≤ i → (∀ j, q ≤ j → j < i → nI (u j) = (ns_byt.getD k []).getD (j - q) 0) → fX9_isSameWord_18 N z tp (nI q) (nI (eL u t q)) k (nI i) = some (eI (mtB u t q k)) := by
      intro d
      induction d with
      | zero =>
        intro i z a1 a2 a3 a4
        obtain ⟨z, rfl⟩ : ∃ w, z = w + 1 := ⟨z - 1, by omega⟩
        obtain rfl : i = eL u t q := by omega
        rw [show fX9_isSameWord_18 N (z + 1) = gX9_isSameWord_18 N (fX9_isSameWord_18 N z) from rfl]
        unfold gX9_isSameWord_18
        rw [if_pos (nI_le (Nat.le_refl _) (by omega)), show mtB u t q k = true from decide_eq_true ⟨hl, fun i hi => by
          have := a4 (q + i) (by omega) (by omega)
          rw [show q + i - q = i by omega] at this
          exact this⟩]
        rfl
      | succ d ih =>
        intro i z a1 a2 a3 a4
        obtain ⟨z, rfl⟩ : ∃ w, z = w + 1 := ⟨z - 1, by omega⟩
        rw [show fX9_isSameWord_18 N (z + 1) = gX9_isSameWord_18 N (fX9_isSameWord_18 N z) from rfl]
        unfold gX9_isSameWord_18
        have hi : i < 500 := by omega
        have hx : tp i = nI (u i) := tp_let hT hi (eL_in (t := t) (q := q) a3 (by omega))
        have hs : ns_sch k (nI (i - q)) = some ((ns_byt.getD k []).getD (i - q) 0) := by
          unfold ns_sch
          rw [nI_clamp (by omega), if_pos ⟨nI_pos' (by omega), by omega⟩]
        rw [if_neg (nI_ge (by omega) (by omega)), nz_ald hi (by omega), Option.bind_some, pk_sub a3, hs, Option.bind_some, hx]
        by_cases he : nI (u i) = (ns_byt.getD k []).getD (i - q) 0
        · rw [if_pos he, nz_let, nI_1]
          refine ih (i + 1) z (by omega) (by omega) (by omega) (fun j b1 b2 => ?_)
          by_cases e : j = i
          · rw [e]; exact he
          · exact a4 j b1 (by omega)
        · rw [if_neg he, show mtB u t q k = false from decide_eq_false (fun w => he (by
            have := w.2 (i - q) (by omega)
            rw [show q + (i - q) = i by omega] at this
            exact this))]
          rfl
    exact loop (eL u t q - q) q N (by omega) (by omega) (Nat.le_refl _) (fun j b1 b2 => by omega)
  · rw [if_neg (show ¬ nI (eL u t q - q) = nI (ns_len.getD k 0) by rw [nI_eq (by omega) (by omega)]; exact hl), show mtB u t q k = false from decide_eq_false (fun w => hl w.1)]
    rfl
theorem sp_k {k : Nat} (h : k < 15) : ns_sp (nI (201 + k)) = k := by
  rcases (by omega : k = 0 ∨ k = 1 ∨ k = 2 ∨ k = 3 ∨ k = 4 ∨ k = 5 ∨ k = 6 ∨ k = 7 ∨ k = 8 ∨ k = 9 ∨ k = 10 ∨ k = 11 ∨ k = 12 ∨ k = 13 ∨ k = 14) with e | e | e | e | e | e | e | e | e | e | e | e | e | e | e <;> subst e <;> decide
theorem addWd (hT : TB tp u) (ht : t ≤ 500) {q c : Nat} {k p m : Nat → Int32} (hq : q < t) (hc : c < 501) (hN : 1000 < N) (hd : lL (u q) = true) (hnd : lD (u q) = false) : fX9_addWord N 500 tp (nI c) k p m (nI q) (nI t) = some (upd k c (nI (kd u t q)), upd p c (nI q), upd m c (nI (nm u t q)), nI (c + 1)) := by
  have hk : kd u t q = kwd (fldW (mtB u t q) 15) := by unfold kd; rw [if_neg (by rw [hnd]; decide), if_pos hd]
  have hn : nm u t q = 0 := by unfold nm; rw [if_neg (by rw [hnd]; decide)]
  obtain ⟨r1, r2⟩ := eL_le (u := u) (Nat.le_of_lt hq)
  have w33 : ∀ d i z, i + d = 15 → d < z → fX9_addWord_33 N 500 z tp (nI c) k p m (nI q) (nI (eL u t q)) (nI (kwd (fldW (mtB u t q) i))) (nI (201 + i)) = some (upd k c (nI (kd u t q)), upd p c (nI q), upd m c (nI (nm u t q)), nI (c + 1)) := by
    intro d
    induction d with
    | zero =>
      intro i z a1 a2
      obtain ⟨z, rfl⟩ : ∃ w, z = w + 1 := ⟨z - 1, by omega⟩
      obtain rfl : i = 15 := by omega
      rw [show fX9_addWord_33 N 500 (z + 1) = gX9_addWord_33 N 500 (fX9_addWord_33 N 500 z) from rfl]
      unfold gX9_addWord_33
      rw [if_pos (show (215 : Int32) < nI (201 + 15) by decide), tok_eq hc, hk, hn]
      rfl
    | succ d ih =>
      intro i z a1 a2
      obtain ⟨z, rfl⟩ : ∃ w, z = w + 1 := ⟨z - 1, by omega⟩
      rw [show fX9_addWord_33 N 500 (z + 1) = gX9_addWord_33 N 500 (fX9_addWord_33 N 500 z) from rfl]
      unfold gX9_addWord_33
      have h5 := ih (i + 1) z (by omega) (by omega)
      rw [show fldW (mtB u t q) (i + 1) = if mtB u t q i = true then some i else fldW (mtB u t q) i from rfl] at h5
      rw [if_neg (show ¬ (215 : Int32) < nI (201 + i) from nI_nlt (b := 201 + i) (a := 215) (by omega) (by omega)), sp_k (by omega), same_eq hT ht (Nat.le_of_lt hq) hN, Option.bind_some]
      by_cases hm : mtB u t q i = true
      · rw [if_neg (eI_ne hm), nz_let, nI_1]
        rw [if_pos hm] at h5
        rw [show 201 + i = i + 201 by omega]
        rw [show 201 + (i + 1) = i + 201 + 1 by omega] at h5
        exact h5
      · rw [if_pos (eI_is hm), nz_let, nI_1]
        rw [if_neg hm] at h5
        exact h5
  have fin := w33 15 0 N rfl (by omega)
  have loop : ∀ d i z, i + d = eL u t q → d < z → q ≤ i → fX9_addWord_3 N 500 z tp (nI c) k p m (nI q) (nI t) (nI i) = some (upd k c (nI (kd u t q)), upd p c (nI q), upd m c (nI (nm u t q)), nI (c + 1)) := by
    intro d
    induction d with
    | zero =>
      intro i z h1 h2 h3
      obtain ⟨z, rfl⟩ : ∃ w, z = w + 1 := ⟨z - 1, by omega⟩
      obtain rfl : i = eL u t q := by omega
      rw [show fX9_addWord_3 N 500 (z + 1) = gX9_addWord_3 N 500 (fX9_addWord_3 N 500 z) from rfl]
      unfold gX9_addWord_3
      by_cases y : t ≤ eL u t q
      · rw [if_pos (nI_le y (by omega))]
        exact fin
      · have hlt : eL u t q < 500 := by omega
        have hf : lL (u (eL u t q)) = false := eL_out (Nat.le_of_lt hq) (by omega)
        rw [if_neg (nI_ge (by omega) (by omega)), nz_ald hlt (by omega), Option.bind_some, let_eq hT hlt, Option.bind_some, if_pos (eI_is (by rw [hf]; decide))]
        exact fin
    | succ d ih =>
      intro i z h1 h2 h3
      obtain ⟨z, rfl⟩ : ∃ w, z = w + 1 := ⟨z - 1, by omega⟩
      rw [show fX9_addWord_3 N 500 (z + 1) = gX9_addWord_3 N 500 (fX9_addWord_3 N 500 z) from rfl]
      unfold gX9_addWord_3
      have hi5 : i < 500 := by omega
      have hli : lL (u i) = true := eL_in (t := t) (q := q) h3 (by omega)
      rw [if_neg (nI_ge (by omega) (by omega)), nz_ald hi5 (by omega), Option.bind_some, let_eq hT hi5, Option.bind_some, if_neg (eI_ne hli), nz_let, nI_1]
      exact ih (i + 1) z (by omega) (by omega) (by omega)
  exact loop (eL u t q - q) q N (by omega) (by omega) (Nat.le_refl _)
/-- the class's tokens, of the starts before i -/
def TI (u : Nat → Nat) (t i : Nat) (k p m : Nat → Int32) : Prop := ∀ q, q < i → stB u q = true → k (cS u q) = nI (kd u t q) ∧ p (cS u q) = nI q ∧ m (cS u q) = nI (nm u t q)
theorem TI_push {i : Nat} {k p m : Nat → Int32} (h : TI u t i k p m) (hs : stB u i = true) : TI u t (i + 1) (upd k (cS u i) (nI (kd u t i))) (upd p (cS u i) (nI i)) (upd m (cS u i) (nI (nm u t i))) := by
  intro q hq hsq
  by_cases e : q = i
  · subst e
    exact ⟨ud_s, ud_s, ud_s⟩
  · have h1 := cS_lt (u := u) (q := q) (q' := i) (by omega) hsq
    rw [ud_n (by omega), ud_n (by omega), ud_n (by omega)]
    exact h q (by omega) hsq
theorem TI_skip {i : Nat} {k p m : Nat → Int32} (h : TI u t i k p m) (hs : stB u i = false) : TI u t (i + 1) k p m := by
  intro q hq hsq
  by_cases e : q = i
  · subst e; rw [hs] at hsq; cases hsq
  · exact h q (by omega) hsq
theorem cS_1 {i : Nat} (hs : stB u i = true) : cS u (i + 1) = cS u i + 1 := by
  show cS u i + (if stB u i = true then 1 else 0) = _
  rw [if_pos hs]
theorem cS_0 {i : Nat} (hs : stB u i = false) : cS u (i + 1) = cS u i := by
  show cS u i + (if stB u i = true then 1 else 0) = _
  rw [if_neg (by rw [hs]; decide)]
  rfl
theorem scan_eq (hT : TB tp u) (ht : t ≤ 500) (hN : 1000 < N) : ∀ d i z (k p m : Nat → Int32), i + d = t → d < z → TI u t i k p m → ∃ k' p' m', fX9_scan_7 N 500 z (nI (cS u i)) k p m tp (nI t) (nI i) = some (nI (cS u t + 1), k', p', m') ∧ TI u t t k' p' m' ∧ k' (cS u t) = 0 ∧ p' (cS u t) = nI t ∧ m' (cS u t) = 0 := by
  intro d
  induction d with
  | zero =>
    intro i z k p m h1 h2 hI
    obtain ⟨z, rfl⟩ : ∃ w, z = w + 1 := ⟨z - 1, by omega⟩
    obtain rfl : i = t := by omega
    have hc := cS_le (u := u) i
    rw [show fX9_scan_7 N 500 (z + 1) = gX9_scan_7 N 500 (fX9_scan_7 N 500 z) from rfl]
    unfold gX9_scan_7
    rw [if_pos (nI_le (Nat.le_refl _) (by omega)), tok_eq (by omega)]
    refine ⟨_, _, _, rfl, fun q hq hs => ?_, ud_s, ud_s, ud_s⟩
    have h3 := cS_lt (u := u) hq hs
    dsimp only
    rw [ud_n (by omega), ud_n (by omega), ud_n (by omega)]
    exact hI q hq hs
  | succ d ih =>
    intro i z k p m h1 h2 hI
    obtain ⟨z, rfl⟩ : ∃ w, z = w + 1 := ⟨z - 1, by omega⟩
    have hc := cS_le (u := u) i
    have hi : i < t := by omega
    have hi5 : i < 500 := by omega
    rw [show fX9_scan_7 N 500 (z + 1) = gX9_scan_7 N 500 (fX9_scan_7 N 500 z) from rfl]
    have go1 : stB u i = true → ∃ k' p' m', fX9_scan_7 N 500 z (nI (cS u i + 1)) (upd k (cS u i) (nI (kd u t i))) (upd p (cS u i) (nI i)) (upd m (cS u i) (nI (nm u t i))) tp (nI t) (nI (i + 1)) = some (nI (cS u t + 1), k', p', m') ∧ TI u t t k' p' m' ∧ k' (cS u t) = 0 ∧ p' (cS u t) = nI t ∧ m' (cS u t) = 0 := fun hs => by
      have := ih (i + 1) z _ _ _ (by omega) (by omega) (TI_push hI hs)
      rw [cS_1 hs] at this
      exact this
    have go0 : stB u i = false → ∃ k' p' m', fX9_scan_7 N 500 z (nI (cS u i)) k p m tp (nI t) (nI (i + 1)) = some (nI (cS u t + 1), k', p', m') ∧ TI u t t k' p' m' ∧ k' (cS u t) = 0 ∧ p' (cS u t) = nI t ∧ m' (cS u t) = 0 := fun hs => by
      have := ih (i + 1) z _ _ _ (by omega) (by omega) (TI_skip hI hs)
      rw [cS_0 hs] at this
      exact this
    unfold gX9_scan_7
    rw [if_neg (nI_ge (by omega) (by omega)), nz_ald hi5 (by omega), Option.bind_some, dig_eq hT hi5, Option.bind_some]
    by_cases hD : lD (u i) = true
    · rw [if_neg (eI_ne hD)]
      have num : stB u i = true → ∃ k' p' m', gX9_scan_36 N 500 (fX9_scan_7 N 500 z) (nI (cS u i)) k p m tp (nI t) (nI i) = some (nI (cS u t + 1), k', p', m') ∧ TI u t t k' p' m' ∧ k' (cS u t) = 0 ∧ p' (cS u t) = nI t ∧ m' (cS u t) = 0 := fun hs => by
        unfold gX9_scan_36
        rw [addNum hT ht hi (by omega) hN hD, Option.bind_some, nz_let, nI_1]
        exact go1 hs
      by_cases h0 : i = 0
      · rw [if_pos (show nI i = 0 by rw [h0]; rfl)]
        exact num (by unfold stB; rw [if_pos hD, decide_eq_true h0]; rfl)
      · rw [if_neg (nI_ne0 (by omega) (by omega)), nI_m1 (by omega), nz_ald (by omega) (by omega), Option.bind_some, dig_eq hT (by omega), Option.bind_some]
        by_cases hp : lD (u (i - 1)) = true
        · rw [if_neg (eI_ne hp), nz_let, nI_1]
          exact go0 (by unfold stB; rw [if_pos hD, decide_eq_false h0, hp]; rfl)
        · rw [if_pos (eI_is hp)]
          exact num (by unfold stB; rw [if_pos hD, Bool.eq_false_iff.mpr hp, Bool.or_eq_true]; exact Or.inr rfl)
    · rw [if_pos (eI_is hD), Option.bind_some, let_eq hT hi5, Option.bind_some]
      by_cases hL : lL (u i) = true
      · rw [if_neg (eI_ne hL)]
        have wrd : stB u i = true → ∃ k' p' m', gX9_scan_70 N 500 (fX9_scan_7 N 500 z) (nI (cS u i)) k p m tp (nI t) (nI i) = some (nI (cS u t + 1), k', p', m') ∧ TI u t t k' p' m' ∧ k' (cS u t) = 0 ∧ p' (cS u t) = nI t ∧ m' (cS u t) = 0 := fun hs => by
          unfold gX9_scan_70
          rw [addWd hT ht hi (by omega) hN hL (Bool.eq_false_iff.mpr hD), Option.bind_some, nz_let, nI_1]
          exact go1 hs
        by_cases h0 : i = 0
        · rw [if_pos (show nI i = 0 by rw [h0]; rfl)]
          exact wrd (by unfold stB; rw [if_neg hD, if_pos hL, decide_eq_true h0]; rfl)
        · rw [if_neg (nI_ne0 (by omega) (by omega)), nI_m1 (by omega), nz_ald (by omega) (by omega), Option.bind_some, let_eq hT (by omega), Option.bind_some]
          by_cases hp : lL (u (i - 1)) = true
          · rw [if_neg (eI_ne hp), nz_let, nI_1]
            exact go0 (by unfold stB; rw [if_neg hD, if_pos hL, decide_eq_false h0, hp]; rfl)
          · rw [if_pos (eI_is hp)]
            exact wrd (by unfold stB; rw [if_neg hD, if_pos hL, Bool.eq_false_iff.mpr hp, Bool.or_eq_true]; exact Or.inr rfl)
      · rw [if_pos (eI_is hL)]
        have hst : stB u i = !lS (u i) := by unfold stB; rw [if_neg hD, if_neg hL]
        have h32 : (tp i = 32) = (u i = 32) := ch_eq (k := 32) hT hi5 (by decide)
        have h10 : (tp i = 10) = (u i = 10) := ch_eq (k := 10) hT hi5 (by decide)
        rw [Option.bind_some, iteq h32]
        by_cases a : u i = 32
        · rw [if_pos a, nz_let, nI_1]
          exact go0 (by rw [hst, show lS (u i) = true from decide_eq_true (Or.inr a)]; rfl)
        rw [if_neg a, Option.bind_some, iteq h10]
        by_cases b : u i = 10
        · rw [if_pos b, nz_let, nI_1]
          exact go0 (by rw [hst, show lS (u i) = true from decide_eq_true (Or.inl b)]; rfl)
        have hs : stB u i = true := by rw [hst, show lS (u i) = false from decide_eq_false (by omega)]; rfl
        have hn : nm u t i = 0 := by unfold nm; rw [if_neg hD]
        have hk : kd u t i = if lG (u i) = true then u i else 1 := by unfold kd; rw [if_neg hD, if_neg hL]
        have h5 := go1 hs
        rw [hn, hk] at h5
        rw [if_neg b, Option.bind_some, sgn_eq hT hi5, Option.bind_some]
        by_cases g : lG (u i) = true
        · rw [if_neg (eI_ne g), Option.bind_some]
          rw [if_pos g] at h5
          unfold gX9_scan_113
          have hg : tp i = nI (u i) := by
            have g2 : u i = 58 ∨ u i = 59 ∨ u i = 47 ∨ u i = 60 ∨ u i = 62 ∨ u i = 61 := of_decide_eq_true g
            exact (ch_eq (k := u i) hT hi5 (by omega)).mpr rfl
          rw [tok_eq (by omega), Option.bind_some, nz_let, nI_1, hg]
          exact h5
        · rw [if_pos (eI_is g)]
          rw [if_neg g] at h5
          unfold gX9_scan_113
          rw [tok_eq (by omega), Option.bind_some, nz_let, nI_1]
          exact h5
end LY
