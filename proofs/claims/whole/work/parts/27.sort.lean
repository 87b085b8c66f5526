/-! greatest first, then by numbers: the order of rooms and courses -/
def bf (sz : Nat → Nat) (a b : Nat) : Bool := decide (sz b < sz a ∨ (sz a = sz b ∧ a < b))
theorem bf_iff {sz : Nat → Nat} {a b : Nat} : bf sz a b = true ↔ sz b < sz a ∨ (sz a = sz b ∧ a < b) := decide_eq_true_iff
def ps (sz : Nat → Nat) (n i : Nat) : Nat := sm (fun j => if bf sz j i = true then 1 else 0) n
theorem sm_le2 {f g : Nat → Nat} : ∀ n, (∀ k, k < n → f k ≤ g k) → sm f n ≤ sm g n
  | 0, _ => Nat.le_refl _
  | n + 1, h => by
    have h1 := sm_le2 n (fun k hk => h k (by omega))
    have h2 := h n (by omega)
    show sm f n + f n ≤ sm g n + g n
    omega
theorem sm_lt2 {f g : Nat → Nat} {a : Nat} : ∀ n, (∀ k, k < n → f k ≤ g k) → a < n → f a < g a → sm f n < sm g n
  | 0, _, h, _ => by omega
  | n + 1, h, h1, h2 => by
    show sm f n + f n < sm g n + g n
    have h3 := h n (by omega)
    by_cases e : a = n
    · subst e
      have := sm_le2 (f := f) (g := g) a (fun k hk => h k (by omega))
      omega
    · have := sm_lt2 n (fun k hk => h k (by omega)) (show a < n by omega) h2
      omega
theorem sm_one : ∀ n, sm (fun _ => 1) n = n
  | 0 => rfl
  | n + 1 => by show sm (fun _ => 1) n + 1 = n + 1; rw [sm_one n]
theorem bf_trans {sz : Nat → Nat} {a b c : Nat} (h1 : bf sz a b = true) (h2 : bf sz b c = true) : bf sz a c = true := by
  rw [bf_iff] at *; omega
theorem bf_irr {sz : Nat → Nat} {a : Nat} : ¬ bf sz a a = true := by rw [bf_iff]; omega
theorem bf_tot {sz : Nat → Nat} {a b : Nat} (h : a ≠ b) : bf sz a b = true ∨ bf sz b a = true := by rw [bf_iff, bf_iff]; omega
theorem ps_lt {sz : Nat → Nat} {n i j : Nat} (hi : i < n) (h : bf sz i j = true) : ps sz n i < ps sz n j := by
  refine sm_lt2 n (fun k _ => ?_) hi ?_
  · by_cases q : bf sz k i = true
    · rw [if_pos q, if_pos (bf_trans q h)]; exact Nat.le_refl _
    · rw [if_neg q]; omega
  · rw [if_neg bf_irr, if_pos h]; decide
theorem ps_iff {sz : Nat → Nat} {n i j : Nat} (hi : i < n) (hj : j < n) : ps sz n i < ps sz n j ↔ bf sz i j = true := by
  refine ⟨fun h => ?_, ps_lt hi⟩
  by_cases e : i = j
  · subst e; omega
  · rcases bf_tot (sz := sz) e with q | q
    · exact q
    · have := ps_lt hj q; omega
theorem ps_inj {sz : Nat → Nat} {n i j : Nat} (hi : i < n) (hj : j < n) (h : ps sz n i = ps sz n j) : i = j := by
  by_cases e : i = j
  · exact e
  · rcases bf_tot (sz := sz) e with q | q
    · have := ps_lt hi q; omega
    · have := ps_lt hj q; omega
theorem ps_bd {sz : Nat → Nat} {n i : Nat} (hi : i < n) : ps sz n i < n := by
  have h : ps sz n i < sm (fun _ => 1) n := sm_lt2 n (fun k _ => by split <;> omega) hi (by rw [if_neg bf_irr]; decide)
  rw [sm_one] at h
  exact h
theorem ps_le {sz : Nat → Nat} {n i : Nat} : ps sz n i ≤ n := by
  have h : ps sz n i ≤ sm (fun _ => 1) n := sm_le2 n (fun k _ => by split <;> omega)
  rw [sm_one] at h
  exact h
theorem ps_new {sz : Nat → Nat} {n i : Nat} (hi : i < n) : bf sz i n = true ↔ ps sz n i < ps sz n n := by
  refine ⟨fun h => ps_lt hi h, fun h => ?_⟩
  rcases bf_tot (sz := sz) (show i ≠ n by omega) with q | q
  · exact q
  · have : ps sz n n ≤ ps sz n i := sm_le2 n (fun k _ => by
      by_cases z : bf sz k n = true
      · rw [if_pos z, if_pos (bf_trans z q)]; exact Nat.le_refl _
      · rw [if_neg z]; omega)
    omega
theorem ps_succ (sz : Nat → Nat) (n i : Nat) : ps sz (n + 1) i = ps sz n i + if bf sz n i = true then 1 else 0 := rfl
/-- f is the order of the first n -/
def OrdP (sz : Nat → Nat) (n : Nat) (f : Nat → Int32) : Prop := ∃ g : Nat → Nat, (∀ k, k < n → g k < n ∧ ps sz n (g k) = k) ∧ ∀ k, k < n → f k = nI (g k)
section OB
variable {N n0 : Nat} {sz : Nat → Nat} {sza : Nat → Int32}
theorem ord_in {cnt n : Nat} {g : Nat → Nat} (h0 : n0 < 1000) (hs : rA sza sz n0) (hsb : ∀ k, k < n0 → sz k < 100) (hn : n < n0) (hg : ∀ k, k < n → g k < n ∧ ps sz n (g k) = k) (r2 : (Nat → Int32) → (Nat → Int32) → Int32 → Int32 → Option (Nat → Int32)) :
    ∀ d t m h, t = ps sz n n + d → t ≤ n → d < m → (∀ k, k < t → h k = nI (g k)) → (∀ k, t < k → k ≤ n → h k = nI (g (k - 1))) →
      ∃ h', fX3_orderByGreatest_10 N n0 n0 r2 m h sza (nI cnt) (nI n) (nI t) = r2 h' sza (nI cnt) (nI (n + 1)) ∧ OrdP sz (n + 1) h' := by
  intro d
  induction d with
  | zero =>
    intro t m h ht htn hm h1 h2
    obtain ⟨m, rfl⟩ : ∃ z, m = z + 1 := ⟨m - 1, by omega⟩
    refine ⟨upd h t (nI n), ?_, ?_⟩
    · show gX3_orderByGreatest_10 N n0 n0 r2 (fX3_orderByGreatest_10 N n0 n0 r2 m) h sza (nI cnt) (nI n) (nI t) = _
      have h45 : gX3_orderByGreatest_45 N n0 n0 r2 h sza (nI cnt) (nI n) (nI t) = r2 (upd h t (nI n)) sza (nI cnt) (nI (n + 1)) := by
        simp (disch := omega) only [gX3_orderByGreatest_45, nz_ast, Option.bind_some, nz_let, nI_1]
      unfold gX3_orderByGreatest_10
      rw [h45]
      by_cases q : t = 0
      · subst q
        rw [if_pos (show nI 0 ≤ 0 by decide)]
      · obtain ⟨z, rfl⟩ : ∃ z, t = z + 1 := ⟨t - 1, by omega⟩
        obtain ⟨g1, g2⟩ := hg z (by omega)
        have hb : bf sz (g z) n = true := (ps_new g1).mpr (by omega)
        rw [bf_iff] at hb
        have b1 := hsb (g z) (by omega)
        have b2 := hsb n hn
        rw [if_neg (by rw [nz0]; exact nI_ge (by omega) (by omega)), nI_pred, nz_ald (by omega) (by omega), h1 z (by omega), Option.bind_some, nz_ald (by omega) (by omega), hs (g z) (by omega), Option.bind_some, nz_ald (by omega) (by omega), hs n hn, Option.bind_some, if_pos (nI_le (by omega) (by omega))]
    · refine ⟨fun k => if k < t then g k else if k = t then n else g (k - 1), fun k hk => ?_, fun k hk => ?_⟩
      · dsimp only
        by_cases a : k < t
        · rw [if_pos a]
          obtain ⟨g1, g2⟩ := hg k (by omega)
          have hb : bf sz (g k) n = true := (ps_new g1).mpr (by omega)
          refine ⟨by omega, ?_⟩
          rw [ps_succ, if_neg, g2]
          · rfl
          · rw [bf_iff] at *; omega
        · rw [if_neg a]
          by_cases c : k = t
          · rw [if_pos c]
            refine ⟨by omega, ?_⟩
            rw [ps_succ, if_neg bf_irr]
            omega
          · rw [if_neg c]
            obtain ⟨g1, g2⟩ := hg (k - 1) (by omega)
            refine ⟨by omega, ?_⟩
            have hb : ¬ bf sz (g (k - 1)) n = true := fun z => by have := (ps_new g1).mp z; omega
            rcases bf_tot (sz := sz) (show g (k - 1) ≠ n by omega) with z | z
            · exact absurd z hb
            · rw [ps_succ, if_pos z, g2]; omega
      · dsimp only
        by_cases a : k < t
        · rw [if_pos a, pk_un (by omega)]; exact h1 k a
        · rw [if_neg a]
          by_cases c : k = t
          · rw [if_pos c, c, pk_us]
          · rw [if_neg c, pk_un c]; exact h2 k (by omega) (by omega)
  | succ d ih =>
    intro t m h ht htn hm h1 h2
    obtain ⟨m, rfl⟩ : ∃ z, m = z + 1 := ⟨m - 1, by omega⟩
    obtain ⟨z, rfl⟩ : ∃ z, t = z + 1 := ⟨t - 1, by omega⟩
    obtain ⟨g1, g2⟩ := hg z (by omega)
    have hb : ¬ bf sz (g z) n = true := fun q => by have := (ps_new g1).mp q; omega
    rw [bf_iff] at hb
    have b1 := hsb (g z) (by omega)
    have b2 := hsb n hn
    obtain ⟨h', e1, e2⟩ := ih z m (upd h (z + 1) (nI (g z))) (by omega) (by omega) (by omega) (fun k hk => by rw [pk_un (by omega)]; exact h1 k (by omega)) (fun k hk1 hk2 => by
      by_cases q : k = z + 1
      · subst q; rw [pk_us]; rfl
      · rw [pk_un q]; exact h2 k (by omega) hk2)
    refine ⟨h', ?_, e2⟩
    rw [← e1]
    show gX3_orderByGreatest_10 N n0 n0 r2 (fX3_orderByGreatest_10 N n0 n0 r2 m) h sza (nI cnt) (nI n) (nI (z + 1)) = _
    unfold gX3_orderByGreatest_10
    rw [if_neg (by rw [nz0]; exact nI_ge (by omega) (by omega)), nI_pred, nz_ald (by omega) (by omega), h1 z (by omega), Option.bind_some, nz_ald (by omega) (by omega), hs (g z) (by omega), Option.bind_some, nz_ald (by omega) (by omega), hs n hn, Option.bind_some, if_neg (nI_ge (by omega) (by omega)), Option.bind_some, nz_ast (by omega) (by omega), Option.bind_some, nz_let, pk_m1]
theorem ord_out {cnt : Nat} (h0 : n0 < 1000) (hN : n0 < N) (hs : rA sza sz n0) (hsb : ∀ k, k < n0 → sz k < 100) (hc : cnt ≤ n0) :
    ∀ d n m h, n + d = cnt → d < m → OrdP sz n h → ∃ h', fX3_orderByGreatest_2 N n0 n0 m h sza (nI cnt) (nI n) = some h' ∧ OrdP sz cnt h' := by
  intro d
  induction d with
  | zero =>
    intro n m h h1 h2 h3
    obtain ⟨m, rfl⟩ : ∃ z, m = z + 1 := ⟨m - 1, by omega⟩
    refine ⟨h, ?_, by rw [← h1]; exact h3⟩
    show gX3_orderByGreatest_2 N n0 n0 (fX3_orderByGreatest_2 N n0 n0 m) h sza (nI cnt) (nI n) = _
    unfold gX3_orderByGreatest_2
    rw [if_pos (nI_le (by omega) (by omega))]
  | succ d ih =>
    intro n m h h1 h2 h3
    obtain ⟨m, rfl⟩ : ∃ z, m = z + 1 := ⟨m - 1, by omega⟩
    obtain ⟨g, hg1, hg2⟩ := h3
    have hq := ps_le (sz := sz) (n := n) (i := n)
    obtain ⟨h', e1, e2⟩ := ord_in (N := N) (cnt := cnt) h0 hs hsb (show n < n0 by omega) hg1 (fX3_orderByGreatest_2 N n0 n0 m) (n - ps sz n n) n N h (by omega) (Nat.le_refl _) (by omega) hg2 (fun k a b => by omega)
    obtain ⟨h'', e3, e4⟩ := ih (n + 1) m h' (by omega) (by omega) e2
    refine ⟨h'', ?_, e4⟩
    rw [← e3, ← e1]
    show gX3_orderByGreatest_2 N n0 n0 (fX3_orderByGreatest_2 N n0 n0 m) h sza (nI cnt) (nI n) = _
    unfold gX3_orderByGreatest_2
    rw [if_neg (nI_ge (by omega) (by omega))]
theorem ord_eq {cnt : Nat} (h0 : n0 < 1000) (hN : n0 < N) (hs : rA sza sz n0) (hsb : ∀ k, k < n0 → sz k < 100) (hc : cnt ≤ n0) (h : Nat → Int32) : ∃ h', fX3_orderByGreatest N n0 n0 h sza (nI cnt) = some h' ∧ OrdP sz cnt h' :=
  ord_out h0 hN hs hsb hc cnt 0 N h (by omega) (by omega) ⟨fun k => k, fun k hk => by omega, fun k hk => by omega⟩
end OB
/-! Arrays.fill -/
def fil (f : Nat → Int32) (n : Nat) (v : Int32) : Nat → Int32 := fun j => if j < n then v else f j
theorem fill_loop {N n : Nat} (hn : n < 1000) {v : Int32} : ∀ d k m f g, k + d = n → d < m → (∀ j, j < k → g j = v) → (∀ j, ¬ j < k → g j = f j) → fJ7_fill_53178_5 N n m g v (nI k) (Int32.ofNat n) = some (fil f n v) := by
  intro d
  induction d with
  | zero =>
    intro k m f g h1 h2 h3 h4
    obtain ⟨m, rfl⟩ : ∃ z, m = z + 1 := ⟨m - 1, by omega⟩
    show gJ7_fill_53178_5 N n (fJ7_fill_53178_5 N n m) g v (nI k) (nI n) = _
    unfold gJ7_fill_53178_5
    rw [if_pos (nI_le (by omega) (by omega))]
    congr 1
    funext j
    unfold fil
    by_cases q : j < n
    · rw [if_pos q]; exact h3 j (by omega)
    · rw [if_neg q]; exact h4 j (by omega)
  | succ d ih =>
    intro k m f g h1 h2 h3 h4
    obtain ⟨m, rfl⟩ : ∃ z, m = z + 1 := ⟨m - 1, by omega⟩
    show gJ7_fill_53178_5 N n (fJ7_fill_53178_5 N n m) g v (nI k) (nI n) = _
    unfold gJ7_fill_53178_5
    rw [if_neg (nI_ge (by omega) (by omega)), nz_ast (by omega) (by omega), Option.bind_some, nz_let, nI_1]
    exact ih (k + 1) m f _ (by omega) (by omega) (fun j hj => by
      by_cases q : j = k
      · subst q; rw [pk_us]
      · rw [pk_un q]; exact h3 j (by omega)) (fun j hj => by rw [pk_un (by omega)]; exact h4 j (by omega))
theorem fill_eq {N n : Nat} (hn : n < 1000) (hN : n < N) (f : Nat → Int32) (v : Int32) : fJ7_fill_53178 N n f v = some (fil f n v) :=
  fill_loop hn n 0 N f f (by omega) (by omega) (fun j hj => by omega) (fun _ _ => rfl)
theorem fil_in {f : Nat → Int32} {n j : Nat} {v : Int32} (h : j < n) : fil f n v j = v := by unfold fil; rw [if_pos h]
