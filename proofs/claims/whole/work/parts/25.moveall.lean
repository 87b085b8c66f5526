/-! the reference's moves; all moves; that they end -/
abbrev HM : Type := (Nat → Nat) × (Nat → Nat)
def stp (np nc held : Nat) (nw wa pl ev : Nat → Nat) (W : Nat → Nat → Nat) (s : HM) : Option HM := match fst2 (cm np nc held nw wa pl ev W s.1) nw np 0 with
  | none => none
  | some (p, k) => some (va_up s.1 p (mvm ev nc (s.1 p) (W p k)), va_up s.2 p (s.2 p + 1))
def mus (np nc held : Nat) (nw wa pl ev : Nat → Nat) (W : Nat → Nat → Nat) : Nat → HM → HM
  | 0, s => s
  | n + 1, s => match stp np nc held nw wa pl ev W s with
    | none => s
    | some s' => mus np nc held nw wa pl ev W n s'
section MA
variable {N np nc held : Nat} {nw wa pl ev mv hs : Nat → Nat} {W : Nat → Nat → Nat} {wc wi tk pla has eva wnt mva ps hl cs wka : Nat → Int32} {mia : Int32}
theorem om_in (hN : 40 < N) (hE : Env0 np nc held nw wa pl ev W) (hps : ps 0 = nI np) (hcs : cs 0 = nI nc) (hhl : hl 0 = nI held) (hwc : rA wc nw 30) (hwi : rW wi W) (hpl : rA pla pl 10) (hh : rA has hs 30) (hma : ∀ p, p < 30 → hs p < 1024) (hev : rA eva ev 10) (hwn : rA wnt wa 30) (hmv : rA mva mv 30) {p : Nat} (hp : p < np) (r2 : (Nat → Int32) → (Nat → Int32) → (Nat → Int32) → (Nat → Int32) → (Nat → Int32) → (Nat → Int32) → (Nat → Int32) → (Nat → Int32) → (Nat → Int32) → (Nat → Int32) → Int32 → Option (Int32 × (Nat → Int32) × (Nat → Int32))) :
    ∀ d k n, k + d = nw p → d < n → fX11_oneMoves_14 N r2 n ps wc wi has hl eva cs wnt pla mva (nI p) (nI k) = match fst1 (cm np nc held nw wa pl ev W hs p) d k with
      | some k' => some (1, upd (upd has p (nI (hs p ||| 2 ^ W p k'))) p (nI (mvm ev nc (hs p) (W p k'))), upd mva p (nI (mv p + 1)))
      | none => r2 ps wc wi has hl eva cs wnt pla mva (nI (p + 1)) := by
  have hE0 := hE
  obtain ⟨e1, e2, e3, e4, e5, e6⟩ := hE
  have hp3 : p < 30 := by omega
  obtain ⟨e7, e8⟩ := e4 p hp3
  intro d
  induction d with
  | zero =>
    intro k n h1 h2
    obtain ⟨n, rfl⟩ : ∃ z, n = z + 1 := ⟨n - 1, by omega⟩
    show gX11_oneMoves_14 N r2 (fX11_oneMoves_14 N r2 n) ps wc wi has hl eva cs wnt pla mva (nI p) (nI k) = r2 _ _ _ _ _ _ _ _ _ _ _
    unfold gX11_oneMoves_14
    rw [nz_ald (by omega) (by omega), hwc p hp3, Option.bind_some, if_pos (nI_le (by omega) (by omega)), nz_let, nI_1]
  | succ d ih =>
    intro k n h1 h2
    obtain ⟨n, rfl⟩ : ∃ z, n = z + 1 := ⟨n - 1, by omega⟩
    show gX11_oneMoves_14 N r2 (fX11_oneMoves_14 N r2 n) ps wc wi has hl eva cs wnt pla mva (nI p) (nI k) = _
    have hc := e5 p hp3 k (by omega)
    have hw1 := hwi p hp3 k (by omega)
    rw [Nat.mul_comm] at hw1
    have hcr : ns_ald wi 720 (6 * nI p + nI k) = some (nI (W p k)) := by
      simp (disch := omega) only [nz6, pk_mul, nI_add, nz_ald, hw1]
    have hm := hma p hp3
    have hrs := reason_eq (N := N) (p := p) (c := W p k) (W := W p) (by omega) hp3 hc hh hma rfl (hwc p hp3) e7 (fun j hj => hwi p hp3 j (by omega)) (e5 p hp3) e3 hhl hev (fun i hi => (e6 i hi).1) hcs e2 hps e1 (hwn p hp3) e8 hpl (fun i hi => (e6 i hi).2)
    have hon := on_eq (N := N) (by omega) hp3 (hh p hp3) hm hev (fun i hi => (e6 i hi).1) hcs e2 (e6 _ hc).1
    have hb5 : rs5 (hs p) (nw p) (W p) held ev nc (wa p) (W p k) < 100 := by
      unfold rs5
      repeat' split
      all_goals omega
    have h95 : ∀ (has : Nat → Int32) (x y z : Int32), gX11_oneMoves_95 N r2 (fX11_oneMoves_14 N r2 n) ps wc wi has hl eva cs wnt pla mva (nI p) (nI p) x y = some (1, upd has p (x &&& y), upd mva p (nI (mv p + 1))) := by
      intro has x y z
      simp (disch := omega) only [gX11_oneMoves_95, nz_ald, nz_ast, Option.bind_some, hmv p hp3, nI_1]
    unfold gX11_oneMoves_14 fst1
    rw [nz_ald (by omega) (by omega), hwc p hp3, Option.bind_some, if_neg (nI_ge (by omega) (by omega)), hcr, Option.bind_some, hrs, Option.bind_some]
    by_cases a : rs5 (hs p) (nw p) (W p) held ev nc (wa p) (W p k) = 5 ∧ cnt hs (W p k) np < pl (W p k)
    · have hno : ¬ (hs p).testBit (W p k) = true := fun q => by
        have := a.1
        unfold rs5 at this
        rw [if_pos q] at this
        omega
      have e9 : r56 (rs5 (hs p) (nw p) (W p) held ev nc (wa p) (W p k)) (cnt hs (W p k) np) (pl (W p k)) = 6 := by
        unfold r56; rw [if_pos a.1, if_pos a.2]
      have ecm : cm np nc held nw wa pl ev W hs p k = true := by unfold cm; rw [decide_eq_true_eq]; exact a
      rw [e9, if_pos (show nI 6 = 6 from rfl), if_pos ecm, nz_ald (by omega) (by omega), hev _ hc, Option.bind_some, hon, Option.bind_some, nz_ald (by omega) (by omega), hh p hp3, Option.bind_some, bt_or _ hc _ hm, nz_ast (by omega) (by omega), Option.bind_some, nz_ald (by omega) (by omega), pk_us, Option.bind_some]
      dsimp only
      unfold mvm
      cases ho : onN ev (hs p) (ev (W p k)) nc 0 with
      | none =>
        rw [if_pos (show oI none = -1 from rfl), h95 _ _ _ 0, bt_all _ (or_lt hm hc)]
      | some o =>
        obtain ⟨-, ho1, -, ho2⟩ := onN_lt _ _ _ ho
        have hoc : o ≠ W p k := fun q => hno (by rw [← q]; exact ho2)
        rw [if_neg (by rw [show oI (some o) = nI o from rfl, nz_m1, nz_eqM (by omega)]; exact fun q => q), show oI (some o) = nI o from rfl, h95 _ _ _ 0, bt_clr o (by omega) _ (or_lt hm hc), clr_or hoc]
    · have e9 : r56 (rs5 (hs p) (nw p) (W p) held ev nc (wa p) (W p k)) (cnt hs (W p k) np) (pl (W p k)) ≠ 6 := by
        unfold r56
        by_cases b : rs5 (hs p) (nw p) (W p) held ev nc (wa p) (W p k) = 5
        · rw [if_pos b, if_neg (fun q => a ⟨b, q⟩)]; decide
        · rw [if_neg b]
          unfold rs5
          repeat' split
          all_goals decide
      have e10 : r56 (rs5 (hs p) (nw p) (W p) held ev nc (wa p) (W p k)) (cnt hs (W p k) np) (pl (W p k)) < 100 := by
        unfold r56
        repeat' split
        all_goals omega
      have ecm : ¬ cm np nc held nw wa pl ev W hs p k = true := by unfold cm; rw [decide_eq_true_eq]; exact a
      rw [if_neg (by rw [nz6, nz_eq (by omega) (by omega)]; exact e9), if_neg ecm, nz_let, nI_1, ih (k + 1) n (by omega) (by omega)]
theorem om_out (hN : 40 < N) (hE : Env0 np nc held nw wa pl ev W) (hps : ps 0 = nI np) (hcs : cs 0 = nI nc) (hhl : hl 0 = nI held) (hwc : rA wc nw 30) (hwi : rW wi W) (hpl : rA pla pl 10) (hh : rA has hs 30) (hma : ∀ p, p < 30 → hs p < 1024) (hev : rA eva ev 10) (hwn : rA wnt wa 30) (hmv : rA mva mv 30) :
    ∀ d p n, p + d = np → d < n → fX11_oneMoves_2 N n ps wc wi has hl eva cs wnt pla mva (nI p) = match fst2 (cm np nc held nw wa pl ev W hs) nw d p with
      | some (p', k') => some (1, upd (upd has p' (nI (hs p' ||| 2 ^ W p' k'))) p' (nI (mvm ev nc (hs p') (W p' k'))), upd mva p' (nI (mv p' + 1)))
      | none => some (0, has, mva) := by
  intro d
  have e1 := hE.1
  have h0 : ns_ald ps 4 0 = some (nI np) := by rw [nz0, nz_ald (by omega) (by omega), hps]
  induction d with
  | zero =>
    intro p n h1 h2
    obtain ⟨n, rfl⟩ : ∃ z, n = z + 1 := ⟨n - 1, by omega⟩
    show gX11_oneMoves_2 N (fX11_oneMoves_2 N n) ps wc wi has hl eva cs wnt pla mva (nI p) = some _
    unfold gX11_oneMoves_2
    rw [h0, Option.bind_some, if_pos (nI_le (by omega) (by omega))]
  | succ d ih =>
    intro p n h1 h2
    obtain ⟨n, rfl⟩ : ∃ z, n = z + 1 := ⟨n - 1, by omega⟩
    show gX11_oneMoves_2 N (fX11_oneMoves_2 N n) ps wc wi has hl eva cs wnt pla mva (nI p) = _
    have e7 := (hE.2.2.2.1 p (by omega)).1
    unfold gX11_oneMoves_2 fst2
    rw [h0, Option.bind_some, if_neg (nI_ge (by omega) (by omega)), nz0, om_in hN hE hps hcs hhl hwc hwi hpl hh hma hev hwn hmv (p := p) (by omega) _ (nw p) 0 N (by omega) (by omega)]
    cases fst1 (cm np nc held nw wa pl ev W hs p) (nw p) 0 with
    | some k => rfl
    | none => exact ih (p + 1) n (by omega) (by omega)
/-! that moving ends: points grow -/
def pp (n : Nat) (Wp : Nat → Nat) (m : Nat) : Nat := sm (fun k => if m.testBit (Wp k) = true then 6 - k else 0) n
theorem pp_grows {m n wan k : Nat} {Wp : Nat → Nat} (hn : n ≤ 6) (hk : k < n) (hinj : ∀ i j, i < n → j < n → Wp i = Wp j → i = j) (h5 : rs5 m n Wp held ev nc wan (Wp k) = 5) : pp n Wp m < pp n Wp (mvm ev nc m (Wp k)) := by
  unfold rs5 at h5
  split at h5
  · omega
  rename_i hno
  cases hr : rkN Wp (Wp k) n 0 with
  | none => rw [hr] at h5; simp at h5
  | some r =>
    rw [hr] at h5
    obtain ⟨-, hr1, hr2⟩ := rkN_lt _ _ _ hr
    have hrk : r = k := hinj r k (by omega) hk hr2
    subst hrk
    dsimp only at h5
    split at h5
    · unfold mvm
      cases ho : onN ev m (ev (Wp r)) nc 0 with
      | none =>
        dsimp only
        have e : pp n Wp (m ||| 2 ^ Wp r) = sm (va_up (fun k => if m.testBit (Wp k) = true then 6 - k else 0) r (6 - r)) n := by
          refine sm_congr n fun j hj => ?_
          by_cases q : j = r
          · subst q
            rw [va_up_self, tb_or]
            simp
          · rw [va_up_ne _ _ q, tb_or]
            have : ¬ Wp r = Wp j := fun z => q (hinj r j (by omega) hj z).symm
            simp [this]
        have e2 := sm_up (f := fun k => if m.testBit (Wp k) = true then 6 - k else 0) (v := 6 - r) n hk
        try dsimp only at e2
        rw [if_neg hno] at e2
        rw [e]
        unfold pp
        omega
      | some o =>
        rw [ho] at h5
        dsimp only at h5 ⊢
        obtain ⟨-, -, -, ho2⟩ := onN_lt _ _ _ ho
        have hoc : o ≠ Wp r := fun q => hno (by rw [← q]; exact ho2)
        cases hq : rkN Wp o n 0 with
        | none =>
          rw [hq] at h5
          have : ¬ ((r : Int) ≤ rkv none) := by show ¬ (r : Int) ≤ -1; omega
          rw [if_neg this] at h5
          omega
        | some r' =>
          rw [hq] at h5
          obtain ⟨-, hq1, hq2⟩ := rkN_lt _ _ _ hq
          have hle : (r : Int) ≤ rkv (some r') := by
            by_cases z : (r : Int) ≤ rkv (some r')
            · exact z
            · rw [if_neg z] at h5; omega
          have hle : (r : Int) ≤ (r' : Int) := hle
          have hne : r' ≠ r := fun z => hoc (by rw [← hq2, z])
          have e : pp n Wp (clr m o ||| 2 ^ Wp r) = sm (va_up (va_up (fun k => if m.testBit (Wp k) = true then 6 - k else 0) r' 0) r (6 - r)) n := by
            refine sm_congr n fun j hj => ?_
            by_cases q : j = r
            · subst q
              rw [va_up_self, tb_or]
              simp
            · have q1 : ¬ Wp r = Wp j := fun z => q (hinj r j (by omega) hj z).symm
              rw [va_up_ne _ _ q, tb_or, tb_clr]
              by_cases q2 : j = r'
              · subst q2
                rw [va_up_self]
                simp [hq2, Ne.symm hoc]
              · have q3 : ¬ o = Wp j := fun z => q2 (hinj j r' hj (by omega) (by rw [hq2, z]))
                rw [va_up_ne _ _ q2]
                simp [q1, q3]
          have e2 := sm_up (f := va_up (fun k => if m.testBit (Wp k) = true then 6 - k else 0) r' 0) (v := 6 - r) n hk
          have e3 := sm_up (f := fun k => if m.testBit (Wp k) = true then 6 - k else 0) (v := 0) n (show r' < n by omega)
          rw [va_up_ne _ _ (Ne.symm hne)] at e2
          try dsimp only at e2
          try dsimp only at e3
          rw [if_neg hno] at e2
          rw [hq2, if_pos ho2] at e3
          rw [e]
          unfold pp
          omega
    · omega
def phi (np : Nat) (nw : Nat → Nat) (W : Nat → Nat → Nat) (hs : Nat → Nat) : Nat := sm (fun p => pp (nw p) (W p) (hs p)) np
theorem stp_grows (hE : Env0 np nc held nw wa pl ev W) (hinj : ∀ p, p < 30 → ∀ i j, i < nw p → j < nw p → W p i = W p j → i = j) {s s' : HM} (h : stp np nc held nw wa pl ev W s = some s') : phi np nw W s.1 < phi np nw W s'.1 := by
  unfold stp at h
  split at h
  · cases h
  · rename_i p k hf
    cases h
    obtain ⟨-, h1, h2, h3⟩ := fst2_some _ _ _ _ hf
    unfold cm at h3
    rw [decide_eq_true_eq] at h3
    have hp3 : p < 30 := by have := hE.1; omega
    have g := pp_grows (hE.2.2.2.1 p hp3).1 h2 (hinj p hp3) h3.1
    unfold phi
    have e : sm (fun q => pp (nw q) (W q) (va_up s.1 p (mvm ev nc (s.1 p) (W p k)) q)) np = sm (va_up (fun q => pp (nw q) (W q) (s.1 q)) p (pp (nw p) (W p) (mvm ev nc (s.1 p) (W p k)))) np := by
      refine sm_congr np fun j hj => ?_
      by_cases q : j = p
      · subst q; rw [va_up_self, va_up_self]
      · rw [va_up_ne _ _ q, va_up_ne _ _ q]
    have e2 := sm_up (f := fun q => pp (nw q) (W q) (s.1 q)) (a := p) (v := pp (nw p) (W p) (mvm ev nc (s.1 p) (W p k))) np (by omega)
    try dsimp only at e2
    try dsimp only
    rw [e]
    omega
theorem phi_le (hE : Env0 np nc held nw wa pl ev W) (hs : Nat → Nat) : phi np nw W hs ≤ 1080 := by
  have h1 : phi np nw W hs ≤ np * 36 := sm_le np fun p hp => by
    have hp3 : p < 30 := by have := hE.1; omega
    have := (hE.2.2.2.1 p hp3).1
    have h2 : pp (nw p) (W p) (hs p) ≤ nw p * 6 := sm_le _ fun k _ => by split <;> omega
    omega
  have := hE.1
  omega
theorem mus_end (hE : Env0 np nc held nw wa pl ev W) (hinj : ∀ p, p < 30 → ∀ i j, i < nw p → j < nw p → W p i = W p j → i = j) : ∀ d (s : HM), 1080 ≤ phi np nw W s.1 + d → stp np nc held nw wa pl ev W (mus np nc held nw wa pl ev W d s) = none := by
  intro d
  induction d with
  | zero =>
    intro s h
    show stp np nc held nw wa pl ev W s = none
    cases hq : stp np nc held nw wa pl ev W s with
    | none => rfl
    | some s' =>
      have h1 := stp_grows hE hinj hq
      have h2 := phi_le hE s'.1
      omega
  | succ d ih =>
    intro s h
    unfold mus
    cases hq : stp np nc held nw wa pl ev W s with
    | none => exact hq
    | some s' =>
      have h1 := stp_grows hE hinj hq
      exact ih s' (by omega)
end MA
