/-! moveUp: class and reference come to one state -/
section MB
variable {N np nc held : Nat} {nw wa pl ev : Nat → Nat} {W : Nat → Nat → Nat} {wc wi pla eva wnt ps hl cs wka : Nat → Int32}
theorem nz10000 : (10000 : Int32) = nI 10000 := rfl
theorem mvm_all {hs : Nat → Nat} {p m : Nat} (hma : ∀ p, p < 30 → hs p < 1024) (hm : m < 1024) : ∀ q, q < 30 → va_up hs p m q < 1024 := fun q hq => by
  by_cases z : q = p
  · subst z; rw [va_up_self]; exact hm
  · rw [va_up_ne _ _ z]; exact hma q hq
theorem moveUp_loop (hN : 20000 ≤ N) (hE : Env0 np nc held nw wa pl ev W) (hwc : rA wc nw 30) (hwi : rW wi W) (hpl : rA pla pl 10) (hev : rA eva ev 10) (hwn : rA wnt wa 30) :
    ∀ j i n (hs mv : Nat → Nat) (has tk mva : Nat → Int32), rA has hs 30 → (∀ p, p < 30 → hs p < 1024) → rA tk (fun c => cnt hs c np) 10 → rA mva mv 30 → stp np nc held nw wa pl ev W (mus np nc held nw wa pl ev W j (hs, mv)) = none → i + j + 2 ≤ 10000 → j + 2 < n →
      ∃ has' tk' mva' : Nat → Int32, fX6_moveUp_4 N n (nI np) wc wi tk pla has (nI held) eva (nI nc) wnt mva (nI (sm mv np)) 1 (nI i) = some (has', tk', mva', nI (sm (mus np nc held nw wa pl ev W j (hs, mv)).2 np)) ∧ rA has' (mus np nc held nw wa pl ev W j (hs, mv)).1 30 ∧ (∀ p, p < 30 → (mus np nc held nw wa pl ev W j (hs, mv)).1 p < 1024) ∧ rA tk' (fun c => cnt (mus np nc held nw wa pl ev W j (hs, mv)).1 c np) 10 ∧ rA mva' (mus np nc held nw wa pl ev W j (hs, mv)).2 30 := by
  intro j
  have done : ∀ (n : Nat) (has tk mva : Nat → Int32) (mia x : Int32), fX6_moveUp_4 N (n + 1) (nI np) wc wi tk pla has (nI held) eva (nI nc) wnt mva mia 0 x = some (has, tk, mva, mia) := by
    intro n has tk mva mia x
    show gX6_moveUp_4 N (fX6_moveUp_4 N n) (nI np) wc wi tk pla has (nI held) eva (nI nc) wnt mva mia 0 x = _
    unfold gX6_moveUp_4
    rw [if_pos rfl]
  induction j with
  | zero =>
    intro i n hs mv has tk mva hh hma htk hmv hend hi hn
    obtain ⟨n, rfl⟩ : ∃ z, n = z + 2 := ⟨n - 2, by omega⟩
    refine ⟨has, tk, mva, ?_, hh, hma, htk, hmv⟩
    show gX6_moveUp_4 N (fX6_moveUp_4 N (n + 1)) (nI np) wc wi tk pla has (nI held) eva (nI nc) wnt mva (nI (sm mv np)) 1 (nI i) = _
    unfold gX6_moveUp_4 fX6_moveFirstPupil
    have hf : fst2 (cm np nc held nw wa pl ev W hs) nw np 0 = none := by
      have h : stp np nc held nw wa pl ev W (hs, mv) = none := hend
      unfold stp at h
      split at h
      · assumption
      · cases h
    rw [if_neg (by decide), if_neg (by rw [nz10000]; exact nI_ge (by omega) (by omega)), show (0 : Int32) = nI 0 from rfl, mfp_out (by omega) hE hwc hwi htk hpl hh hma hev hwn np 0 N (by omega) (by have := hE.1; omega), hf]
    simp only [Option.bind_some, nz_let]
    exact done n has tk mva _ _
  | succ j ih =>
    intro i n hs mv has tk mva hh hma htk hmv hend hi hn
    obtain ⟨n, rfl⟩ : ∃ z, n = z + 2 := ⟨n - 2, by omega⟩
    have hmf := mfp_out (N := N) (mva := mva) (mia := nI (sm mv np)) (by omega) hE hwc hwi htk hpl hh hma hev hwn np 0 N (by omega) (by have := hE.1; omega)
    cases hf : fst2 (cm np nc held nw wa pl ev W hs) nw np 0 with
    | none =>
      have hst : stp np nc held nw wa pl ev W (hs, mv) = none := by unfold stp; rw [hf]
      have hmu : mus np nc held nw wa pl ev W (j + 1) (hs, mv) = (hs, mv) := by unfold mus; rw [hst]
      rw [hmu]
      refine ⟨has, tk, mva, ?_, hh, hma, htk, hmv⟩
      show gX6_moveUp_4 N (fX6_moveUp_4 N (n + 1)) (nI np) wc wi tk pla has (nI held) eva (nI nc) wnt mva (nI (sm mv np)) 1 (nI i) = _
      unfold gX6_moveUp_4 fX6_moveFirstPupil
      rw [if_neg (by decide), if_neg (by rw [nz10000]; exact nI_ge (by omega) (by omega)), show (0 : Int32) = nI 0 from rfl, hmf, hf]
      simp only [Option.bind_some, nz_let]
      exact done n has tk mva _ _
    | some pk =>
      obtain ⟨p, k⟩ := pk
      obtain ⟨-, h1, h2, h3⟩ := fst2_some _ _ _ _ hf
      have hp3 : p < 30 := by have := hE.1; omega
      have hc := hE.2.2.2.2.1 p hp3 k h2
      unfold cm at h3
      rw [decide_eq_true_eq] at h3
      have hno : ¬ (hs p).testBit (W p k) = true := fun q => by
        have := h3.1
        unfold rs5 at this
        rw [if_pos q] at this
        omega
      have hst : stp np nc held nw wa pl ev W (hs, mv) = some (va_up hs p (mvm ev nc (hs p) (W p k)), va_up mv p (mv p + 1)) := by unfold stp; rw [hf]
      have hmu : mus np nc held nw wa pl ev W (j + 1) (hs, mv) = mus np nc held nw wa pl ev W j (va_up hs p (mvm ev nc (hs p) (W p k)), va_up mv p (mv p + 1)) := by
        show (match stp np nc held nw wa pl ev W (hs, mv) with | none => _ | some s' => mus np nc held nw wa pl ev W j s') = _
        rw [hst]
      rw [hmu] at hend ⊢
      obtain ⟨has', tk', mva', g1, g2, g3, g4⟩ := moveInto_eq (N := N) (mia := nI (sm mv np)) (by omega) (show p < np by omega) hE.1 hc hh hma rfl htk hmv hev (fun i hi => (hE.2.2.2.2.2 i hi).1) hE.2.1 hno
      obtain ⟨a1, a2, a3, b1, b2, b3, b4, b5⟩ := ih (i + 1) (n + 1) (va_up hs p (mvm ev nc (hs p) (W p k))) (va_up mv p (mv p + 1)) has' tk' mva' g2 (mvm_all hma (mvm_lt (hma p hp3) hc)) g3 g4 hend (by omega) (by omega)
      refine ⟨a1, a2, a3, ?_, b2, b3, b4, b5⟩
      rw [← b1]
      show gX6_moveUp_4 N (fX6_moveUp_4 N (n + 1)) (nI np) wc wi tk pla has (nI held) eva (nI nc) wnt mva (nI (sm mv np)) 1 (nI i) = _
      unfold gX6_moveUp_4 fX6_moveFirstPupil
      have e2 := sm_up (f := mv) (a := p) (v := mv p + 1) np (by omega)
      rw [if_neg (by decide), if_neg (by rw [nz10000]; exact nI_ge (by omega) (by omega)), show (0 : Int32) = nI 0 from rfl, hmf, hf]
      dsimp only
      rw [g1]
      simp only [Option.bind_some, nz_let, nI_1]
      rw [show sm (va_up mv p (mv p + 1)) np = sm mv np + 1 by omega]
theorem moveUp_eq (hN : 20000 ≤ N) (hE : Env0 np nc held nw wa pl ev W) (hinj : ∀ p, p < 30 → ∀ i j, i < nw p → j < nw p → W p i = W p j → i = j) (hwc : rA wc nw 30) (hwi : rW wi W) (hpl : rA pla pl 10) (hev : rA eva ev 10) (hwn : rA wnt wa 30) {hs mv : Nat → Nat} {has tk mva : Nat → Int32} (hh : rA has hs 30) (hma : ∀ p, p < 30 → hs p < 1024) (htk : rA tk (fun c => cnt hs c np) 10) (hmv : rA mva mv 30) :
    ∃ has' tk' mva' : Nat → Int32, fX6_moveUp N (nI np) wc wi tk pla has (nI held) eva (nI nc) wnt mva (nI (sm mv np)) = some (has', tk', mva', nI (sm (mus np nc held nw wa pl ev W 1080 (hs, mv)).2 np)) ∧ rA has' (mus np nc held nw wa pl ev W 1080 (hs, mv)).1 30 ∧ (∀ p, p < 30 → (mus np nc held nw wa pl ev W 1080 (hs, mv)).1 p < 1024) ∧ rA tk' (fun c => cnt (mus np nc held nw wa pl ev W 1080 (hs, mv)).1 c np) 10 ∧ rA mva' (mus np nc held nw wa pl ev W 1080 (hs, mv)).2 30 :=
  moveUp_loop hN hE hwc hwi hpl hev hwn 1080 0 N hs mv has tk mva hh hma htk hmv (mus_end hE hinj 1080 _ (by omega)) (by omega) (by omega)
/-- beyond n nothing has changed -/
def kp (f f' : Nat → Int32) (n : Nat) : Prop := ∀ j, n ≤ j → f' j = f j
theorem kp.rf {f : Nat → Int32} {n : Nat} : kp f f n := fun _ _ => rfl
theorem kp.tr {f g h : Nat → Int32} {n : Nat} (h1 : kp f g n) (h2 : kp g h n) : kp f h n := fun j hj => (h2 j hj).trans (h1 j hj)
theorem kp.up {f : Nat → Int32} {n k : Nat} {v : Int32} (h : k < n) : kp f (upd f k v) n := fun j hj => pk_un (by omega)
theorem moveUpR_loop (hN : 20000 ≤ N) (hE : Env0 np nc held nw wa pl ev W) (hps : ps 0 = nI np) (hcs : cs 0 = nI nc) (hhl : hl 0 = nI held) (hwc : rA wc nw 30) (hwi : rW wi W) (hpl : rA pla pl 10) (hev : rA eva ev 10) (hwn : rA wnt wa 30) :
    ∀ j n (hs mv : Nat → Nat) (has mva : Nat → Int32), rA has hs 30 → (∀ p, p < 30 → hs p < 1024) → rA mva mv 30 → stp np nc held nw wa pl ev W (mus np nc held nw wa pl ev W j (hs, mv)) = none → j + 2 < n →
      ∃ has' mva' : Nat → Int32, fX11_moveUp_16 N n wka ps wc wi has hl eva cs wnt pla mva 1 = some (has', mva') ∧ rA has' (mus np nc held nw wa pl ev W j (hs, mv)).1 30 ∧ rA mva' (mus np nc held nw wa pl ev W j (hs, mv)).2 30 ∧ kp has has' 30 ∧ kp mva mva' 30 := by
  intro j
  have done : ∀ (n : Nat) (has mva : Nat → Int32), fX11_moveUp_16 N (n + 1) wka ps wc wi has hl eva cs wnt pla mva 0 = some (has, mva) := by
    intro n has mva
    show gX11_moveUp_16 N (fX11_moveUp_16 N n) wka ps wc wi has hl eva cs wnt pla mva 0 = _
    unfold gX11_moveUp_16
    rw [if_pos rfl]
  induction j with
  | zero =>
    intro n hs mv has mva hh hma hmv hend hn
    obtain ⟨n, rfl⟩ : ∃ z, n = z + 2 := ⟨n - 2, by omega⟩
    refine ⟨has, mva, ?_, hh, hmv, kp.rf, kp.rf⟩
    show gX11_moveUp_16 N (fX11_moveUp_16 N (n + 1)) wka ps wc wi has hl eva cs wnt pla mva 1 = _
    unfold gX11_moveUp_16 fX11_oneMoves
    have hf : fst2 (cm np nc held nw wa pl ev W hs) nw np 0 = none := by
      have h : stp np nc held nw wa pl ev W (hs, mv) = none := hend
      unfold stp at h
      split at h
      · assumption
      · cases h
    rw [if_neg (by decide), show (0 : Int32) = nI 0 from rfl, om_out (by omega) hE hps hcs hhl hwc hwi hpl hh hma hev hwn hmv np 0 N (by omega) (by have := hE.1; omega), hf]
    simp only [Option.bind_some]
    exact done n has mva
  | succ j ih =>
    intro n hs mv has mva hh hma hmv hend hn
    obtain ⟨n, rfl⟩ : ∃ z, n = z + 2 := ⟨n - 2, by omega⟩
    have hmf := om_out (N := N) (by omega) hE hps hcs hhl hwc hwi hpl hh hma hev hwn hmv np 0 N (by omega) (by have := hE.1; omega)
    cases hf : fst2 (cm np nc held nw wa pl ev W hs) nw np 0 with
    | none =>
      have hst : stp np nc held nw wa pl ev W (hs, mv) = none := by unfold stp; rw [hf]
      have hmu : mus np nc held nw wa pl ev W (j + 1) (hs, mv) = (hs, mv) := by unfold mus; rw [hst]
      rw [hmu]
      refine ⟨has, mva, ?_, hh, hmv, kp.rf, kp.rf⟩
      show gX11_moveUp_16 N (fX11_moveUp_16 N (n + 1)) wka ps wc wi has hl eva cs wnt pla mva 1 = _
      unfold gX11_moveUp_16 fX11_oneMoves
      rw [if_neg (by decide), show (0 : Int32) = nI 0 from rfl, hmf, hf]
      simp only [Option.bind_some]
      exact done n has mva
    | some pk =>
      obtain ⟨p, k⟩ := pk
      obtain ⟨-, h1, h2, h3⟩ := fst2_some _ _ _ _ hf
      have hp3 : p < 30 := by have := hE.1; omega
      have hc := hE.2.2.2.2.1 p hp3 k h2
      have hst : stp np nc held nw wa pl ev W (hs, mv) = some (va_up hs p (mvm ev nc (hs p) (W p k)), va_up mv p (mv p + 1)) := by unfold stp; rw [hf]
      have hmu : mus np nc held nw wa pl ev W (j + 1) (hs, mv) = mus np nc held nw wa pl ev W j (va_up hs p (mvm ev nc (hs p) (W p k)), va_up mv p (mv p + 1)) := by
        show (match stp np nc held nw wa pl ev W (hs, mv) with | none => _ | some s' => mus np nc held nw wa pl ev W j s') = _
        rw [hst]
      rw [hmu] at hend ⊢
      have g2 : rA (upd (upd has p (nI (hs p ||| 2 ^ W p k))) p (nI (mvm ev nc (hs p) (W p k)))) (va_up hs p (mvm ev nc (hs p) (W p k))) 30 := by
        intro q hq
        by_cases z : q = p
        · subst z; rw [pk_us, va_up_self]
        · rw [pk_un z, pk_un z, va_up_ne _ _ z]; exact hh q hq
      obtain ⟨a1, a2, b1, b2, b3, b4, b5⟩ := ih (n + 1) (va_up hs p (mvm ev nc (hs p) (W p k))) (va_up mv p (mv p + 1)) _ _ g2 (mvm_all hma (mvm_lt (hma p hp3) hc)) (rA_upd hmv) hend (by omega)
      refine ⟨a1, a2, ?_, b2, b3, ((kp.up hp3).tr (kp.up hp3)).tr b4, (kp.up hp3).tr b5⟩
      rw [← b1]
      show gX11_moveUp_16 N (fX11_moveUp_16 N (n + 1)) wka ps wc wi has hl eva cs wnt pla mva 1 = _
      unfold gX11_moveUp_16 fX11_oneMoves
      rw [if_neg (by decide), show (0 : Int32) = nI 0 from rfl, hmf, hf]
      rfl
theorem moveUpR_on (hN : 20000 ≤ N) (hE : Env0 np nc held nw wa pl ev W) (hinj : ∀ p, p < 30 → ∀ i j, i < nw p → j < nw p → W p i = W p j → i = j) (hps : ps 0 = nI np) (hcs : cs 0 = nI nc) (hhl : hl 0 = nI held) (hwc : rA wc nw 30) (hwi : rW wi W) (hpl : rA pla pl 10) (hev : rA eva ev 10) (hwn : rA wnt wa 30) {hs mv : Nat → Nat} {has mva : Nat → Int32} (hh : rA has hs 30) (hma : ∀ p, p < 30 → hs p < 1024) (hmv : rA mva mv 30) {wk : Nat} (hwk : wka 0 = nI wk) (hwb : wk < 2 ^ 31) :
    ∃ has' mva' : Nat → Int32, fX11_moveUp N wka ps wc wi has hl eva cs wnt pla mva = some (has', mva') ∧ rA has' (mus np nc held nw wa pl ev W 1080 (hs, mv)).1 30 ∧ rA mva' (mus np nc held nw wa pl ev W 1080 (hs, mv)).2 30 ∧ kp has has' 30 ∧ kp mva mva' 30 := by
  obtain ⟨a1, a2, b1, b2⟩ := moveUpR_loop (wka := wka) hN hE hps hcs hhl hwc hwi hpl hev hwn 1080 N hs mv has mva hh hma hmv (mus_end hE hinj 1080 _ (by omega)) (by omega)
  refine ⟨a1, a2, ?_, b2⟩
  unfold fX11_moveUp
  rw [nz0, nz_ald (by omega) (by omega), hwk, Option.bind_some, if_neg (by rw [nz_m1, nz_eqM hwb]; exact fun q => q)]
  exact b1
theorem moveUpR_off (hN : 20000 ≤ N) {has mva : Nat → Int32} (hwk : wka 0 = nM) : fX11_moveUp N wka ps wc wi has hl eva cs wnt pla mva = some (has, mva) := by
  unfold fX11_moveUp
  rw [nz0, nz_ald (by omega) (by omega), hwk, Option.bind_some, if_pos (show nM = -1 from rfl)]
  obtain ⟨n, rfl⟩ : ∃ z, N = z + 1 := ⟨N - 1, by omega⟩
  show gX11_moveUp_16 (n + 1) (fX11_moveUp_16 (n + 1) n) wka ps wc wi has hl eva cs wnt pla mva (nI 0) = _
  unfold gX11_moveUp_16
  rw [if_pos (show nI 0 = 0 from rfl)]
end MB
