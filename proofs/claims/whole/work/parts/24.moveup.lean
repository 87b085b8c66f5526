/-! who moves first; moving until nobody can -/
def fst1 (P : Nat → Bool) : Nat → Nat → Option Nat
  | 0, _ => none
  | d + 1, i => if P i = true then some i else fst1 P d (i + 1)
def fst2 (P : Nat → Nat → Bool) (n : Nat → Nat) : Nat → Nat → Option (Nat × Nat)
  | 0, _ => none
  | d + 1, p => match fst1 (P p) (n p) 0 with
    | some k => some (p, k)
    | none => fst2 P n d (p + 1)
theorem fst1_some {P : Nat → Bool} : ∀ d i o, fst1 P d i = some o → i ≤ o ∧ o < i + d ∧ P o = true := by
  intro d
  induction d with
  | zero => intro i o h; cases h
  | succ d ih =>
    intro i o h
    unfold fst1 at h
    split at h
    · cases h; exact ⟨Nat.le_refl _, by omega, by assumption⟩
    · obtain ⟨h1, h2, h3⟩ := ih _ _ h
      exact ⟨by omega, by omega, h3⟩
theorem fst1_none {P : Nat → Bool} : ∀ d i, fst1 P d i = none → ∀ k, i ≤ k → k < i + d → ¬ P k = true := by
  intro d
  induction d with
  | zero => intro i _ k h1 h2; omega
  | succ d ih =>
    intro i h k h1 h2
    unfold fst1 at h
    split at h
    · cases h
    · by_cases q : k = i
      · subst q; assumption
      · exact ih _ h k (by omega) (by omega)
theorem fst2_some {P : Nat → Nat → Bool} {n : Nat → Nat} : ∀ d i p k, fst2 P n d i = some (p, k) → i ≤ p ∧ p < i + d ∧ k < n p ∧ P p k = true := by
  intro d
  induction d with
  | zero => intro i p k h; cases h
  | succ d ih =>
    intro i p k h
    unfold fst2 at h
    split at h
    · rename_i k' hk
      cases h
      obtain ⟨-, h2, h3⟩ := fst1_some _ _ _ hk
      exact ⟨Nat.le_refl _, by omega, by omega, h3⟩
    · obtain ⟨h1, h2, h3⟩ := ih _ _ _ h
      exact ⟨by omega, by omega, h3⟩
theorem fst2_none {P : Nat → Nat → Bool} {n : Nat → Nat} : ∀ d i, fst2 P n d i = none → ∀ p k, i ≤ p → p < i + d → k < n p → ¬ P p k = true := by
  intro d
  induction d with
  | zero => intro i _ p k h1 h2; omega
  | succ d ih =>
    intro i h p k h1 h2 h3
    unfold fst2 at h
    split at h
    · cases h
    · rename_i hn
      by_cases q : p = i
      · subst q; exact fst1_none _ _ hn k (by omega) (by omega)
      · exact ih _ h p k (by omega) (by omega) h3
/-- whether pupil p can move up with its k-th wish -/
def cm (np nc held : Nat) (nw wa pl ev : Nat → Nat) (W : Nat → Nat → Nat) (hs : Nat → Nat) (p k : Nat) : Bool := decide (rs5 (hs p) (nw p) (W p) held ev nc (wa p) (W p k) = 5 ∧ cnt hs (W p k) np < pl (W p k))
/-- the standing facts about courses and wishes -/
def Env0 (np nc held : Nat) (nw wa pl ev : Nat → Nat) (W : Nat → Nat → Nat) : Prop := np ≤ 30 ∧ nc ≤ 10 ∧ held < 1024 ∧ (∀ p, p < 30 → nw p ≤ 6 ∧ wa p < 100) ∧ (∀ p, p < 30 → ∀ k, k < nw p → W p k < 10) ∧ (∀ c, c < 10 → ev c < 100 ∧ pl c < 100)
def rW (f : Nat → Int32) (W : Nat → Nat → Nat) : Prop := ∀ p, p < 30 → ∀ k, k < 6 → f (p * 6 + k) = nI (W p k)
section MU
variable {N np nc held : Nat} {nw wa pl ev mv hs : Nat → Nat} {W : Nat → Nat → Nat} {wc wi tk pla has eva wnt mva : Nat → Int32} {mia : Int32}
theorem mfp_in (hN : 40 < N) (hE : Env0 np nc held nw wa pl ev W) (hwc : rA wc nw 30) (hwi : rW wi W) (htk : rA tk (fun c => cnt hs c np) 10) (hpl : rA pla pl 10) (hh : rA has hs 30) (hma : ∀ p, p < 30 → hs p < 1024) (hev : rA eva ev 10) (hwn : rA wnt wa 30) {p : Nat} (hp : p < np) (r2 : Int32 → (Nat → Int32) → (Nat → Int32) → (Nat → Int32) → (Nat → Int32) → (Nat → Int32) → Int32 → (Nat → Int32) → Int32 → (Nat → Int32) → (Nat → Int32) → Int32 → Int32 → Option (Int32 × (Nat → Int32) × (Nat → Int32) × (Nat → Int32) × Int32)) :
    ∀ d k n, k + d = nw p → d < n → fX6_moveFirstPupil_15 N r2 n (nI np) wc wi tk pla has (nI held) eva (nI nc) wnt mva mia (nI p) (nI k) = match fst1 (cm np nc held nw wa pl ev W hs p) d k with
      | some k' => (fX6_moveInto N eva (nI nc) has tk mva mia (nI p) (nI (W p k'))).bind fun o8 => some (1, o8.1, o8.2.1, o8.2.2.1, o8.2.2.2)
      | none => r2 (nI np) wc wi tk pla has (nI held) eva (nI nc) wnt mva mia (nI (p + 1)) := by
  obtain ⟨e1, e2, e3, e4, e5, e6⟩ := hE
  have hp3 : p < 30 := by omega
  obtain ⟨e7, e8⟩ := e4 p hp3
  intro d
  induction d with
  | zero =>
    intro k n h1 h2
    obtain ⟨n, rfl⟩ : ∃ z, n = z + 1 := ⟨n - 1, by omega⟩
    show gX6_moveFirstPupil_15 N r2 (fX6_moveFirstPupil_15 N r2 n) (nI np) wc wi tk pla has (nI held) eva (nI nc) wnt mva mia (nI p) (nI k) = r2 _ _ _ _ _ _ _ _ _ _ _ _ _
    unfold gX6_moveFirstPupil_15
    rw [nz_ald (by omega) (by omega), hwc p hp3, Option.bind_some, if_pos (nI_le (by omega) (by omega)), nz_let, nI_1]
  | succ d ih =>
    intro k n h1 h2
    obtain ⟨n, rfl⟩ : ∃ z, n = z + 1 := ⟨n - 1, by omega⟩
    show gX6_moveFirstPupil_15 N r2 (fX6_moveFirstPupil_15 N r2 n) (nI np) wc wi tk pla has (nI held) eva (nI nc) wnt mva mia (nI p) (nI k) = _
    have hc := e5 p hp3 k (by omega)
    have hcr : fX4_courseOfRank N wi (nI p) (nI k) = some (nI (W p k)) := by
      simp (disch := omega) only [fX4_courseOfRank, nz6, pk_mul, nI_add, nz_ald, hwi p hp3 k (by omega), Option.bind_some]
    have hcl := cnt_le hs (W p k) np
    have hpl2 := (e6 _ hc).2
    have hpr : fX7_hasPlaceLeft N tk pla (nI (W p k)) = some (if pl (W p k) ≤ cnt hs (W p k) np then 0 else 1) := by
      simp (disch := omega) only [fX7_hasPlaceLeft, nz_ald, Option.bind_some, htk _ hc, hpl _ hc, nz_le]
      split <;> rfl
    have hrs := reasonFor_eq (N := N) (p := p) (c := W p k) (W := W p) (by omega) hp3 hc (hh p hp3) (hma p hp3) (hwc p hp3) e7 (fun j hj => hwi p hp3 j (by omega)) (e5 p hp3) e3 hev (fun i hi => (e6 i hi).1) e2 (hwn p hp3) e8
    unfold gX6_moveFirstPupil_15 fst1
    rw [nz_ald (by omega) (by omega), hwc p hp3, Option.bind_some, if_neg (nI_ge (by omega) (by omega)), hcr, Option.bind_some, hpr, Option.bind_some, hrs]
    by_cases a : pl (W p k) ≤ cnt hs (W p k) np
    · rw [if_pos a, if_pos rfl, nz_let, nI_1, ih (k + 1) n (by omega) (by omega), if_neg]
      unfold cm
      rw [decide_eq_true_eq]
      omega
    · rw [if_neg a, if_neg (by decide), Option.bind_some]
      have hb5 : rs5 (hs p) (nw p) (W p) held ev nc (wa p) (W p k) < 100 := by
        unfold rs5
        repeat' split
        all_goals omega
      by_cases b : rs5 (hs p) (nw p) (W p) held ev nc (wa p) (W p k) = 5
      · rw [b, if_pos (show nI 5 = 5 from rfl), if_pos]
        unfold cm
        rw [decide_eq_true_eq]
        exact ⟨b, by omega⟩
      · rw [if_neg (by rw [nz5, nz_eq (by omega) (by omega)]; exact b), nz_let, nI_1, ih (k + 1) n (by omega) (by omega), if_neg]
        unfold cm
        rw [decide_eq_true_eq]
        exact fun q => b q.1
theorem mfp_out (hN : 40 < N) (hE : Env0 np nc held nw wa pl ev W) (hwc : rA wc nw 30) (hwi : rW wi W) (htk : rA tk (fun c => cnt hs c np) 10) (hpl : rA pla pl 10) (hh : rA has hs 30) (hma : ∀ p, p < 30 → hs p < 1024) (hev : rA eva ev 10) (hwn : rA wnt wa 30) :
    ∀ d p n, p + d = np → d < n → fX6_moveFirstPupil_2 N n (nI np) wc wi tk pla has (nI held) eva (nI nc) wnt mva mia (nI p) = match fst2 (cm np nc held nw wa pl ev W hs) nw d p with
      | some (p', k') => (fX6_moveInto N eva (nI nc) has tk mva mia (nI p') (nI (W p' k'))).bind fun o8 => some (1, o8.1, o8.2.1, o8.2.2.1, o8.2.2.2)
      | none => some (0, has, tk, mva, mia) := by
  intro d
  have e1 := hE.1
  induction d with
  | zero =>
    intro p n h1 h2
    obtain ⟨n, rfl⟩ : ∃ z, n = z + 1 := ⟨n - 1, by omega⟩
    show gX6_moveFirstPupil_2 N (fX6_moveFirstPupil_2 N n) (nI np) wc wi tk pla has (nI held) eva (nI nc) wnt mva mia (nI p) = some _
    unfold gX6_moveFirstPupil_2
    rw [if_pos (nI_le (by omega) (by omega))]
  | succ d ih =>
    intro p n h1 h2
    obtain ⟨n, rfl⟩ : ∃ z, n = z + 1 := ⟨n - 1, by omega⟩
    show gX6_moveFirstPupil_2 N (fX6_moveFirstPupil_2 N n) (nI np) wc wi tk pla has (nI held) eva (nI nc) wnt mva mia (nI p) = _
    have e7 := (hE.2.2.2.1 p (by omega)).1
    unfold gX6_moveFirstPupil_2 fst2
    rw [if_neg (nI_ge (by omega) (by omega)), nz0, mfp_in hN hE hwc hwi htk hpl hh hma hev hwn (p := p) (by omega) _ (nw p) 0 N (by omega) (by omega)]
    cases fst1 (cm np nc held nw wa pl ev W hs p) (nw p) 0 with
    | some k => rfl
    | none => exact ih (p + 1) n (by omega) (by omega)
end MU
