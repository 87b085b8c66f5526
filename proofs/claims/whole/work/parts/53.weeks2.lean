/-! weeks: what falls; a week; weeks -/
theorem rD_upd {f : Nat → Int32} {g : Nat → Nat} {n k v : Nat} (h : rD f g n) : rD (upd f k (dI v)) (va_up g k v) n := by
  intro j hj
  by_cases q : j = k
  · subst q; rw [pk_us, va_up_self]
  · rw [pk_un q, va_up_ne _ _ q]; exact h j hj
section WL
variable {N n : Nat} {S : ns_S} {X : SX}
def B2 (X : SX) (hd : Int32) (ro pl tk has : Nat → Int32) : Prop := hd = nI (X 80 0) ∧ rD ro (X 81) 10 ∧ rA pl (X 82) 10 ∧ rA tk (fun c => cnt (X 84) c (X 73 0)) 10 ∧ rA has (X 84) 30
def B3 (X : SX) (hl ro pl has : Nat → Int32) : Prop := hl 0 = nI (X 80 0) ∧ rD ro (X 81) 10 ∧ rA pl (X 82) 10 ∧ rA has (X 84) 30
theorem can39 {hd : Int32} {ro pl tk : Nat → Int32} {hs : Nat → Nat} {c : Nat} (hc : c < 10) (hlt : ∀ p, p < 30 → hs p < 1024) : ∀ d i m (has : Nat → Int32), i + d = 30 → d < m → (∀ j, j < i → has j = nI (clr (hs j) c)) → (∀ j, i ≤ j → j < 30 → has j = nI (hs j)) → ∃ has', fX7_cancel_39 N m hd ro pl tk has ((1 <<< (nI c &&& 31)) ^^^ (-1)) (nI i) = some (hd, ro, pl, tk, has') ∧ rA has' (fun p => clr (hs p) c) 30 := by
  intro d
  induction d with
  | zero =>
    intro i m has h1 h2 h3 h4
    obtain ⟨m, rfl⟩ : ∃ z, m = z + 1 := ⟨m - 1, by omega⟩
    refine ⟨has, ?_, fun j hj => h3 j (by omega)⟩
    rw [show fX7_cancel_39 N (m + 1) = gX7_cancel_39 N (fX7_cancel_39 N m) from rfl]
    unfold gX7_cancel_39
    rw [if_pos (show 30 ≤ nI i from nI_le (a := 30) (by omega) (by omega))]
  | succ d ih =>
    intro i m has h1 h2 h3 h4
    obtain ⟨m, rfl⟩ : ∃ z, m = z + 1 := ⟨m - 1, by omega⟩
    rw [show fX7_cancel_39 N (m + 1) = gX7_cancel_39 N (fX7_cancel_39 N m) from rfl]
    unfold gX7_cancel_39
    rw [if_neg (show ¬ 30 ≤ nI i from nI_ge (b := 30) (by omega) (by omega)), nz_ald (by omega) (by omega), h4 i (by omega) (by omega), Option.bind_some, bt_clr c hc _ (hlt i (by omega)), nz_ast (by omega) (by omega), Option.bind_some, nz_let, nI_1]
    refine ih (i + 1) m _ (by omega) (by omega) (fun j hj => ?_) (fun j hj hj2 => ?_)
    · by_cases q : j = i
      · subst q; rw [pk_us]
      · rw [pk_un q]; exact h3 j (by omega)
    · rw [pk_un (by omega)]; exact h4 j (by omega) hj2
theorem fal30 {hl ro pl ps : Nat → Int32} {hs : Nat → Nat} {c np : Nat} (hc : c < 10) (hnp : np ≤ 30) (hps : ps 0 = nI np) (hlt : ∀ p, p < 30 → hs p < 1024) : ∀ d i m (has : Nat → Int32), i + d = np → d < m → (∀ j, j < i → has j = nI (clr (hs j) c)) → (∀ j, i ≤ j → j < 30 → has j = nI (hs j)) → ∃ has', fX11_falls_30 N m hl ro pl ps has (nI c) (nI i) = some (hl, ro, pl, has') ∧ (∀ j, j < np → has' j = nI (clr (hs j) c)) ∧ (∀ j, np ≤ j → j < 30 → has' j = nI (hs j)) ∧ kp has has' 30 := by
  intro d
  induction d with
  | zero =>
    intro i m has h1 h2 h3 h4
    obtain ⟨m, rfl⟩ : ∃ z, m = z + 1 := ⟨m - 1, by omega⟩
    refine ⟨has, ?_, fun j hj => h3 j (by omega), fun j a b => h4 j (by omega) b, kp.rf⟩
    rw [show fX11_falls_30 N (m + 1) = gX11_falls_30 N (fX11_falls_30 N m) from rfl]
    unfold gX11_falls_30
    rw [ald0 (by omega) (by omega), hps, Option.bind_some, if_pos (nI_le (by omega) (by omega))]
  | succ d ih =>
    intro i m has h1 h2 h3 h4
    obtain ⟨m, rfl⟩ : ∃ z, m = z + 1 := ⟨m - 1, by omega⟩
    rw [show fX11_falls_30 N (m + 1) = gX11_falls_30 N (fX11_falls_30 N m) from rfl]
    unfold gX11_falls_30
    rw [ald0 (by omega) (by omega), hps, Option.bind_some, if_neg (nI_ge (by omega) (by omega)), nz_ald (by omega) (by omega), h4 i (by omega) (by omega), Option.bind_some, bt_clr c hc _ (hlt i (by omega)), nz_ast (by omega) (by omega), Option.bind_some, nz_let, nI_1]
    obtain ⟨has', g1, g2, g3, g4⟩ := ih (i + 1) m (upd has i (nI (clr (hs i) c))) (by omega) (by omega) (fun j hj => by
      by_cases q : j = i
      · subst q; rw [pk_us]
      · rw [pk_un q]; exact h3 j (by omega)) (fun j hj hj2 => by rw [pk_un (by omega)]; exact h4 j (by omega) hj2)
    exact ⟨has', g1, g2, g3, kp.tr (kp.up (by omega)) g4⟩
theorem pw50 (hN : 20000 ≤ N) {wk mia : Int32} {wh tea th rh wc wi eva wnt mva lea : Nat → Int32} (h70 : rA lea (X 70) 10) : ∀ d i m (Z : SX) (hd : Int32) (ro pl tk has : Nat → Int32), i + d = X 67 0 → d < m → X 67 0 ≤ 10 → IV0 Z n → Z 79 0 ≠ 0 → Z 70 = X 70 → Z 73 = X 73 → B2 Z hd ro pl tk has → ∃ (hd' : Int32) (ro' pl' tk' has' : Nat → Int32), fX6_passWeek_50 N m wk (nI (X 67 0)) hd wh tea th ro rh (nI (X 73 0)) wc wi tk pl has eva wnt mva mia lea (nI i) = (fX6_moveUp N (nI (X 73 0)) wc wi tk' pl' has' hd' eva (nI (X 67 0)) wnt mva mia).bind (fun o1 => some (wk, wh, th, rh, o1.1, o1.2.1, o1.2.2.1, o1.2.2.2, hd', ro', pl')) ∧ B2 (itr fal d i Z) hd' ro' pl' tk' has' := by
  intro d
  induction d with
  | zero =>
    intro i m Z hd ro pl tk has h1 h2 h3 hV hw z70 z73 hB
    obtain ⟨m, rfl⟩ : ∃ z, m = z + 1 := ⟨m - 1, by omega⟩
    refine ⟨hd, ro, pl, tk, has, ?_, hB⟩
    rw [show fX6_passWeek_50 N (m + 1) = gX6_passWeek_50 N (fX6_passWeek_50 N m) from rfl]
    unfold gX6_passWeek_50
    rw [if_pos (nI_le (by omega) (by omega))]
  | succ d ih =>
    intro i m Z hd ro pl tk has h1 h2 h3 hV hw z70 z73 hB
    obtain ⟨m, rfl⟩ : ∃ z, m = z + 1 := ⟨m - 1, by omega⟩
    have hq := IV0_fal (c := i) ⟨hV, hw⟩
    have e0 := E0_of0 hV
    have hi : i < 10 := by omega
    obtain ⟨b1, b2, b3, b4, b5⟩ := hB
    subst b1
    rw [show fX6_passWeek_50 N (m + 1) = gX6_passWeek_50 N (fX6_passWeek_50 N m) from rfl]
    unfold gX6_passWeek_50
    rw [if_neg (nI_ge (by omega) (by omega)), isHeld_eq e0.2.2.1 hi, Option.bind_some]
    have skip : fal i Z = Z → ∃ (hd' : Int32) (ro' pl' tk' has' : Nat → Int32), fX6_passWeek_50 N m wk (nI (X 67 0)) (nI (Z 80 0)) wh tea th ro rh (nI (X 73 0)) wc wi tk pl has eva wnt mva mia lea (nI (i + 1)) = (fX6_moveUp N (nI (X 73 0)) wc wi tk' pl' has' hd' eva (nI (X 67 0)) wnt mva mia).bind (fun o1 => some (wk, wh, th, rh, o1.1, o1.2.1, o1.2.2.1, o1.2.2.2, hd', ro', pl')) ∧ B2 (itr fal (d + 1) i Z) hd' ro' pl' tk' has' := by
      intro e
      obtain ⟨hd', ro', pl', tk', has', g1, g2⟩ := ih (i + 1) m Z (nI (Z 80 0)) ro pl tk has (by omega) (by omega) h3 hV hw z70 z73 ⟨rfl, b2, b3, b4, b5⟩
      refine ⟨hd', ro', pl', tk', has', g1, ?_⟩
      show B2 (itr fal d (i + 1) (fal i Z)) hd' ro' pl' tk' has'
      rw [e]; exact g2
    by_cases hb : (Z 80 0).testBit i = true
    · rw [if_neg (bt_ne hb), nz_ald hi (by omega), show tk i = nI (cnt (Z 84) i (Z 73 0)) from b4 i hi, Option.bind_some, nz_ald hi (by omega), h70 i hi, Option.bind_some, nz2, pk_mul]
      have hcl := cnt_le (Z 84) i (Z 73 0)
      have h30 := e0.1
      have hle := (hV.1.2.2.2.2.1 i hi).2.1
      rw [z70] at hle
      by_cases hf : 2 * cnt (Z 84) i (Z 73 0) < X 70 i
      · rw [if_neg (nI_ge hf (by omega))]
        have hpos := fal_pos (c := i) (X := Z) ⟨hb, by rw [z70]; exact hf⟩
        obtain ⟨has', g1, g2⟩ := can39 (N := N) (hd := nI (clr (Z 80 0) i)) (ro := upd ro i (-1)) (pl := upd pl i 0) (tk := upd tk i 0) (hs := Z 84) hi (hs_lt0 hV) 30 0 N has (by omega) (by omega) (fun j hj => by omega) (fun j _ hj => b5 j hj)
        unfold fX7_cancel
        rw [nz_let, nz_let, bt_clr i hi _ e0.2.2.1, nz_ast hi (by omega), Option.bind_some, nz_ast hi (by omega), Option.bind_some, nz_ast hi (by omega), Option.bind_some, show (0 : Int32) = nI 0 from rfl]
        rw [show nI 0 = (0 : Int32) from rfl] at g1 ⊢
        rw [show fX7_cancel_39 N N (nI (clr (Z 80 0) i)) (upd ro i (-1)) (upd pl i 0) (upd tk i 0) has ((1 <<< (nI i &&& 31)) ^^^ (-1)) 0 = _ from g1, Option.bind_some, nz_let, nI_1]
        refine ih (i + 1) m (fal i Z) _ _ _ _ _ (by omega) (by omega) h3 hq.1 hq.2 (by rw [fal_ne (by decide), z70]) (by rw [fal_ne (by decide), z73]) ?_
        rw [hpos]
        refine ⟨rfl, rD_upd (v := 0) b2, rA_upd (v := 0) b3, ?_, g2⟩
        refine rA_congr (rA_upd (v := 0) b4) (fun j hj => ?_)
        show va_up (fun c => cnt (Z 84) c (Z 73 0)) i 0 j = cnt (fun p => clr (Z 84 p) i) j (Z 73 0)
        rw [cnt_clr]
        rfl
      · rw [if_pos (nI_le (by omega) (by omega)), nz_let, nI_1]
        exact skip (fal_neg (fun q => hf (by rw [← z70]; exact q.2)))
    · rw [if_pos (bt_is hb), nz_let, nI_1]
      exact skip (fal_neg (fun q => hb q.1))
theorem wk107 (hN : 20000 ≤ N) {r29 : Int32 → (Nat → Int32) → (Nat → Int32) → (Nat → Int32) → (Nat → Int32) → (Nat → Int32) → (Nat → Int32) → (Nat → Int32) → (Nat → Int32) → (Nat → Int32) → (Nat → Int32) → (Nat → Int32) → (Nat → Int32) → (Nat → Int32) → (Nat → Int32) → (Nat → Int32) → (Nat → Int32) → (Nat → Int32) → Int32 → Int32 → Option (Int32 × Int32 × (Nat → Int32) × (Nat → Int32) × (Nat → Int32) × (Nat → Int32) × (Nat → Int32) × (Nat → Int32) × (Nat → Int32) × (Nat → Int32) × (Nat → Int32))} {cod l1 l2 : Int32} {wk cs wh th rh tea ps wc wi eva wnt mva lea : Nat → Int32} (h70 : rA lea (X 70) 10) (h67 : cs 0 = nI (X 67 0)) (h73 : ps 0 = nI (X 73 0)) : ∀ d i m (Z : SX) (hl ro pl has : Nat → Int32), i + d = X 67 0 → d < m → X 67 0 ≤ 10 → IV0 Z n → Z 79 0 ≠ 0 → Z 70 = X 70 → Z 73 = X 73 → B3 Z hl ro pl has → ∃ (hl' ro' pl' has' : Nat → Int32), fX11_weeks_107 N r29 m cod wk cs hl wh tea th ro rh ps wc wi has eva wnt pl mva lea l1 l2 (nI i) = (fX11_moveUp N (upd wk 0 (wk 0 + 1)) ps wc wi has' hl' eva cs wnt pl' mva).bind (fun o4 => r29 cod (upd wk 0 (wk 0 + 1)) cs hl' wh tea th ro' rh ps wc wi o4.1 eva wnt pl' o4.2 lea l1 (l2 + 1)) ∧ B3 (itr fal d i Z) hl' ro' pl' has' ∧ kp hl hl' 1 ∧ kp ro ro' 10 ∧ kp pl pl' 10 ∧ kp has has' 30 := by
  intro d
  induction d with
  | zero =>
    intro i m Z hl ro pl has h1 h2 h3 hV hw z70 z73 hB
    obtain ⟨m, rfl⟩ : ∃ z, m = z + 1 := ⟨m - 1, by omega⟩
    refine ⟨hl, ro, pl, has, ?_, hB, kp.rf, kp.rf, kp.rf, kp.rf⟩
    rw [show fX11_weeks_107 N r29 (m + 1) = gX11_weeks_107 N r29 (fX11_weeks_107 N r29 m) from rfl]
    unfold gX11_weeks_107
    rw [ald0 (by omega) (by omega), h67, Option.bind_some, if_pos (nI_le (by omega) (by omega)), ald0 (by omega) (by omega), Option.bind_some, ast0 (by omega) (by omega), Option.bind_some]
    rfl
  | succ d ih =>
    intro i m Z hl ro pl has h1 h2 h3 hV hw z70 z73 hB
    obtain ⟨m, rfl⟩ : ∃ z, m = z + 1 := ⟨m - 1, by omega⟩
    have hq := IV0_fal (c := i) ⟨hV, hw⟩
    have e0 := E0_of0 hV
    have hi : i < 10 := by omega
    obtain ⟨b1, b2, b3, b5⟩ := hB
    rw [show fX11_weeks_107 N r29 (m + 1) = gX11_weeks_107 N r29 (fX11_weeks_107 N r29 m) from rfl]
    unfold gX11_weeks_107
    rw [ald0 (by omega) (by omega), h67, Option.bind_some, if_neg (nI_ge (by omega) (by omega)), ald0 (by omega) (by omega), b1, Option.bind_some, bt_shr i hi _ e0.2.2.1]
    have skip : fal i Z = Z → ∃ (hl' ro' pl' has' : Nat → Int32), fX11_weeks_107 N r29 m cod wk cs hl wh tea th ro rh ps wc wi has eva wnt pl mva lea l1 l2 (nI (i + 1)) = (fX11_moveUp N (upd wk 0 (wk 0 + 1)) ps wc wi has' hl' eva cs wnt pl' mva).bind (fun o4 => r29 cod (upd wk 0 (wk 0 + 1)) cs hl' wh tea th ro' rh ps wc wi o4.1 eva wnt pl' o4.2 lea l1 (l2 + 1)) ∧ B3 (itr fal (d + 1) i Z) hl' ro' pl' has' ∧ kp hl hl' 1 ∧ kp ro ro' 10 ∧ kp pl pl' 10 ∧ kp has has' 30 := by
      intro e
      obtain ⟨hl', ro', pl', has', g1, g2, g3⟩ := ih (i + 1) m Z hl ro pl has (by omega) (by omega) h3 hV hw z70 z73 ⟨b1, b2, b3, b5⟩
      refine ⟨hl', ro', pl', has', g1, ?_, g3⟩
      show B3 (itr fal d (i + 1) (fal i Z)) hl' ro' pl' has'
      rw [e]; exact g2
    by_cases hb : (Z 80 0).testBit i = true
    · rw [if_neg (bt_ne hb), hasNow_eq (np := Z 73 0) (by omega) (by rw [z73]; exact h73) e0.1 b5 (hs_lt0 hV) hi, Option.bind_some, nz_ald (show i < 40 by omega) (by omega), h70 i hi, Option.bind_some, nz2, pk_mul]
      have hcl := cnt_le (Z 84) i (Z 73 0)
      have h30 := e0.1
      have hle := (hV.1.2.2.2.2.1 i hi).2.1
      rw [z70] at hle
      by_cases hf : 2 * cnt (Z 84) i (Z 73 0) < X 70 i
      · rw [if_neg (nI_ge hf (by omega))]
        have hpos := fal_pos (c := i) (X := Z) ⟨hb, by rw [z70]; exact hf⟩
        obtain ⟨has', g1, g2, g3, g4⟩ := fal30 (N := N) (hl := upd hl 0 (nI (clr (Z 80 0) i))) (ro := upd ro i (-1)) (pl := upd pl i 0) (ps := ps) (hs := Z 84) (np := Z 73 0) hi e0.1 (by rw [z73]; exact h73) (hs_lt0 hV) (Z 73 0) 0 N has (by omega) (by omega) (fun j hj => by omega) (fun j _ hj => b5 j hj)
        unfold fX11_falls
        rw [ald0 (by omega) (by omega), b1, Option.bind_some, bt_clr i hi _ e0.2.2.1, ast0 (by omega) (by omega), Option.bind_some, nz_ast (show i < 40 by omega) (by omega), Option.bind_some, nz_ast (show i < 40 by omega) (by omega), Option.bind_some]
        rw [show fX11_falls_30 N N (upd hl 0 (nI (clr (Z 80 0) i))) (upd ro i (-1)) (upd pl i 0) ps has (nI i) 0 = _ from g1, Option.bind_some, nz_let, nI_1]
        obtain ⟨hl', ro', pl', has'', q1, q2, q3, q4, q5, q6⟩ := ih (i + 1) m (fal i Z) (upd hl 0 (nI (clr (Z 80 0) i))) (upd ro i (-1)) (upd pl i 0) has' (by omega) (by omega) h3 hq.1 hq.2 (by rw [fal_ne (by decide), z70]) (by rw [fal_ne (by decide), z73]) (by
          rw [hpos]
          refine ⟨pk_us, rD_upd (v := 0) b2, rA_upd (v := 0) b3, fun j hj => ?_⟩
          show has' j = nI (clr (Z 84 j) i)
          by_cases y : j < Z 73 0
          · exact g2 j y
          · rw [g3 j (by omega) hj, (hV.2.2.2.1.2.2.1 j hj (by omega)).1]
            unfold clr
            simp)
        exact ⟨hl', ro', pl', has'', q1, q2, kp.tr (kp.up (by decide)) q3, kp.tr (kp.up hi) q4, kp.tr (kp.up hi) q5, kp.tr g4 q6⟩
      · rw [if_pos (nI_le (by omega) (by omega)), nz_let, nI_1]
        exact skip (fal_neg (fun q => hf (by rw [← z70]; exact q.2)))
    · rw [if_pos (bt_is hb), nz_let, nI_1]
      exact skip (fal_neg (fun q => hb q.1))
/-- the school's rows that weeks change, in the class and in the reference; and those that they read -/
def CW (X : SX) (wk hd : Int32) (wh th ro rh tk pl has mv : Nat → Int32) (mia : Int32) : Prop := wk = dI (X 79 0) ∧ B1 X wh th rh ∧ B2 X hd ro pl tk has ∧ rA mv (X 85) 30 ∧ mia = nI (sm (X 85) (X 73 0))
def MW (X : SX) (wk hl wh th ro rh pl has mv : Nat → Int32) : Prop := wk 0 = dI (X 79 0) ∧ B1 X wh th rh ∧ B3 X hl ro pl has ∧ rA mv (X 85) 30
def KC (X : SX) (wc wi eva wnt lea tea : Nat → Int32) : Prop := rA wc (X 77) 30 ∧ rA wi (X 78) 180 ∧ rA eva (X 68) 10 ∧ rA wnt (X 76) 30 ∧ rA lea (X 70) 10 ∧ rA tea (X 69) 10
def kpW (wk hl wh th ro rh pl has mv wk' hl' wh' th' ro' rh' pl' has' mv' : Nat → Int32) : Prop := kp wk wk' 1 ∧ kp hl hl' 1 ∧ kp wh wh' 10 ∧ kp th th' 6 ∧ kp ro ro' 10 ∧ kp rh rh' 5 ∧ kp pl pl' 10 ∧ kp has has' 30 ∧ kp mv mv' 30
def pwZ (X : SX) : SX := wkp (itr fal (X 67 0) 0 (itr cwk (X 67 0) 0 X))
theorem pwZ_ne {z : Nat} (h : z ≠ 83 ∧ z ≠ 86 ∧ z ≠ 87) (h2 : z ≠ 80 ∧ z ≠ 81 ∧ z ≠ 82 ∧ z ≠ 84) (h3 : z ≠ 79) : pwZ X z = X z := by
  unfold pwZ wkp
  rw [va_up_ne _ _ h3, ifa_ne h2, icw_ne h]
theorem pw_ne {z : Nat} (h : z ≠ 83 ∧ z ≠ 86 ∧ z ≠ 87) (h2 : z ≠ 80 ∧ z ≠ 81 ∧ z ≠ 82 ∧ z ≠ 84) (h3 : z ≠ 79) (h4 : z ≠ 85) : pw X z = X z := by
  show mvX (pwZ X) z = X z
  unfold mvX
  rw [va_up_ne _ _ h2.2.2.2, va_up_ne _ _ h4, pwZ_ne h h2 h3]
theorem pass_both (hN : 20000 ≤ N) (hn : n + 1 < 2 ^ 31) (hV : IV0 X n) (hw : X 79 0 ≠ 0) {wk hd mia : Int32} {wh th ro rh tk pl has mv wc wi eva wnt lea tea : Nat → Int32} (hC : CW X wk hd wh th ro rh tk pl has mv mia) (hK : KC X wc wi eva wnt lea tea) {r29 : Int32 → (Nat → Int32) → (Nat → Int32) → (Nat → Int32) → (Nat → Int32) → (Nat → Int32) → (Nat → Int32) → (Nat → Int32) → (Nat → Int32) → (Nat → Int32) → (Nat → Int32) → (Nat → Int32) → (Nat → Int32) → (Nat → Int32) → (Nat → Int32) → (Nat → Int32) → (Nat → Int32) → (Nat → Int32) → Int32 → Int32 → Option (Int32 × Int32 × (Nat → Int32) × (Nat → Int32) × (Nat → Int32) × (Nat → Int32) × (Nat → Int32) × (Nat → Int32) × (Nat → Int32) × (Nat → Int32) × (Nat → Int32))} {cod l1 l2 : Int32} {wkR hlR whR thR roR rhR plR hasR mvR csR psR wcR wiR evaR wntR leaR teaR : Nat → Int32} (hM : MW X wkR hlR whR thR roR rhR plR hasR mvR) (hKR : KC X wcR wiR evaR wntR leaR teaR) (h67 : csR 0 = nI (X 67 0)) (h73 : psR 0 = nI (X 73 0)) :
    (∃ (wk' hd' mia' : Int32) (wh' th' ro' rh' tk' pl' has' mv' : Nat → Int32), fX6_passWeek N wk (nI (X 67 0)) hd wh tea th ro rh (nI (X 73 0)) wc wi tk pl has eva wnt mv mia lea = some (wk', wh', th', rh', has', tk', mv', mia', hd', ro', pl') ∧ CW (pw X) wk' hd' wh' th' ro' rh' tk' pl' has' mv' mia') ∧ (∃ wk' hl' wh' th' ro' rh' pl' has' mv' : Nat → Int32, fX11_weeks_36 N r29 N cod wkR csR hlR whR teaR thR roR rhR psR wcR wiR hasR evaR wntR plR mvR leaR l1 l2 0 = r29 cod wk' csR hl' wh' teaR th' ro' rh' psR wcR wiR has' evaR wntR pl' mv' leaR l1 (l2 + 1) ∧ MW (pw X) wk' hl' wh' th' ro' rh' pl' has' mv' ∧ kpW wkR hlR whR thR roR rhR plR hasR mvR wk' hl' wh' th' ro' rh' pl' has' mv') ∧ IV (pw X) (n + 1) ∧ pw X 79 0 = X 79 0 + 1 := by
  obtain ⟨rfl, hB1, ⟨rfl, b81, b82, btk, b84⟩, b85, rfl⟩ := hC
  obtain ⟨k77, k78, k68, k76, k70, k69⟩ := hK
  obtain ⟨j77, j78, j68, j76, j70, j69⟩ := hKR
  obtain ⟨m79, mB1, ⟨m80, m81, m82, m84⟩, m85⟩ := hM
  have hnc := hV.1.2.1
  have hnp := hV.1.2.2.1
  obtain ⟨r, hr⟩ : ∃ r, X 79 0 = r + 1 := ⟨X 79 0 - 1, by omega⟩
  -- counting
  obtain ⟨wh', th', rh', p1, p2⟩ := pw15 (N := N) (n := n) (wk := dI (X 79 0) + 1) (npI := nI (X 73 0)) (mia := nI (sm (X 85) (X 73 0))) (wc := wc) (wi := wi) (tk := tk) (pl := pl) (has := has) (eva := eva) (wnt := wnt) (mva := mv) (lea := lea) b81 k69 (X 67 0) 0 N X wh th rh (by omega) (by omega) hnc hV hw rfl rfl rfl hB1
  obtain ⟨whR', thR', rhR', q1, q2, q3, q4, q5⟩ := wk36 (N := N) (n := n) (r29 := r29) (cod := cod) (l1 := l1) (l2 := l2) (wk := wkR) (ps := psR) (wc := wcR) (wi := wiR) (has := hasR) (eva := evaR) (wnt := wntR) (pl := plR) (mva := mvR) (lea := leaR) m81 j69 h67 m80 (X 67 0) 0 N X whR thR rhR (by omega) (by omega) hnc hV hw rfl rfl rfl mB1
  have hZ := itr_P (f := cwk) (P := fun Z => IV0 Z n ∧ Z 79 0 ≠ 0) (b := X 67 0) (fun c Z _ h => IV0_cwk h) (X 67 0) 0 X (by omega) ⟨hV, hw⟩
  -- falling
  have eB2 : B2 (itr cwk (X 67 0) 0 X) (nI (X 80 0)) ro pl tk has := by
    unfold B2
    rw [icw_ne (by decide), icw_ne (by decide), icw_ne (by decide), icw_ne (by decide), icw_ne (by decide)]
    exact ⟨rfl, b81, b82, btk, b84⟩
  have eB3 : B3 (itr cwk (X 67 0) 0 X) hlR roR plR hasR := by
    unfold B3
    rw [icw_ne (by decide), icw_ne (by decide), icw_ne (by decide), icw_ne (by decide)]
    exact ⟨m80, m81, m82, m84⟩
  obtain ⟨hd2, ro2, pl2, tk2, has2, s1, s2⟩ := pw50 (N := N) (n := n) (X := X) hN (wk := dI (X 79 0) + 1) (mia := nI (sm (X 85) (X 73 0))) (wh := wh') (tea := tea) (th := th') (rh := rh') (wc := wc) (wi := wi) (eva := eva) (wnt := wnt) (mva := mv) k70 (X 67 0) 0 N (itr cwk (X 67 0) 0 X) (nI (X 80 0)) ro pl tk has (by omega) (by omega) hnc hZ.1 hZ.2 (icw_ne (by decide) _ _ _) (icw_ne (by decide) _ _ _) eB2
  obtain ⟨hl2, roR2, plR2, hasR2, t1, t2, t3, t4, t5, t6⟩ := wk107 (N := N) (n := n) (X := X) hN (r29 := r29) (cod := cod) (l1 := l1) (l2 := l2) (wk := wkR) (cs := csR) (wh := whR') (th := thR') (rh := rhR') (tea := teaR) (ps := psR) (wc := wcR) (wi := wiR) (eva := evaR) (wnt := wntR) (mva := mvR) j70 h67 h73 (X 67 0) 0 N (itr cwk (X 67 0) 0 X) hlR roR plR hasR (by omega) (by omega) hnc hZ.1 hZ.2 (icw_ne (by decide) _ _ _) (icw_ne (by decide) _ _ _) eB3
  have hZ2 := itr_P (f := fal) (P := fun Z => IV0 Z n ∧ Z 79 0 ≠ 0) (b := X 67 0) (fun c Z _ h => IV0_fal h) (X 67 0) 0 _ (by omega) hZ
  have hV2 : IV0 (pwZ X) (n + 1) := IV0_wkp hZ2
  have e67 : pwZ X 67 = X 67 := pwZ_ne (by decide) (by decide) (by decide)
  have e68 : pwZ X 68 = X 68 := pwZ_ne (by decide) (by decide) (by decide)
  have e73 : pwZ X 73 = X 73 := pwZ_ne (by decide) (by decide) (by decide)
  have e76 : pwZ X 76 = X 76 := pwZ_ne (by decide) (by decide) (by decide)
  have e77 : pwZ X 77 = X 77 := pwZ_ne (by decide) (by decide) (by decide)
  have e78 : pwZ X 78 = X 78 := pwZ_ne (by decide) (by decide) (by decide)
  have e85 : pwZ X 85 = X 85 := pwZ_ne (by decide) (by decide) (by decide)
  have e79 : pwZ X 79 0 = X 79 0 + 1 := by
    show itr fal (X 67 0) 0 (itr cwk (X 67 0) 0 X) 79 0 + 1 = _
    rw [ifa_ne (by decide), icw_ne (by decide)]
  have s2' : B2 (pwZ X) hd2 ro2 pl2 tk2 has2 := s2
  have t2' : B3 (pwZ X) hl2 roR2 plR2 hasR2 := t2
  obtain ⟨s80, s81, s82, stk, s84⟩ := s2'
  obtain ⟨t80, t81, t82, t84⟩ := t2'
  have ewk : wkR 0 + 1 = dI (pwZ X 79 0) := by
    rw [e79, m79, hr]
    exact nI_1 r
  obtain ⟨has', tk', mva', hasR', mvaR', a0, b0, f1, f2, f3, f4, f5, f6, f7⟩ := mv_X (N := N) hN hn hV2 (wc := wc) (by rw [e77]; exact k77) (wi := wi) (by rw [e78]; exact k78) s82 (eva := eva) (by rw [e68]; exact k68) (wnt := wnt) (by rw [e76]; exact k76) s84 stk (mva := mv) (by rw [e85]; exact b85) (wcR := wcR) (by rw [e77]; exact j77) (wiR := wiR) (by rw [e78]; exact j78) t82 (evaR := evaR) (by rw [e68]; exact j68) (wntR := wntR) (by rw [e76]; exact j76) t84 (mvaR := mvR) (by rw [e85]; exact m85) (ps := psR) (by rw [e73]; exact h73) (cs := csR) (by rw [e67]; exact h67) t80 (wk := upd wkR 0 (wkR 0 + 1)) (by rw [pk_us]; exact ewk)
  rw [e73, e67, e85, ← s80] at a0
  have hB1' : ∀ wh th rh, B1 (itr cwk (X 67 0) 0 X) wh th rh → B1 (pw X) wh th rh := by
    intro wh th rh h
    have g : ∀ z, z ≠ 79 → z ≠ 84 → z ≠ 85 → (z ≠ 80 ∧ z ≠ 81 ∧ z ≠ 82 ∧ z ≠ 84) → pw X z = itr cwk (X 67 0) 0 X z := fun z h1 h2 h3 h4 => by
      show mvX (wkp (itr fal (X 67 0) 0 (itr cwk (X 67 0) 0 X))) z = _
      unfold mvX wkp
      rw [va_up_ne _ _ h2, va_up_ne _ _ h3, va_up_ne _ _ h1, ifa_ne h4]
    unfold B1
    rw [g 83 (by decide) (by decide) (by decide) (by decide), g 86 (by decide) (by decide) (by decide) (by decide), g 87 (by decide) (by decide) (by decide) (by decide)]
    exact h
  have e85' : pw X 73 = X 73 := pw_ne (by decide) (by decide) (by decide) (by decide)
  refine ⟨⟨dI (X 79 0) + 1, hd2, nI (sm (muX (pwZ X)).2 (X 73 0)), wh', th', ro2, rh', tk', pl2, has', mva', ?_, ?_⟩, ⟨upd wkR 0 (wkR 0 + 1), hl2, whR', thR', roR2, rhR', plR2, hasR', mvaR', ?_, ?_, kp.up (by decide), t3, q3, q4, t4, q5, t5, kp.tr t6 f6, f7⟩, IV_mv hV2, e79⟩
  · unfold fX6_passWeek
    rw [nz_let]
    refine Eq.trans p1 (Eq.trans s1 ?_)
    rw [a0]
    rfl
  · refine ⟨?_, hB1' _ _ _ p2, ⟨s80, s81, s82, ?_, f1⟩, f3, ?_⟩
    · show dI (X 79 0) + 1 = dI (pwZ X 79 0)
      rw [e79, hr]
      exact nI_1 r
    · rw [e85', ← e73]; exact f2
    · rw [e85']; rfl
  · refine Eq.trans q1 (Eq.trans t1 ?_)
    rw [b0]
    rfl
  · refine ⟨?_, hB1' _ _ _ q2, ⟨t80, t81, t82, f4⟩, f5⟩
    rw [pk_us, ewk]; rfl
end WL
