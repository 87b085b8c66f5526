/-! whether a set can be held, and its rooms: the class -/
/-- how many courses of the set on evening e stand ahead of place k -/
def ah (nc : Nat) (mo ev : Nat → Nat) (set k e : Nat) : Nat := sm (fun d => if set.testBit d = true ∧ ev d = e ∧ ps mo nc d < k then 1 else 0) nc
def aho (nc : Nat) (mo ev : Nat → Nat) (set c : Nat) : Nat := ah nc mo ev set (ps mo nc c) (ev c)
/-- the room of place a -/
def rmS (nr : Nat) (se : Nat → Nat) (a : Nat) : Nat := (fst1 (fun r => decide (ps se nr r = a)) nr 0).getD 0
def plS (nr nc : Nat) (se mo ev : Nat → Nat) (set c : Nat) : Nat := if se (rmS nr se (aho nc mo ev set c)) < mo c then se (rmS nr se (aho nc mo ev set c)) else mo c
def okc (nr nc : Nat) (se mo ev te le : Nat → Nat) (set c : Nat) : Prop := (∀ d, d < nc → set.testBit d = true → ev d = ev c → bf mo d c = true → te d ≠ te c) ∧ aho nc mo ev set c < nr ∧ le c ≤ plS nr nc se mo ev set c
theorem rmS_eq {nr : Nat} {se : Nat → Nat} {r a : Nat} (hr : r < nr) (h : ps se nr r = a) : rmS nr se a = r := by
  unfold rmS
  cases e : fst1 (fun r => decide (ps se nr r = a)) nr 0 with
  | none => exact absurd (decide_eq_true h) (fst1_none _ _ e r (by omega) (by omega))
  | some z =>
    obtain ⟨-, h1, h2⟩ := fst1_some _ _ _ e
    show z = r
    exact ps_inj (sz := se) (n := nr) (by omega) hr (by rw [of_decide_eq_true h2, h])
theorem ah_succ {nc k c e : Nat} {mo ev : Nat → Nat} {set : Nat} (hc : c < nc) (hk : ps mo nc c = k) : ah nc mo ev set (k + 1) e = ah nc mo ev set k e + if set.testBit c = true ∧ ev c = e then 1 else 0 := by
  have h1 : ah nc mo ev set (k + 1) e = sm (va_up (fun d => if set.testBit d = true ∧ ev d = e ∧ ps mo nc d < k then 1 else 0) c (if set.testBit c = true ∧ ev c = e then 1 else 0)) nc := by
    refine sm_congr nc fun d hd => ?_
    by_cases q : d = c
    · subst q
      rw [va_up_self]
      by_cases z : set.testBit d = true ∧ ev d = e
      · rw [if_pos z, if_pos ⟨z.1, z.2, by omega⟩]
      · rw [if_neg z, if_neg (fun y => z ⟨y.1, y.2.1⟩)]
    · rw [va_up_ne _ _ q]
      have : ps mo nc d ≠ k := fun z => q (ps_inj hd hc (by rw [z, hk]))
      by_cases z : set.testBit d = true ∧ ev d = e ∧ ps mo nc d < k
      · rw [if_pos z, if_pos ⟨z.1, z.2.1, by omega⟩]
      · rw [if_neg z, if_neg (fun y => z ⟨y.1, y.2.1, by omega⟩)]
  have h2 := sm_up (f := fun d => if set.testBit d = true ∧ ev d = e ∧ ps mo nc d < k then 1 else 0) (a := c) (v := if set.testBit c = true ∧ ev c = e then 1 else 0) nc hc
  try dsimp only at h2
  rw [if_neg (show ¬ (set.testBit c = true ∧ ev c = e ∧ ps mo nc c < k) by omega)] at h2
  rw [h1]
  unfold ah
  omega
theorem ah_le {nc : Nat} {mo ev : Nat → Nat} {set k e : Nat} : ah nc mo ev set k e ≤ nc := by
  have h : ah nc mo ev set k e ≤ sm (fun _ => 1) nc := sm_le2 nc (fun d _ => by split <;> omega)
  rw [sm_one] at h
  exact h
theorem tm_and : ∀ t, t < 6 → ∀ b, b < 64 → (nI b &&& (1 <<< (nI t &&& 31))) = nI (if b.testBit t = true then 2 ^ t else 0) := by decide +kernel
theorem or_lt6 {m c : Nat} (h : m < 64) (hc : c < 6) : m ||| 2 ^ c < 64 := Nat.or_lt_two_pow (n := 6) h (Nat.pow_lt_pow_right (by decide) hc)
/-- the rooms and places given to the courses of the set ahead of place k -/
def RP (nr nc : Nat) (se mo ev : Nat → Nat) (set k : Nat) (rof pla : Nat → Int32) : Prop := ∀ c, c < 10 → (c < nc ∧ set.testBit c = true ∧ ps mo nc c < k → rof c = nI (rmS nr se (aho nc mo ev set c)) ∧ pla c = nI (plS nr nc se mo ev set c)) ∧ (¬ (c < nc ∧ set.testBit c = true ∧ ps mo nc c < k) → rof c = nM ∧ pla c = nI 0)
section FU
variable {N nr nc set : Nat} {se mo ev te le : Nat → Nat} {sea moa eva tea lea ro co tk hs : Nat → Int32}
theorem furn_loop (hN : 40 < N) (hnr : nr ≤ 5) (hnc : nc ≤ 10) (hse : rA sea se 5) (hseb : ∀ k, k < 5 → se k < 100) (hmo : rA moa mo 10) (hmob : ∀ k, k < 10 → mo k < 100) (hev : rA eva ev 10) (he5 : ∀ c, c < 10 → ev c < 5) (hte : rA tea te 10) (ht6 : ∀ c, c < 10 → te c < 6) (hle : rA lea le 10) (hleb : ∀ k, k < 10 → le k < 100) (hro : OrdP se nr ro) (hco : OrdP mo nc co) (hset : set < 1024) :
    ∀ d k m (rof pla ru tb : Nat → Int32), k + d = nc → d < m → RP nr nc se mo ev set k rof pla → rA ru (ah nc mo ev set k) 5 → (∀ e, e < 5 → ah nc mo ev set k e ≤ nr) → (∀ e, e < 5 → ∃ b, b < 64 ∧ tb e = nI b ∧ ∀ t, t < 6 → (b.testBit t = true ↔ ∃ d, d < nc ∧ set.testBit d = true ∧ ev d = e ∧ ps mo nc d < k ∧ te d = t)) →
      ∃ (r : Nat) (rof' pla' ru' tb' : Nat → Int32), fX3_furnish_33 N m (nI set) rof pla tk hs ru tb (nI nc) co eva tea (nI nr) ro moa sea lea (nI k) = some (nI r, nI set, rof', pla', tk, hs, ru', tb') ∧ ((r = 1 ∧ (∀ c, c < nc → set.testBit c = true → k ≤ ps mo nc c → okc nr nc se mo ev te le set c) ∧ RP nr nc se mo ev set nc rof' pla' ∧ ∀ e, e < 5 → ah nc mo ev set nc e ≤ nr) ∨ (r = 0 ∧ ¬ ∀ c, c < nc → set.testBit c = true → k ≤ ps mo nc c → okc nr nc se mo ev te le set c)) := by
  obtain ⟨g, hg1, hg2⟩ := hco
  obtain ⟨gr, hr1, hr2⟩ := hro
  intro d
  induction d with
  | zero =>
    intro k m rof pla ru tb h1 h2 hrp hru hnr2 htb
    obtain ⟨m, rfl⟩ : ∃ z, m = z + 1 := ⟨m - 1, by omega⟩
    have ek : k = nc := by omega
    rw [ek] at hrp hnr2
    refine ⟨1, rof, pla, ru, tb, ?_, Or.inl ⟨rfl, fun c hc _ hk => by have := ps_bd (sz := mo) hc; omega, hrp, hnr2⟩⟩
    show gX3_furnish_33 N (fX3_furnish_33 N m) (nI set) rof pla tk hs ru tb (nI nc) co eva tea (nI nr) ro moa sea lea (nI k) = _
    unfold gX3_furnish_33
    rw [if_pos (nI_le (by omega) (by omega))]
    rfl
  | succ d ih =>
    intro k m rof pla ru tb h1 h2 hrp hru hnr2 htb
    obtain ⟨m, rfl⟩ : ∃ z, m = z + 1 := ⟨m - 1, by omega⟩
    obtain ⟨hc, hpc⟩ := hg1 k (by omega)
    have hgk := hg2 k (by omega)
    generalize g k = c at hc hpc hgk
    have hstart : fX3_furnish_33 N (m + 1) (nI set) rof pla tk hs ru tb (nI nc) co eva tea (nI nr) ro moa sea lea (nI k) = gX3_furnish_33 N (fX3_furnish_33 N m) (nI set) rof pla tk hs ru tb (nI nc) co eva tea (nI nr) ro moa sea lea (nI k) := rfl
    rw [hstart]
    unfold gX3_furnish_33
    rw [if_neg (nI_ge (by omega) (by omega)), nz_ald (by omega) (by omega), hgk, Option.bind_some, isHeld_eq hset (by omega), Option.bind_some]
    by_cases hin : set.testBit c = true
    · rw [if_neg (bt_ne hin)]
      have e5 := he5 c (by omega)
      have t6 := ht6 c (by omega)
      obtain ⟨bb, hb1, hb2, hb3⟩ := htb (ev c) e5
      have haho : aho nc mo ev set c = ah nc mo ev set k (ev c) := by unfold aho; rw [hpc]
      have hal := ah_le (nc := nc) (mo := mo) (ev := ev) (set := set) (k := k) (e := ev c)
      have hbusy : bb.testBit (te c) = true ↔ ∃ d, d < nc ∧ set.testBit d = true ∧ ev d = ev c ∧ bf mo d c = true ∧ te d = te c := by
        rw [hb3 _ t6]
        constructor
        · rintro ⟨d, a1, a2, a3, a4, a5⟩; exact ⟨d, a1, a2, a3, (ps_iff a1 hc).mp (by omega), a5⟩
        · rintro ⟨d, a1, a2, a3, a4, a5⟩; exact ⟨d, a1, a2, a3, by have := (ps_iff a1 hc).mpr a4; omega, a5⟩
      have hfc : fX3_furnishCourse N eva tea ru tb (nI nr) ro rof moa sea pla lea (nI c) = (if bb.testBit (te c) = true then some (0, tb, ru, rof, pla) else if ah nc mo ev set k (ev c) < nr then some (nI (if plS nr nc se mo ev set c < le c then 0 else 1), upd tb (ev c) (nI (bb ||| 2 ^ te c)), upd ru (ev c) (nI (ah nc mo ev set k (ev c) + 1)), upd rof c (nI (rmS nr se (aho nc mo ev set c))), upd pla c (nI (plS nr nc se mo ev set c))) else some (0, tb, ru, rof, pla)) := by
        unfold fX3_furnishCourse
        rw [nz_ald (by omega) (by omega), hev c (by omega), Option.bind_some, nz_ald (by omega) (by omega), hte c (by omega), Option.bind_some, nz_let, nz_ald (by omega) (by omega), hru _ e5, Option.bind_some, nz_ald (by omega) (by omega), hb2, Option.bind_some, tm_and _ t6 _ hb1]
        by_cases q : bb.testBit (te c) = true
        · rw [if_pos q, if_pos q, if_neg]
          rw [nz_e0 (by have : 2 ^ te c < 2 ^ 6 := Nat.pow_lt_pow_right (by decide) t6; omega)]
          have : 0 < 2 ^ te c := Nat.two_pow_pos _
          omega
        · rw [if_neg q, if_neg q, if_pos (show nI 0 = 0 from rfl)]
          by_cases q2 : ah nc mo ev set k (ev c) < nr
          · obtain ⟨r1, r2⟩ := hr1 (ah nc mo ev set k (ev c)) q2
            have r3 := hr2 (ah nc mo ev set k (ev c)) q2
            have hrm : rmS nr se (aho nc mo ev set c) = gr (ah nc mo ev set k (ev c)) := rmS_eq r1 (by rw [r2, haho])
            have s1 := hseb (gr (ah nc mo ev set k (ev c))) (by omega)
            have s2 := hmob c (by omega)
            have s3 := hleb c (by omega)
            rw [if_pos q2, if_pos (nI_lt q2 (by omega)), Option.bind_some, bt_or _ (by omega) _ (by omega), nz_ast (by omega) (by omega), Option.bind_some, nI_1, nz_ast (by omega) (by omega), Option.bind_some, nz_ald (by omega) (by omega), r3, Option.bind_some, nz_ast (by omega) (by omega), Option.bind_some, nz_ald (by omega) (by omega), hmo c (by omega), Option.bind_some, nz_ald (by omega) (by omega), hse _ (by omega), Option.bind_some, nz_ast (by omega) (by omega), Option.bind_some, nz_ald (by omega) (by omega), pk_us, Option.bind_some, nz_ald (by omega) (by omega), hle c (by omega), Option.bind_some]
            have hmin : (if nI (se (gr (ah nc mo ev set k (ev c)))) < nI (mo c) then nI (se (gr (ah nc mo ev set k (ev c)))) else nI (mo c)) = nI (plS nr nc se mo ev set c) := by
              unfold plS
              rw [hrm, iteq (nz_lt (a := se (gr (ah nc mo ev set k (ev c)))) (b := mo c) (by omega) (by omega))]
              split <;> rfl
            have hplb : plS nr nc se mo ev set c < 100 := by
              unfold plS; rw [hrm]; split <;> omega
            rw [hmin, hrm, iteq (nz_lt (a := plS nr nc se mo ev set c) (b := le c) (by omega) (by omega))]
            by_cases q3 : plS nr nc se mo ev set c < le c
            · rw [if_pos q3, if_pos q3]; rfl
            · rw [if_neg q3, if_neg q3]; rfl
          · rw [if_neg q2, if_neg (nI_nlt (by omega) (by omega))]
      rw [hfc]
      have hokc : okc nr nc se mo ev te le set c ↔ ¬ bb.testBit (te c) = true ∧ ah nc mo ev set k (ev c) < nr ∧ ¬ plS nr nc se mo ev set c < le c := by
        unfold okc
        rw [hbusy, haho]
        constructor
        · rintro ⟨a1, a2, a3⟩
          exact ⟨fun ⟨d, z1, z2, z3, z4, z5⟩ => a1 d z1 z2 z3 z4 z5, a2, by omega⟩
        · rintro ⟨a1, a2, a3⟩
          exact ⟨fun d z1 z2 z3 z4 z5 => a1 ⟨d, z1, z2, z3, z4, z5⟩, a2, by omega⟩
      by_cases hok : okc nr nc se mo ev te le set c
      · obtain ⟨k1, k2, k3⟩ := hokc.mp hok
        rw [if_neg k1, if_pos k2, if_neg k3, Option.bind_some]
        dsimp only
        rw [if_neg (show ¬ nI 1 = 0 by decide), nz_let, nI_1]
        obtain ⟨r, rof', pla', ru', tb', f1, f2⟩ := ih (k + 1) m (upd rof c (nI (rmS nr se (aho nc mo ev set c)))) (upd pla c (nI (plS nr nc se mo ev set c))) (upd ru (ev c) (nI (ah nc mo ev set k (ev c) + 1))) (upd tb (ev c) (nI (bb ||| 2 ^ te c))) (by omega) (by omega)
          (fun c' hc' => by
            by_cases q : c' = c
            · subst q
              exact ⟨fun _ => ⟨pk_us, pk_us⟩, fun z => absurd ⟨hc, hin, by omega⟩ z⟩
            · rw [pk_un q, pk_un q]
              obtain ⟨y1, y2⟩ := hrp c' hc'
              refine ⟨fun z => y1 ⟨z.1, z.2.1, ?_⟩, fun z => y2 (fun y => z ⟨y.1, y.2.1, by omega⟩)⟩
              have : ps mo nc c' ≠ k := fun w => q (ps_inj z.1 hc (by rw [w, hpc]))
              omega)
          (fun e he => by
            rw [ah_succ hc hpc]
            by_cases q : e = ev c
            · subst q; rw [pk_us, if_pos ⟨hin, rfl⟩]
            · rw [pk_un q, if_neg (fun z => q z.2.symm)]; exact hru e he)
          (fun e he => by
            rw [ah_succ hc hpc]
            by_cases q : e = ev c
            · subst q; rw [if_pos ⟨hin, rfl⟩]; omega
            · rw [if_neg (fun z => q z.2.symm)]; exact hnr2 e he)
          (fun e he => by
            by_cases q : e = ev c
            · subst q
              refine ⟨bb ||| 2 ^ te c, or_lt6 hb1 t6, pk_us, fun t ht => ?_⟩
              rw [tb_or, Bool.or_eq_true, hb3 t ht, decide_eq_true_iff]
              constructor
              · rintro (⟨d, z1, z2, z3, z4, z5⟩ | z)
                · exact ⟨d, z1, z2, z3, by omega, z5⟩
                · exact ⟨c, hc, hin, rfl, by omega, z⟩
              · rintro ⟨d, z1, z2, z3, z4, z5⟩
                by_cases y : d = c
                · subst y; exact Or.inr z5
                · have : ps mo nc d ≠ k := fun w => y (ps_inj z1 hc (by rw [w, hpc]))
                  exact Or.inl ⟨d, z1, z2, z3, by omega, z5⟩
            · obtain ⟨b', y1, y2, y3⟩ := htb e he
              refine ⟨b', y1, by rw [pk_un q]; exact y2, fun t ht => ?_⟩
              rw [y3 t ht]
              constructor
              · rintro ⟨d, z1, z2, z3, z4, z5⟩; exact ⟨d, z1, z2, z3, by omega, z5⟩
              · rintro ⟨d, z1, z2, z3, z4, z5⟩
                have : ps mo nc d ≠ k := fun w => q (by rw [← z3, ps_inj z1 hc (by rw [w, hpc])])
                exact ⟨d, z1, z2, z3, by omega, z5⟩)
        refine ⟨r, rof', pla', ru', tb', f1, ?_⟩
        have hiff : (∀ c, c < nc → set.testBit c = true → k ≤ ps mo nc c → okc nr nc se mo ev te le set c) ↔ ∀ c, c < nc → set.testBit c = true → k + 1 ≤ ps mo nc c → okc nr nc se mo ev te le set c := by
          constructor
          · intro z c' a1 a2 a3; exact z c' a1 a2 (by omega)
          · intro z c' a1 a2 a3
            by_cases q : c' = c
            · subst q; exact hok
            · have : ps mo nc c' ≠ k := fun w => q (ps_inj a1 hc (by rw [w, hpc]))
              exact z c' a1 a2 (by omega)
        rw [hiff]
        exact f2
      · have hall : ¬ ∀ c, c < nc → set.testBit c = true → k ≤ ps mo nc c → okc nr nc se mo ev te le set c := fun z => hok (z c hc hin (by omega))
        by_cases q : bb.testBit (te c) = true
        · rw [if_pos q, Option.bind_some]
          exact ⟨0, _, _, _, _, rfl, Or.inr ⟨rfl, hall⟩⟩
        · rw [if_neg q]
          by_cases q2 : ah nc mo ev set k (ev c) < nr
          · rw [if_pos q2]
            have q3 : plS nr nc se mo ev set c < le c := by
              by_cases z : plS nr nc se mo ev set c < le c
              · exact z
              · exact absurd (hokc.mpr ⟨q, q2, z⟩) hok
            rw [if_pos q3, Option.bind_some]
            exact ⟨0, _, _, _, _, rfl, Or.inr ⟨rfl, hall⟩⟩
          · rw [if_neg q2, Option.bind_some]
            exact ⟨0, _, _, _, _, rfl, Or.inr ⟨rfl, hall⟩⟩
    · rw [if_pos (bt_is hin), nz_let, nI_1]
      have hah : ∀ e, ah nc mo ev set (k + 1) e = ah nc mo ev set k e := fun e => by
        rw [ah_succ hc hpc, if_neg (fun z => hin z.1)]; rfl
      have hps : ∀ d, d < nc → set.testBit d = true → (ps mo nc d < k + 1 ↔ ps mo nc d < k) := fun d z1 z2 => by
        have : ps mo nc d ≠ k := fun w => hin (by rw [← ps_inj z1 hc (by rw [w, hpc])]; exact z2)
        omega
      obtain ⟨r, rof', pla', ru', tb', f1, f2⟩ := ih (k + 1) m rof pla ru tb (by omega) (by omega)
        (fun c' hc' => by
          obtain ⟨y1, y2⟩ := hrp c' hc'
          exact ⟨fun z => y1 ⟨z.1, z.2.1, (hps c' z.1 z.2.1).mp z.2.2⟩, fun z => y2 (fun y => z ⟨y.1, y.2.1, by omega⟩)⟩)
        (fun e he => by rw [hah]; exact hru e he) (fun e he => by rw [hah]; exact hnr2 e he)
        (fun e he => by
          obtain ⟨b', y1, y2, y3⟩ := htb e he
          refine ⟨b', y1, y2, fun t ht => ?_⟩
          rw [y3 t ht]
          constructor
          · rintro ⟨d, z1, z2, z3, z4, z5⟩; exact ⟨d, z1, z2, z3, by omega, z5⟩
          · rintro ⟨d, z1, z2, z3, z4, z5⟩; exact ⟨d, z1, z2, z3, (hps d z1 z2).mp z4, z5⟩)
      refine ⟨r, rof', pla', ru', tb', f1, ?_⟩
      have hiff : (∀ c, c < nc → set.testBit c = true → k ≤ ps mo nc c → okc nr nc se mo ev te le set c) ↔ ∀ c, c < nc → set.testBit c = true → k + 1 ≤ ps mo nc c → okc nr nc se mo ev te le set c := by
        constructor
        · intro z c' a1 a2 a3; exact z c' a1 a2 (by omega)
        · intro z c' a1 a2 a3
          have := hps c' a1 a2
          exact z c' a1 a2 (by omega)
      rw [hiff]
      exact f2
end FU
