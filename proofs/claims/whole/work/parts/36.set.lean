/-! a set of courses: can it be held, is it lawful, its points: one value for both -/
def EnvS (nr nc np : Nat) (se mo ev te le nw wa : Nat → Nat) (W : Nat → Nat → Nat) : Prop := nr ≤ 5 ∧ nc ≤ 10 ∧ np ≤ 30 ∧ (∀ k, k < 5 → se k < 100) ∧ (∀ c, c < 10 → mo c < 100 ∧ le c < 100 ∧ ev c < 5 ∧ te c < 6) ∧ (∀ c, c < nc → 1 ≤ le c) ∧ (∀ p, p < 30 → nw p ≤ 6 ∧ wa p < 100 ∧ ∀ k, k < nw p → W p k < nc)
def RS (se mo ev te le nw wa : Nat → Nat) (W : Nat → Nat → Nat) (sea moa eva tea lea wc wi wnt : Nat → Int32) : Prop := rA sea se 5 ∧ rA moa mo 10 ∧ rA eva ev 10 ∧ rA tea te 10 ∧ rA lea le 10 ∧ rA wc nw 30 ∧ rW wi W ∧ rA wnt wa 30
noncomputable def canB (nr nc : Nat) (se mo ev te le : Nat → Nat) (set : Nat) : Bool := @decide (∀ c, c < nc → set.testBit c = true → okc nr nc se mo ev te le set c) (Classical.propDecidable _)
theorem canB_iff {nr nc : Nat} {se mo ev te le : Nat → Nat} {set : Nat} : canB nr nc se mo ev te le set = true ↔ ∀ c, c < nc → set.testBit c = true → okc nr nc se mo ev te le set c := @decide_eq_true_iff _ (Classical.propDecidable _)
def P3 (nr nc np : Nat) (se mo ev nw wa : Nat → Nat) (W : Nat → Nat → Nat) (set : Nat) : PS := pla3 set np nc (plS nr nc se mo ev set) ev nw wa W
noncomputable def vl (nr nc np : Nat) (se mo ev te le nw wa : Nat → Nat) (W : Nat → Nat → Nat) (set : Nat) : Option Nat := if canB nr nc se mo ev te le set = true ∧ law set np nc le (P3 nr nc np se mo ev nw wa W set).1 = true then some (P3 nr nc np se mo ev nw wa W set).2 else none
theorem rmS_lt {nr : Nat} {se : Nat → Nat} {a : Nat} (h : nr ≤ 5) : rmS nr se a < 5 := by
  unfold rmS
  cases e : fst1 (fun r => decide (ps se nr r = a)) nr 0 with
  | none => show 0 < 5; decide
  | some z => obtain ⟨-, h1, -⟩ := fst1_some _ _ _ e; show z < 5; omega
section SE
variable {N nr nc np set : Nat} {se mo ev te le nw wa : Nat → Nat} {W : Nat → Nat → Nat} {sea moa eva tea lea wc wi wnt ro co ce wd cs rs pu : Nat → Int32}
theorem plS_lt (hE : EnvS nr nc np se mo ev te le nw wa W) : ∀ c, c < 10 → plS nr nc se mo ev set c < 100 := by
  intro c hc
  have h1 := (hE.2.2.2.2.1 c hc).1
  unfold plS
  split
  · exact hE.2.2.2.1 _ (rmS_lt hE.1)
  · exact h1
theorem setC (hN : 40 < N) (hE : EnvS nr nc np se mo ev te le nw wa W) (hR : RS se mo ev te le nw wa W sea moa eva tea lea wc wi wnt) (hro : OrdP se nr ro) (hco : OrdP mo nc co) (hce : rA ce (fun e => cemN ev e nc) 5) (hwd : ∀ q, q < np → wd q = nI (wmN (W q) (nw q))) (hset : set < 2 ^ nc) (x : Int32) (rof pla tk hs ru tb : Nat → Int32) :
    ∃ (r : Nat) (rof' pla' ru' tb' : Nat → Int32), fX3_furnish N x rof pla tk hs ru tb (nI nc) co eva tea (nI nr) ro moa sea lea (nI set) = some (nI r, nI set, rof', pla', fil tk 10 0, fil hs 30 0, ru', tb') ∧ ((r = 1 ∧ canB nr nc se mo ev te le set = true ∧ RP nr nc se mo ev set nc rof' pla' ∧ ∀ (wp : Int32) (bar : Nat → Int32), ∃ (has' tk' bar' : Nat → Int32) (wp' : Int32), fX3_placePupils N (nI set) wp bar (nI np) (nI nc) (fil tk 10 0) lea wd (fil hs 30 0) wnt wc wi eva ce pla' = some (oI (vl nr nc np se mo ev te le nw wa W set), wp', bar', has', tk') ∧ PIc set np nc (plS nr nc se mo ev set) ev (P3 nr nc np se mo ev nw wa W set).1 has' tk' bar' wp') ∨ (r = 0 ∧ ¬ canB nr nc se mo ev te le set = true)) := by
  have hE0 := hE
  obtain ⟨e1, e2, e3, e4, e5, e6, e7⟩ := hE
  obtain ⟨r1, r2, r3, r4, r5, r6, r7, r8⟩ := hR
  have hp : 2 ^ nc ≤ 1024 := Nat.pow_le_pow_right (n := 2) (by decide) e2
  obtain ⟨r, rof', pla', ru', tb', f1, f2⟩ := furn_eq (N := N) hN e1 e2 r1 e4 r2 (fun k hk => (e5 k hk).1) r3 (fun k hk => (e5 k hk).2.2.1) r4 (fun k hk => (e5 k hk).2.2.2) r5 (fun k hk => (e5 k hk).2.1) hro hco (show set < 1024 by omega) x rof pla tk hs ru tb
  refine ⟨r, rof', pla', ru', tb', f1, ?_⟩
  rcases f2 with ⟨g1, g2, g3, g4⟩ | ⟨g1, g2⟩
  · refine Or.inl ⟨g1, canB_iff.mpr g2, g3, fun wp bar => ?_⟩
    obtain ⟨has', tk', bar', wp', h1, h2⟩ := placePupils_eq (N := N) (pl := plS nr nc se mo ev set) (le := le) hN e3 e2 (fun p hp => (e7 p hp).1) (fun p hp => (e7 p hp).2.1) (fun p hp => (e7 p hp).2.2) r6 r7 r3 (fun k hk => (e5 k hk).2.2.1) r8 (plS_lt hE0) (fun c hc hin => ((g3 c (by omega)).1 ⟨hc, hin, ps_bd hc⟩).2) (fun c hc hin => by have := (g2 c hc hin).2.2; have := e6 c hc; omega) hce hwd hset r5 (fun k hk => (e5 k hk).2.1) (has := fil hs 30 0) (tk := fil tk 10 0) (fun p hp => fil_in hp) (fun c hc => fil_in hc) wp bar
    refine ⟨has', tk', bar', wp', ?_, h2⟩
    rw [h1]
    unfold ptv vl P3
    by_cases q : law set np nc le (pla3 set np nc (plS nr nc se mo ev set) ev nw wa W).1 = true
    · rw [if_pos q, if_pos ⟨canB_iff.mpr g2, q⟩]; rfl
    · rw [if_neg q, if_neg (fun z => q z.2)]; rfl
  · exact Or.inr ⟨g1, fun z => g2 (canB_iff.mp z)⟩
theorem can_ecn (hE : EnvS nr nc np se mo ev te le nw wa W) (hR : RS se mo ev te le nw wa W sea moa eva tea lea wc wi wnt) (hset : set < 2 ^ nc) (h : ∀ c, c < nc → set.testBit c = true → okc nr nc se mo ev te le set c) : ∀ e, e < 5 → ecn ev set e nc ≤ nr := by
  obtain ⟨e1, e2, e3, e4, e5, e6, e7⟩ := hE
  obtain ⟨r1, r2, r3, r4, r5, r6, r7, r8⟩ := hR
  have hp : 2 ^ nc ≤ 1024 := Nat.pow_le_pow_right (n := 2) (by decide) e2
  obtain ⟨ro, -, hro⟩ := ord_eq (N := 20) (n0 := 5) (by omega) (by omega) r1 e4 e1 (fun _ => 0)
  obtain ⟨co, -, hco⟩ := ord_eq (N := 20) (n0 := 10) (by omega) (by omega) r2 (fun k hk => (e5 k hk).1) e2 (fun _ => 0)
  obtain ⟨r, rof', pla', ru', tb', -, f2⟩ := furn_eq (N := 50) (by omega) e1 e2 r1 e4 r2 (fun k hk => (e5 k hk).1) r3 (fun k hk => (e5 k hk).2.2.1) r4 (fun k hk => (e5 k hk).2.2.2) r5 (fun k hk => (e5 k hk).2.1) hro hco (show set < 1024 by omega) 0 (fun _ => 0) (fun _ => 0) (fun _ => 0) (fun _ => 0) (fun _ => 0) (fun _ => 0)
  rcases f2 with ⟨-, -, -, g4⟩ | ⟨-, g2⟩
  · intro e he; rw [← ah_all (mo := mo)]; exact g4 e he
  · exact absurd h g2
theorem setR (hN : 40 < N) (hE : EnvS nr nc np se mo ev te le nw wa W) (hR : RS se mo ev te le nw wa W sea moa eva tea lea wc wi wnt) (hcs : cs 0 = nI nc) (hrs : rs 0 = nI nr) (hps : pu 0 = nI np) (hset : set < 2 ^ nc) (tp tr th : Nat → Int32) :
    ∃ (tr' tp' th' : Nat → Int32), fX11_placed N cs rs eva tea moa tp lea tr sea pu th wnt wc wi (nI set) = some (oI (vl nr nc np se mo ev te le nw wa W set), tr', tp', th') ∧ (canB nr nc se mo ev te le set = true → (∀ d, d < nc → set.testBit d = true → tr' d = nI (rmS nr se (aho nc mo ev set d)) ∧ tp' d = nI (plS nr nc se mo ev set d)) ∧ rA th' (P3 nr nc np se mo ev nw wa W set).1 np) := by
  have hE0 := hE
  have hR0 := hR
  obtain ⟨e1, e2, e3, e4, e5, e6, e7⟩ := hE
  obtain ⟨r1, r2, r3, r4, r5, r6, r7, r8⟩ := hR
  have hp : 2 ^ nc ≤ 1024 := Nat.pow_le_pow_right (n := 2) (by decide) e2
  obtain ⟨r, tr', tp', f1, f2⟩ := can_eq (N := N) hN e1 e2 hcs hrs r1 e4 r2 (fun k hk => (e5 k hk).1) r5 (fun k hk => (e5 k hk).2.1) r3 (fun k hk => (e5 k hk).2.2.1) r4 (fun k hk => (e5 k hk).2.2.2) hset tp tr
  unfold fX11_placed
  rw [f1, Option.bind_some]
  dsimp only
  rcases f2 with ⟨g1, g2, g3⟩ | ⟨g1, g2⟩
  · rw [g1, if_neg (show ¬ nI 1 = 0 by decide)]
    obtain ⟨th', h1, h2, h3⟩ := rr_eq (N := N) (rs := rs) (tea := tea) (moa := moa) (tr := tr') (sea := sea) (pl := plS nr nc se mo ev set) (le := le) hN e3 e2 hcs hps (fun p hp => (e7 p hp).1) (fun p hp => (e7 p hp).2.1) (fun p hp => (e7 p hp).2.2) r6 r7 r3 (fun k hk => (e5 k hk).2.2.1) r8 (show set < 1024 by omega) (plS_lt hE0) (fun c hc hin => (g3 c hc hin).2) r5 (fun k hk => (e5 k hk).2.1) th
    refine ⟨tr', tp', th', ?_, fun _ => ⟨g3, h2⟩⟩
    rw [h1]
    unfold ptv vl P3
    by_cases q : law set np nc le (pla3 set np nc (plS nr nc se mo ev set) ev nw wa W).1 = true
    · rw [if_pos q, if_pos ⟨canB_iff.mpr g2, q⟩]; rfl
    · rw [if_neg q, if_neg (fun z => q z.2)]; rfl
  · have hno : ¬ canB nr nc se mo ev te le set = true := fun z => g2 (can_ecn hE0 hR0 hset (canB_iff.mp z)) (canB_iff.mp z)
    rw [g1, if_pos (show nI 0 = 0 from rfl)]
    refine ⟨tr', tp', th, ?_, fun z => absurd z hno⟩
    unfold vl
    rw [if_neg (fun z => hno z.1)]
    rfl
/-! what the placing never does -/
theorem plp_pts (s : PS) (p : Nat) {pl : Nat → Nat} : (plp set np nc pl ev nw wa W s p).2 ≤ s.2 + 6 := by
  unfold plp
  split
  · split
    · show s.2 + _ ≤ _; omega
    · omega
  · omega
theorem plr_pts {rnd : Nat} {pl : Nat → Nat} : ∀ d i (s : PS), (plr set np nc pl ev nw wa W rnd d i s).2 ≤ s.2 + 6 * d := by
  intro d
  induction d with
  | zero => intro i s; exact Nat.le_refl _
  | succ d ih =>
    intro i s
    have h1 := ih (i + 1) (plp set np nc pl ev nw wa W s (pidx np rnd i))
    have h2 := plp_pts (set := set) (np := np) (nc := nc) (ev := ev) (nw := nw) (wa := wa) (W := W) s (pidx np rnd i) (pl := pl)
    show (plr set np nc pl ev nw wa W rnd d (i + 1) (plp set np nc pl ev nw wa W s (pidx np rnd i))).2 ≤ _
    omega
theorem P3_pts (hnp : np ≤ 30) : (P3 nr nc np se mo ev nw wa W set).2 ≤ 540 := by
  unfold P3 pla3
  generalize plS nr nc se mo ev set = pl
  show (plr set np nc pl ev nw wa W 2 np 0 (plr set np nc pl ev nw wa W 1 np 0 (plr set np nc pl ev nw wa W 0 np 0 (fun _ => 0, 0)))).2 ≤ 540
  have h1 := plr_pts (set := set) (np := np) (nc := nc) (ev := ev) (nw := nw) (wa := wa) (W := W) (rnd := 0) (pl := pl) np 0 (fun _ => 0, 0)
  have h2 := plr_pts (set := set) (np := np) (nc := nc) (ev := ev) (nw := nw) (wa := wa) (W := W) (rnd := 1) (pl := pl) np 0 (plr set np nc pl ev nw wa W 0 np 0 (fun _ => 0, 0))
  have h3 := plr_pts (set := set) (np := np) (nc := nc) (ev := ev) (nw := nw) (wa := wa) (W := W) (rnd := 2) (pl := pl) np 0 (plr set np nc pl ev nw wa W 1 np 0 (plr set np nc pl ev nw wa W 0 np 0 (fun _ => 0, 0)))
  dsimp only at h1
  omega
theorem vl_lt (hnp : np ≤ 30) {v : Nat} (h : vl nr nc np se mo ev te le nw wa W set = some v) : v ≤ 540 := by
  unfold vl at h
  split at h
  · cases h; exact P3_pts hnp
  · cases h
/-- a property of masks that each gift keeps -/
theorem plr_keep {rnd : Nat} {pl : Nat → Nat} {Q : (Nat → Nat) → Prop} (hq : ∀ (s : PS) p, p < np → Q s.1 → Q (plp set np nc pl ev nw wa W s p).1) : ∀ d i (s : PS), i + d ≤ np → Q s.1 → Q (plr set np nc pl ev nw wa W rnd d i s).1 := by
  intro d
  induction d with
  | zero => intro i s _ h; exact h
  | succ d ih =>
    intro i s h1 h2
    exact ih (i + 1) _ (by omega) (hq s _ (pidx_lt (by omega)) h2)
theorem P3_keep {Q : (Nat → Nat) → Prop} (h0 : Q (fun _ => 0)) (hq : ∀ (s : PS) p, p < np → Q s.1 → Q (plp set np nc (plS nr nc se mo ev set) ev nw wa W s p).1) : Q (P3 nr nc np se mo ev nw wa W set).1 := by
  unfold P3 pla3
  show Q (plr set np nc (plS nr nc se mo ev set) ev nw wa W 2 np 0 (plr set np nc (plS nr nc se mo ev set) ev nw wa W 1 np 0 (plr set np nc (plS nr nc se mo ev set) ev nw wa W 0 np 0 (fun _ => 0, 0)))).1
  exact plr_keep hq np 0 _ (by omega) (plr_keep hq np 0 _ (by omega) (plr_keep hq np 0 _ (by omega) h0))
/-- every course that a pupil gets is in the set, and wished; pupils that are not there get none -/
theorem P3_sub (hW : ∀ p, p < 30 → ∀ k, k < nw p → W p k < nc) : ∀ p, (p < np → ∀ c, ((P3 nr nc np se mo ev nw wa W set).1 p).testBit c = true → set.testBit c = true ∧ ∃ k, k < nw p ∧ W p k = c) ∧ (¬ p < np → (P3 nr nc np se mo ev nw wa W set).1 p = 0) := by
  refine P3_keep (Q := fun hs => ∀ p, (p < np → ∀ c, (hs p).testBit c = true → set.testBit c = true ∧ ∃ k, k < nw p ∧ W p k = c) ∧ (¬ p < np → hs p = 0)) ?_ ?_
  · intro p
    exact ⟨fun _ c h => absurd h (by rw [Nat.zero_testBit]; decide), fun _ => rfl⟩
  · intro s p hp hs q
    unfold plp
    split
    · split
      · rename_i k hk
        obtain ⟨-, h1, h2⟩ := fst1_some _ _ _ hk
        unfold isF at h2
        rw [decide_eq_true_iff] at h2
        dsimp only
        by_cases y : q = p
        · subst y
          rw [va_up_self]
          refine ⟨fun hq c hc => ?_, fun z => absurd hp z⟩
          rw [tb_or, Bool.or_eq_true, decide_eq_true_iff] at hc
          rcases hc with hc | hc
          · exact (hs q).1 hq c hc
          · subst hc; exact ⟨h2.1, k, by omega, rfl⟩
        · rw [va_up_ne _ _ y]; exact hs q
      · exact hs q
    · exact hs q
end SE
