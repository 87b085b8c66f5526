/-! open: both come to one state -/
/-- a number or NONE: 0 is NONE, r + 1 is r -/
def dI : Nat → Int32
  | 0 => nM
  | r + 1 => nI r
def rD (f : Nat → Int32) (g : Nat → Nat) (n : Nat) : Prop := ∀ j, j < n → f j = dI (g j)
/-- rooms and places of a set -/
def roO (nr nc : Nat) (se mo ev : Nat → Nat) (set c : Nat) : Nat := if set.testBit c = true then rmS nr se (aho nc mo ev set c) + 1 else 0
def plO (nr nc : Nat) (se mo ev : Nat → Nat) (set c : Nat) : Nat := if set.testBit c = true then plS nr nc se mo ev set c else 0
theorem tb_lt {set nc c : Nat} (hset : set < 2 ^ nc) (h : set.testBit c = true) : c < nc := by
  by_cases y : c < nc
  · exact y
  · have : set < 2 ^ c := Nat.lt_of_lt_of_le hset (Nat.pow_le_pow_right (by decide) (by omega))
    rw [Nat.testBit_lt_two_pow this] at h
    cases h
section OP
variable {N nr nc np : Nat} {se mo ev te le nw wa : Nat → Nat} {W : Nat → Nat → Nat} {sea moa eva tea lea wc wi wnt cs rs pu : Nat → Int32}
theorem RP_rD {set : Nat} {rof pla : Nat → Int32} (hset : set < 2 ^ nc) (h : RP nr nc se mo ev set nc rof pla) : rD rof (roO nr nc se mo ev set) 10 ∧ rA pla (plO nr nc se mo ev set) 10 := by
  refine ⟨fun c hc => ?_, fun c hc => ?_⟩
  · obtain ⟨h1, h2⟩ := h c hc
    unfold roO
    by_cases q : set.testBit c = true
    · rw [if_pos q]; exact (h1 ⟨tb_lt hset q, q, ps_bd (tb_lt hset q)⟩).1
    · rw [if_neg q]; exact (h2 (fun z => q z.2.1)).1
  · obtain ⟨h1, h2⟩ := h c hc
    unfold plO
    by_cases q : set.testBit c = true
    · rw [if_pos q]; exact (h1 ⟨tb_lt hset q, q, ps_bd (tb_lt hset q)⟩).2
    · rw [if_neg q]; exact (h2 (fun z => q z.2.1)).2
theorem open23 (hN : 20000 ≤ N) (hE : EnvS nr nc np se mo ev te le nw wa W) (hR : RS se mo ev te le nw wa W sea moa eva tea lea wc wi wnt) (hcs : cs 0 = nI nc) (hrs : rs 0 = nI nr) (hps : pu 0 = nI np) {cod : Int32} {wk hl a b c d e g h : Nat → Int32} :
    ∀ dd set m (bb : Nat × Nat) (tp tr th : Nat → Int32), set + dd = 2 ^ nc → dd < m → bb.1 < 2 ^ nc → vl nr nc np se mo ev te le nw wa W bb.1 = some bb.2 →
      ∃ tp' tr' th' : Nat → Int32, fX11_open_23 N m cod wk cs rs eva tea moa tp lea tr sea pu th wnt wc wi hl a b c d e g h (nI bb.1) (nI bb.2) (nI set) = ((ns_ast wk 4 0 0).bind fun y3 => (ns_ast hl 4 0 (nI (bst nr nc np se mo ev te le nw wa W dd set bb).1)).bind fun y4 => (fX11_begins N a b c d e g h).bind fun o5 => fX11_open_86 N N cod y3 cs rs eva tea moa tp' lea tr' sea pu th' wnt wc wi y4 o5.1 o5.2.1 o5.2.2.1 o5.2.2.2.1 o5.2.2.2.2.1 o5.2.2.2.2.2.1 o5.2.2.2.2.2.2 (nI (bst nr nc np se mo ev te le nw wa W dd set bb).1) (nI (bst nr nc np se mo ev te le nw wa W dd set bb).2) 0) ∧ (∀ z, z < nc → (bst nr nc np se mo ev te le nw wa W dd set bb).1.testBit z = true → tr' z = nI (rmS nr se (aho nc mo ev (bst nr nc np se mo ev te le nw wa W dd set bb).1 z)) ∧ tp' z = nI (plS nr nc se mo ev (bst nr nc np se mo ev te le nw wa W dd set bb).1 z)) ∧ rA th' (P3 nr nc np se mo ev nw wa W (bst nr nc np se mo ev te le nw wa W dd set bb).1).1 np := by
  have e2 := hE.2.1
  have e3 := hE.2.2.1
  have hp : 2 ^ nc ≤ 1024 := Nat.pow_le_pow_right (n := 2) (by decide) e2
  have hc0 : ns_ald cs 4 0 = some (nI nc) := by rw [nz0, nz_ald (by omega) (by omega), hcs]
  intro dd
  induction dd with
  | zero =>
    intro set m bb tp tr th h1 h2 h3 h4
    obtain ⟨m, rfl⟩ : ∃ z, m = z + 1 := ⟨m - 1, by omega⟩
    obtain ⟨tr', tp', th', f1, f2⟩ := setR (N := N) (by omega) hE hR hcs hrs hps h3 tp tr th
    have hcan : canB nr nc se mo ev te le bb.1 = true := by
      unfold vl at h4
      split at h4
      · rename_i z; exact z.1
      · cases h4
    obtain ⟨g1, g2⟩ := f2 hcan
    refine ⟨tp', tr', th', ?_, g1, g2⟩
    show gX11_open_23 N (fX11_open_23 N m) cod wk cs rs eva tea moa tp lea tr sea pu th wnt wc wi hl a b c d e g h (nI bb.1) (nI bb.2) (nI set) = _
    unfold gX11_open_23
    rw [hc0, Option.bind_some, pow_nI nc e2, if_pos (nI_le (by omega) (by omega)), f1, Option.bind_some, h4]
    rfl
  | succ dd ih =>
    intro set m bb tp tr th h1 h2 h3 h4
    obtain ⟨m, rfl⟩ : ∃ z, m = z + 1 := ⟨m - 1, by omega⟩
    have hset : set < 2 ^ nc := by omega
    have hb2 := vl_lt e3 h4
    obtain ⟨tr1, tp1, th1, f1, f2⟩ := setR (N := N) (by omega) hE hR hcs hrs hps hset tp tr th
    have hst : fX11_open_23 N (m + 1) cod wk cs rs eva tea moa tp lea tr sea pu th wnt wc wi hl a b c d e g h (nI bb.1) (nI bb.2) (nI set) = gX11_open_23 N (fX11_open_23 N m) cod wk cs rs eva tea moa tp lea tr sea pu th wnt wc wi hl a b c d e g h (nI bb.1) (nI bb.2) (nI set) := rfl
    rw [hst]
    unfold gX11_open_23
    rw [hc0, Option.bind_some, pow_nI nc e2, if_neg (nI_ge (by omega) (by omega)), f1, Option.bind_some]
    simp only [bst]
    cases ev' : vl nr nc np se mo ev te le nw wa W set with
    | none =>
      dsimp only
      rw [if_pos (show oI none ≤ nI bb.2 by rw [show oI none = nM from rfl, nz_Mle (by omega)]; trivial), nz_let, nI_1]
      exact ih (set + 1) m bb _ _ _ (by omega) (by omega) h3 h4
    | some v =>
      have hv := vl_lt e3 ev'
      rw [show oI (some v) = nI v from rfl]
      dsimp only
      by_cases y : bb.2 < v
      · rw [if_neg (nI_ge y (by omega)), nz_let, nI_1, if_pos y]
        exact ih (set + 1) m (set, v) _ _ _ (by omega) (by omega) hset ev'
      · rw [if_pos (nI_le (by omega) (by omega)), nz_let, nI_1, if_neg y]
        exact ih (set + 1) m bb _ _ _ (by omega) (by omega) h3 h4
/-- what a term begins with -/
noncomputable def mu0 (nr nc np : Nat) (se mo ev te le nw wa : Nat → Nat) (W : Nat → Nat → Nat) : HM := mus np nc (bestS nr nc np se mo ev te le nw wa W).1 nw wa (plO nr nc se mo ev (bestS nr nc np se mo ev te le nw wa W).1) ev W 1080 ((P3 nr nc np se mo ev nw wa W (bestS nr nc np se mo ev te le nw wa W).1).1, fun _ => 0)
theorem best_ok (hE : EnvS nr nc np se mo ev te le nw wa W) : (bestS nr nc np se mo ev te le nw wa W).1 < 2 ^ nc ∧ vl nr nc np se mo ev te le nw wa W (bestS nr nc np se mo ev te le nw wa W).1 = some (bestS nr nc np se mo ev te le nw wa W).2 := by
  have hp0 : 0 < 2 ^ nc := Nat.two_pow_pos _
  exact bst_ok hE.2.1 (2 ^ nc - 1) 1 (0, 0) (by omega) hp0 vl_0
theorem env_best (hE : EnvS nr nc np se mo ev te le nw wa W) : Env0 np nc (bestS nr nc np se mo ev te le nw wa W).1 nw wa (plO nr nc se mo ev (bestS nr nc np se mo ev te le nw wa W).1) ev W := by
  have hb := (best_ok hE).1
  have hp : 2 ^ nc ≤ 1024 := Nat.pow_le_pow_right (n := 2) (by decide) hE.2.1
  refine ⟨hE.2.2.1, hE.2.1, by omega, fun p hp => ⟨(hE.2.2.2.2.2.2 p hp).1, (hE.2.2.2.2.2.2 p hp).2.1⟩, fun p hp k hk => by have := (hE.2.2.2.2.2.2 p hp).2.2 k hk; have := hE.2.1; omega, fun c hc => ⟨by have := (hE.2.2.2.2.1 c hc).2.2.1; omega, ?_⟩⟩
  unfold plO
  split
  · exact plS_lt hE c hc
  · decide
theorem P3_lt (hE : EnvS nr nc np se mo ev te le nw wa W) {set : Nat} : ∀ p, p < 30 → (P3 nr nc np se mo ev nw wa W set).1 p < 1024 := by
  refine P3_keep (Q := fun hs => ∀ p, p < 30 → hs p < 1024) (fun _ _ => by show 0 < 1024; decide) ?_
  intro s p hp hs
  have hp3 : p < 30 := by have := hE.2.2.1; omega
  unfold plp
  split
  · split
    · rename_i k hk
      obtain ⟨-, h1, -⟩ := fst1_some _ _ _ hk
      exact mvm_all hs (or_lt (hs p hp3) (by have := (hE.2.2.2.2.2.2 p hp3).2.2 k (by omega); have := hE.2.1; omega))
    · exact hs
  · exact hs
theorem openR (hN : 20000 ≤ N) (hE : EnvS nr nc np se mo ev te le nw wa W) (hinj : ∀ p, p < 30 → ∀ i j, i < nw p → j < nw p → W p i = W p j → i = j) (hR : RS se mo ev te le nw wa W sea moa eva tea lea wc wi wnt) (hcs : cs 0 = nI nc) (hrs : rs 0 = nI nr) (hps : pu 0 = nI np) {cod : Int32} {wk : Nat → Int32} (hwk : wk 0 = nM) (hl a b c d e g h tp tr th : Nat → Int32) :
    ∃ tr' tp' th' a' b' c' d' e' g' h' : Nat → Int32, fX11_open N cod wk cs rs eva tea moa tp lea tr sea pu th wnt wc wi hl a b c d e g h = some (nI (bestS nr nc np se mo ev te le nw wa W).2, 0, tr', tp', th', upd wk 0 (nI 0), upd hl 0 (nI (bestS nr nc np se mo ev te le nw wa W).1), a', b', c', d', e', g', h') ∧ rD a' (roO nr nc se mo ev (bestS nr nc np se mo ev te le nw wa W).1) 10 ∧ kp a a' 10 ∧ rA b' (plO nr nc se mo ev (bestS nr nc np se mo ev te le nw wa W).1) 10 ∧ kp b b' 10 ∧ fi c c' 10 0 ∧ rA d' (mu0 nr nc np se mo ev te le nw wa W).1 30 ∧ kp d d' 30 ∧ rA e' (mu0 nr nc np se mo ev te le nw wa W).2 30 ∧ kp e e' 30 ∧ fi g g' 6 0 ∧ fi h h' 5 0 := by
  have e2 := hE.2.1
  have e3 := hE.2.2.1
  have hp0 : 0 < 2 ^ nc := Nat.two_pow_pos _
  have hp : 2 ^ nc ≤ 1024 := Nat.pow_le_pow_right (n := 2) (by decide) e2
  obtain ⟨hb1, hb2⟩ := best_ok hE
  obtain ⟨tp', tr', th', f1, f2, f3⟩ := open23 (N := N) hN hE hR hcs hrs hps (cod := 0) (wk := wk) (hl := hl) (a := a) (b := b) (c := c) (d := d) (e := e) (g := g) (h := h) (2 ^ nc - 1) 1 N (0, 0) tp tr th (by omega) (by omega) hp0 vl_0
  obtain ⟨a1, b1, c1, d1, e1, g1, h1, k0, ka, kb, kc, kd, ke, kg, kh⟩ := begins_eq (N := N) (by omega) a b c d e g h
  obtain ⟨a2, b2, l1, l2, l3⟩ := open86 (N := N) (nc := nc) (rs := rs) (sea := sea) (moa := moa) (eva := eva) (tea := tea) (lea := lea) (wc := wc) (wi := wi) (wnt := wnt) (pu := pu) (by omega) e2 hcs (best := (bestS nr nc np se mo ev te le nw wa W).1) (by omega) (tr := tr') (tp := tp') f2 (cod := 0) (l3 := nI (bestS nr nc np se mo ev te le nw wa W).2) (wk := upd wk 0 (nI 0)) (th := th') (hl := upd hl 0 (nI (bestS nr nc np se mo ev te le nw wa W).1)) (c := c1) (d := d1) (e := e1) (g := g1) (h := h1) nc 0 N a1 b1 (by omega) (by omega)
  obtain ⟨d2, m1, m2, m3⟩ := open168 (N := N) (np := np) (cs := cs) (rs := rs) (sea := sea) (moa := moa) (eva := eva) (tea := tea) (lea := lea) (wc := wc) (wi := wi) (wnt := wnt) (by omega) e3 hps (cod := 0) (l3 := nI (bestS nr nc np se mo ev te le nw wa W).2) (wk := upd wk 0 (nI 0)) (th := th') (hl := upd hl 0 (nI (bestS nr nc np se mo ev te le nw wa W).1)) (a := a2) (b := b2) (c := c1) (e := e1) (g := g1) (h := h1) (tp := tp') (tr := tr') np 0 N d1 (by omega) (by omega) (fun q hq => by omega)
  have hda : rD a2 (roO nr nc se mo ev (bestS nr nc np se mo ev te le nw wa W).1) 10 := fun j hj => by
    unfold roO
    by_cases q : j < nc
    · rw [(l2 j (by omega) q).1]
      by_cases y : (bestS nr nc np se mo ev te le nw wa W).1.testBit j = true
      · rw [if_pos y, if_pos y]; rfl
      · rw [if_neg y, if_neg y]; rfl
    · rw [(l3 j (fun z => q z.2)).1, ka.1 j hj, if_neg (fun z => q (tb_lt hb1 z))]; rfl
  have hdb : rA b2 (plO nr nc se mo ev (bestS nr nc np se mo ev te le nw wa W).1) 10 := fun j hj => by
    unfold plO
    by_cases q : j < nc
    · rw [(l2 j (by omega) q).2]
      by_cases y : (bestS nr nc np se mo ev te le nw wa W).1.testBit j = true
      · rw [if_pos y, if_pos y]; rfl
      · rw [if_neg y, if_neg y]
    · rw [(l3 j (fun z => q z.2)).2, kb.1 j hj, if_neg (fun z => q (tb_lt hb1 z))]; rfl
  have hdd : rA d2 (P3 nr nc np se mo ev nw wa W (bestS nr nc np se mo ev te le nw wa W).1).1 30 := fun j hj => by
    by_cases q : j < np
    · rw [m2 j q]; exact f3 j q
    · rw [m3 j (by omega), kd.1 j hj, (P3_sub (nr := nr) (nc := nc) (np := np) (set := (bestS nr nc np se mo ev te le nw wa W).1) (se := se) (mo := mo) (ev := ev) (nw := nw) (wa := wa) (W := W) (fun p hp => (hE.2.2.2.2.2.2 p hp).2.2) j).2 q]; rfl
  obtain ⟨d3, e4, n1, n2, n3, n4, n5⟩ := moveUpR_on (N := N) hN (env_best hE) hinj hps hcs (pk_us (f := hl)) hR.2.2.2.2.2.1 hR.2.2.2.2.2.2.1 hdb hR.2.2.1 hR.2.2.2.2.2.2.2 hdd (P3_lt hE) (mv := fun _ => 0) (mva := e1) (fun j hj => ke.1 j hj) (wka := upd wk 0 (nI 0)) (wk := 0) pk_us (by decide)
  refine ⟨tr', tp', th', a2, b2, c1, d3, e4, g1, h1, ?_, hda, ?_, hdb, ?_, kc, n2, ?_, n3, ke.2.tr n5, kg, kh⟩
  · unfold fX11_open
    rw [nz0, nz_ald (by omega) (by omega), hwk, Option.bind_some, if_pos (show nM = -1 from rfl), ← nz0]
    refine Eq.trans f1 ?_
    rw [nz0, nz_ast (by omega) (by omega), Option.bind_some, nz_ast (by omega) (by omega), Option.bind_some, k0, Option.bind_some]
    dsimp only
    refine Eq.trans l1 ?_
    rw [nz0]
    refine Eq.trans m1 ?_
    rw [n1]
    rfl
  · intro j hj; rw [(l3 j (by omega)).1]; exact ka.2 j hj
  · intro j hj; rw [(l3 j (by omega)).2]; exact kb.2 j hj
  · exact kp.tr (fun j hj => by rw [m3 j (by omega)]; exact kd.2 j hj) n4
end OP
