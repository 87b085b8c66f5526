/-! placing: the reference's rounds -/
section RR
variable {N np nc set : Nat} {nw wa pl ev le : Nat → Nat} {W : Nat → Nat → Nat} {wc wi tp tr eva tea moa lea sea wnt cs rs pu : Nat → Int32}
theorem rr47 {rnd : Nat} (hN : 40 < N) (hnp : np ≤ 30) (hnc : nc ≤ 10) (hcs : cs 0 = nI nc) (hps : pu 0 = nI np) (hnw : ∀ p, p < 30 → nw p ≤ 6) (hwab : ∀ p, p < 30 → wa p < 100) (hW : ∀ p, p < 30 → ∀ k, k < nw p → W p k < nc) (hwc : rA wc nw 30) (hwi : rW wi W) (hev : rA eva ev 10) (he5 : ∀ c, c < 10 → ev c < 5) (hwn : rA wnt wa 30) (hset : set < 1024) (hplb : ∀ c, c < 10 → pl c < 100) (htp : ∀ c, c < nc → set.testBit c = true → tp c = nI (pl c)) (hr : rnd < 3) (r39 : (Nat → Int32) → (Nat → Int32) → (Nat → Int32) → (Nat → Int32) → (Nat → Int32) → (Nat → Int32) → (Nat → Int32) → (Nat → Int32) → (Nat → Int32) → (Nat → Int32) → (Nat → Int32) → (Nat → Int32) → (Nat → Int32) → (Nat → Int32) → Int32 → Int32 → Int32 → Option (Int32 × (Nat → Int32) × (Nat → Int32) × (Nat → Int32))) :
    ∀ d i m (s : PS) (th : Nat → Int32), i + d = np → d < m → rA th s.1 np → (∀ p, p < 30 → s.1 p < 1024) → ∃ th' : Nat → Int32, fX11_placed_47 N r39 m cs rs eva tea moa tp lea tr sea pu th wnt wc wi (nI set) (nI s.2) (nI rnd) (nI i) = r39 cs rs eva tea moa tp lea tr sea pu th' wnt wc wi (nI set) (nI (plr set np nc pl ev nw wa W rnd d i s).2) (nI (rnd + 1)) ∧ rA th' (plr set np nc pl ev nw wa W rnd d i s).1 np ∧ ∀ p, p < 30 → (plr set np nc pl ev nw wa W rnd d i s).1 p < 1024 := by
  have h0 : ns_ald pu 4 0 = some (nI np) := by rw [nz0, nz_ald (by omega) (by omega), hps]
  intro d
  induction d with
  | zero =>
    intro i m s th h1 h2 h3 h4
    obtain ⟨m, rfl⟩ : ∃ z, m = z + 1 := ⟨m - 1, by omega⟩
    refine ⟨th, ?_, h3, h4⟩
    show gX11_placed_47 N r39 (fX11_placed_47 N r39 m) cs rs eva tea moa tp lea tr sea pu th wnt wc wi (nI set) (nI s.2) (nI rnd) (nI i) = _
    unfold gX11_placed_47
    rw [h0, Option.bind_some, if_pos (nI_le (by omega) (by omega)), nz_let, nI_1]
    rfl
  | succ d ih =>
    intro i m s th h1 h2 h3 h4
    obtain ⟨m, rfl⟩ : ∃ z, m = z + 1 := ⟨m - 1, by omega⟩
    have hix : pidx np rnd i < np := pidx_lt (by omega)
    obtain ⟨th1, e1, e2, e3⟩ := plp_r (N := N) (rs := rs) (tea := tea) (moa := moa) (lea := lea) (tr := tr) (sea := sea) (pts := s.2) (i := i) (rnd := rnd) hN hnp hnc hcs hps hnw hwab hW hwc hwi hev he5 hwn h3 h4 hset hplb htp hix r39 (fX11_placed_47 N r39 m)
    obtain ⟨th', f1, f2, f3⟩ := ih (i + 1) m (plp set np nc pl ev nw wa W s (pidx np rnd i)) th1 (by omega) (by omega) e2 e3
    refine ⟨th', ?_, f2, f3⟩
    show _ = r39 cs rs eva tea moa tp lea tr sea pu th' wnt wc wi (nI set) (nI (plr set np nc pl ev nw wa W rnd d (i + 1) (plp set np nc pl ev nw wa W s (pidx np rnd i))).2) (nI (rnd + 1))
    rw [← f1, ← e1]
    show gX11_placed_47 N r39 (fX11_placed_47 N r39 m) cs rs eva tea moa tp lea tr sea pu th wnt wc wi (nI set) (nI s.2) (nI rnd) (nI i) = _
    unfold gX11_placed_47
    rw [h0, Option.bind_some, if_neg (nI_ge (by omega) (by omega)), Option.bind_some]
    unfold pidx
    by_cases q : rnd = 1
    · rw [if_pos (show nI rnd = 1 by rw [q]; rfl), if_pos q, last_ix (by omega)]
    · rw [if_neg (show ¬ nI rnd = 1 by rw [nz1, nz_eq (by omega) (by omega)]; exact q), if_neg q]
theorem rr214 {hs : Nat → Nat} {th : Nat → Int32} {pts : Nat} (hN : 40 < N) (hnp : np ≤ 30) (hnc : nc ≤ 10) (hcs : cs 0 = nI nc) (hps : pu 0 = nI np) (hset : set < 1024) (hh : rA th hs np) (hm : ∀ p, p < 30 → hs p < 1024) (hle : rA lea le 10) (hleb : ∀ k, k < 10 → le k < 100) :
    ∀ d i m, i + d = nc → d < m → fX11_placed_214 N m cs rs eva tea moa tp lea tr sea pu th wnt wc wi (nI set) (nI pts) (nI i) = some (if ∀ c, c < nc → i ≤ c → set.testBit c = true → le c ≤ cnt hs c np then nI pts else nM, tr, tp, th) := by
  have hc0 : ns_ald cs 4 0 = some (nI nc) := by rw [nz0, nz_ald (by omega) (by omega), hcs]
  intro d
  induction d with
  | zero =>
    intro i m h1 h2
    obtain ⟨m, rfl⟩ : ∃ z, m = z + 1 := ⟨m - 1, by omega⟩
    show gX11_placed_214 N (fX11_placed_214 N m) cs rs eva tea moa tp lea tr sea pu th wnt wc wi (nI set) (nI pts) (nI i) = _
    unfold gX11_placed_214
    rw [hc0, Option.bind_some, if_pos (nI_le (by omega) (by omega)), if_pos (fun c a b => by omega)]
  | succ d ih =>
    intro i m h1 h2
    obtain ⟨m, rfl⟩ : ∃ z, m = z + 1 := ⟨m - 1, by omega⟩
    have hcl := cnt_le hs i np
    have hlb := hleb i (by omega)
    show gX11_placed_214 N (fX11_placed_214 N m) cs rs eva tea moa tp lea tr sea pu th wnt wc wi (nI set) (nI pts) (nI i) = _
    unfold gX11_placed_214
    rw [hc0, Option.bind_some, if_neg (nI_ge (by omega) (by omega)), bt_shr i (by omega) set hset]
    by_cases q : set.testBit i = true
    · rw [if_neg (bt_ne q), taken_eq hN hps hnp hh hm (by omega), Option.bind_some, nz_ald (by omega) (by omega), hle i (by omega), Option.bind_some]
      by_cases y : le i ≤ cnt hs i np
      · rw [if_pos (nI_le y (by omega)), nz_let, nI_1, ih (i + 1) m (by omega) (by omega)]
        have e : (∀ c, c < nc → i + 1 ≤ c → set.testBit c = true → le c ≤ cnt hs c np) = ∀ c, c < nc → i ≤ c → set.testBit c = true → le c ≤ cnt hs c np := by
          refine propext ⟨fun z c a b => ?_, fun z c a b => z c a (by omega)⟩
          by_cases w : c = i
          · subst w; exact fun _ => y
          · exact z c a (by omega)
        rw [iteq e]
      · rw [if_neg (nI_ge (by omega) (by omega)), if_neg (fun z => y (z i (by omega) (Nat.le_refl _) q))]; rfl
    · rw [if_pos (bt_is q), nz_let, nI_1, ih (i + 1) m (by omega) (by omega)]
      have e : (∀ c, c < nc → i + 1 ≤ c → set.testBit c = true → le c ≤ cnt hs c np) = ∀ c, c < nc → i ≤ c → set.testBit c = true → le c ≤ cnt hs c np := by
        refine propext ⟨fun z c a b => ?_, fun z c a b => z c a (by omega)⟩
        by_cases w : c = i
        · subst w; exact fun v => absurd v q
        · exact z c a (by omega)
      rw [iteq e]
theorem rr39 (hN : 40 < N) (hnp : np ≤ 30) (hnc : nc ≤ 10) (hcs : cs 0 = nI nc) (hps : pu 0 = nI np) (hnw : ∀ p, p < 30 → nw p ≤ 6) (hwab : ∀ p, p < 30 → wa p < 100) (hW : ∀ p, p < 30 → ∀ k, k < nw p → W p k < nc) (hwc : rA wc nw 30) (hwi : rW wi W) (hev : rA eva ev 10) (he5 : ∀ c, c < 10 → ev c < 5) (hwn : rA wnt wa 30) (hset : set < 1024) (hplb : ∀ c, c < 10 → pl c < 100) (htp : ∀ c, c < nc → set.testBit c = true → tp c = nI (pl c)) (hle : rA lea le 10) (hleb : ∀ k, k < 10 → le k < 100) :
    ∀ d rnd m (s : PS) (th : Nat → Int32), rnd + d = 3 → d < m → rA th s.1 np → (∀ p, p < 30 → s.1 p < 1024) → ∃ th' : Nat → Int32, fX11_placed_39 N m cs rs eva tea moa tp lea tr sea pu th wnt wc wi (nI set) (nI s.2) (nI rnd) = some (ptv set np nc le (plR set np nc pl ev nw wa W d rnd s), tr, tp, th') ∧ rA th' (plR set np nc pl ev nw wa W d rnd s).1 np ∧ ∀ p, p < 30 → (plR set np nc pl ev nw wa W d rnd s).1 p < 1024 := by
  intro d
  induction d with
  | zero =>
    intro rnd m s th h1 h2 h3 h4
    obtain ⟨m, rfl⟩ : ∃ z, m = z + 1 := ⟨m - 1, by omega⟩
    refine ⟨th, ?_, h3, h4⟩
    have h := rr214 (N := N) (rs := rs) (eva := eva) (tea := tea) (moa := moa) (tp := tp) (tr := tr) (sea := sea) (wnt := wnt) (wc := wc) (wi := wi) (pts := s.2) hN hnp hnc hcs hps hset h3 h4 hle hleb nc 0 N (by omega) (by omega)
    show gX11_placed_39 N (fX11_placed_39 N m) cs rs eva tea moa tp lea tr sea pu th wnt wc wi (nI set) (nI s.2) (nI rnd) = _
    unfold gX11_placed_39 ptv law
    rw [if_pos (by rw [nz3]; exact nI_le (by omega) (by omega)), show (0 : Int32) = nI 0 from rfl, h]
    have e : (∀ c, c < nc → 0 ≤ c → set.testBit c = true → le c ≤ cnt s.1 c np) = (decide (∀ c, c < nc → set.testBit c = true → le c ≤ cnt s.1 c np) = true) := by
      rw [decide_eq_true_eq]
      exact propext ⟨fun z c a => z c a (by omega), fun z c a _ => z c a⟩
    rw [iteq e]
    rfl
  | succ d ih =>
    intro rnd m s th h1 h2 h3 h4
    obtain ⟨m, rfl⟩ : ∃ z, m = z + 1 := ⟨m - 1, by omega⟩
    obtain ⟨th1, e1, e2, e3⟩ := rr47 (N := N) (rs := rs) (tea := tea) (moa := moa) (lea := lea) (tr := tr) (sea := sea) (rnd := rnd) hN hnp hnc hcs hps hnw hwab hW hwc hwi hev he5 hwn hset hplb htp (by omega) (fX11_placed_39 N m) np 0 N s th (by omega) (by omega) h3 h4
    obtain ⟨th', f1, f2, f3⟩ := ih (rnd + 1) m (plr set np nc pl ev nw wa W rnd np 0 s) th1 (by omega) (by omega) e2 e3
    refine ⟨th', ?_, f2, f3⟩
    show _ = some (ptv set np nc le (plR set np nc pl ev nw wa W d (rnd + 1) (plr set np nc pl ev nw wa W rnd np 0 s)), tr, tp, th')
    rw [← f1, ← e1]
    show gX11_placed_39 N (fX11_placed_39 N m) cs rs eva tea moa tp lea tr sea pu th wnt wc wi (nI set) (nI s.2) (nI rnd) = _
    unfold gX11_placed_39
    rw [if_neg (by rw [nz3]; exact nI_ge (by omega) (by omega))]
    rfl
theorem rr12 (hN : 40 < N) (hnp : np ≤ 30) (hps : pu 0 = nI np) :
    ∀ d p m (th : Nat → Int32), p + d = np → d < m → (∀ q, q < p → th q = nI 0) → ∃ th' : Nat → Int32, fX11_placed_12 N m cs rs eva tea moa tp lea tr sea pu th wnt wc wi (nI set) (nI p) = fX11_placed_39 N N cs rs eva tea moa tp lea tr sea pu th' wnt wc wi (nI set) (nI 0) (nI 0) ∧ ∀ q, q < np → th' q = nI 0 := by
  have h0 : ns_ald pu 4 0 = some (nI np) := by rw [nz0, nz_ald (by omega) (by omega), hps]
  intro d
  induction d with
  | zero =>
    intro p m th h1 h2 h3
    obtain ⟨m, rfl⟩ : ∃ z, m = z + 1 := ⟨m - 1, by omega⟩
    refine ⟨th, ?_, fun q hq => h3 q (by omega)⟩
    show gX11_placed_12 N (fX11_placed_12 N m) cs rs eva tea moa tp lea tr sea pu th wnt wc wi (nI set) (nI p) = _
    unfold gX11_placed_12
    rw [h0, Option.bind_some, if_pos (nI_le (by omega) (by omega))]
    rfl
  | succ d ih =>
    intro p m th h1 h2 h3
    obtain ⟨m, rfl⟩ : ∃ z, m = z + 1 := ⟨m - 1, by omega⟩
    obtain ⟨th', e1, e2⟩ := ih (p + 1) m (upd th p (nI 0)) (by omega) (by omega) (fun q hq => by
      by_cases z : q = p
      · subst z; exact pk_us
      · rw [pk_un z]; exact h3 q (by omega))
    refine ⟨th', ?_, e2⟩
    rw [← e1]
    show gX11_placed_12 N (fX11_placed_12 N m) cs rs eva tea moa tp lea tr sea pu th wnt wc wi (nI set) (nI p) = _
    unfold gX11_placed_12
    rw [h0, Option.bind_some, if_neg (nI_ge (by omega) (by omega)), nz_ast (by omega) (by omega), Option.bind_some, nz_let, nI_1]
    rfl
/-- the reference's placing of a set that can be held -/
theorem rr_eq (hN : 40 < N) (hnp : np ≤ 30) (hnc : nc ≤ 10) (hcs : cs 0 = nI nc) (hps : pu 0 = nI np) (hnw : ∀ p, p < 30 → nw p ≤ 6) (hwab : ∀ p, p < 30 → wa p < 100) (hW : ∀ p, p < 30 → ∀ k, k < nw p → W p k < nc) (hwc : rA wc nw 30) (hwi : rW wi W) (hev : rA eva ev 10) (he5 : ∀ c, c < 10 → ev c < 5) (hwn : rA wnt wa 30) (hset : set < 1024) (hplb : ∀ c, c < 10 → pl c < 100) (htp : ∀ c, c < nc → set.testBit c = true → tp c = nI (pl c)) (hle : rA lea le 10) (hleb : ∀ k, k < 10 → le k < 100) (th : Nat → Int32) :
    ∃ th' : Nat → Int32, fX11_placed_12 N N cs rs eva tea moa tp lea tr sea pu th wnt wc wi (nI set) 0 = some (ptv set np nc le (pla3 set np nc pl ev nw wa W), tr, tp, th') ∧ rA th' (pla3 set np nc pl ev nw wa W).1 np ∧ ∀ p, p < 30 → (pla3 set np nc pl ev nw wa W).1 p < 1024 := by
  obtain ⟨th1, e1, e2⟩ := rr12 (N := N) (np := np) (set := set) (cs := cs) (rs := rs) (eva := eva) (tea := tea) (moa := moa) (tp := tp) (lea := lea) (tr := tr) (sea := sea) (wnt := wnt) (wc := wc) (wi := wi) hN hnp hps np 0 N th (by omega) (by omega) (fun q hq => by omega)
  obtain ⟨th', f1, f2⟩ := rr39 (N := N) (rs := rs) (tea := tea) (moa := moa) (tr := tr) (sea := sea) (le := le) hN hnp hnc hcs hps hnw hwab hW hwc hwi hev he5 hwn hset hplb htp hle hleb 3 0 N (fun _ => 0, 0) th1 (by omega) (by omega) e2 (fun _ _ => by show 0 < 1024; decide)
  exact ⟨th', e1.trans f1, f2⟩
end RR
