/-! the text of fees: a line, all lines -/
section PC
variable {N : Nat} {u : Nat → Nat} {t : Nat} {cnt : Int32} {kn pl nu tr : Nat → Int32}
theorem start_both {l : Nat} (hl : l < 1000) {sub sgn bnd tc nW nS nT nTe : Nat → Int32} (h : LTs (min l 16) sub sgn bnd tc nW nS nT nTe) : ∃ tc1, fX2_startLine N tc (nI l) = some tc1 ∧ LTs (min l 16) sub sgn bnd tc1 nW nS nT (upd nTe (min l 16) 0) ∧ (l < 16 → LT l 0 sub sgn bnd tc1 nW nS nT (upd nTe (min l 16) 0)) := by
  unfold fX2_startLine
  rw [iteq (show (16 ≤ nI l) = (16 ≤ l) from nz_le (a := 16) (by decide) (by omega))]
  by_cases c : 16 ≤ l
  · rw [if_pos c]
    refine ⟨tc, rfl, fun j hj => ?_, fun h => by omega⟩
    obtain ⟨m, h1, h2, h3, h4⟩ := h j hj
    exact ⟨m, h1, h2, by rw [ud_n (by omega)]; exact h3, h4⟩
  · rw [if_neg c, nz_ast (by omega) (by omega), Option.bind_some, show min l 16 = l by omega]
    rw [show min l 16 = l by omega] at h
    refine ⟨_, rfl, fun j hj => ?_, fun h => ⟨by omega, ud_s, ud_s, fun i hi => by omega⟩⟩
    obtain ⟨m, h1, h2, h3, h4⟩ := h j hj
    exact ⟨m, h1, by rw [ud_n (by omega)]; exact h2, by rw [ud_n (by omega)]; exact h3, h4⟩
/-- how reading a line ends, all of it -/
def LG (u : Nat → Nat) (t q l : Nat) (lat : Int32) (C : Option (Int32 × Int32 × Int32 × (Nat → Int32) × Int32 × (Nat → Int32) × (Nat → Int32) × (Nat → Int32) × (Nat → Int32) × (Nat → Int32) × (Nat → Int32) × Int32)) (R : Option (Int32 × Int32 × Int32 × (Nat → Int32) × Int32 × Int32 × Int32 × Int32 × Int32 × Int32 × Int32 × (Nat → Int32) × (Nat → Int32) × (Nat → Int32) × (Nat → Int32) × (Nat → Int32) × (Nat → Int32) × Int32)) : Prop :=
  (∃ qf oc or, PT u t qf ∧ C = some oc ∧ oc.1 = 0 ∧ oc.2.2.2.2.1 = nI (cS u qf) ∧ R = some or ∧ or.1 = 0 ∧ or.2.2.2.2.2.2.2.2.1 = 1 ∧ or.2.2.2.2.2.2.2.2.2.1 = nI qf)
  ∨ (∃ q'' f' fp' lat' lap' s' v' got' tc' sub' sgn' bnd' nTe' nW' nS' nT' act' num' div' nA' nA1' nB' cd', PT u t q'' ∧ q < q'' ∧ C = some (1, f', fp', tc', nI (cS u q''), sub', sgn', bnd', act', num', div', cd') ∧ R = some (1, lat', lap', nTe', nI q'', v', nI (eN u t q''), s', 0, (-1), got', nW', nS', nT', nA', nA1', nB', nI (l + 1)) ∧ TK (kK u t q'') (mN u t q'') s' v' ∧ LF f' fp' lat' lap' ∧ (lat' = 0 → lat = 0 ∧ l + 1 ≤ 16) ∧ LTs (min (l + 1) 16) sub' sgn' bnd' tc' nW' nS' nT' nTe' ∧ LAs (min (l + 1) 16) lat' act' num' div' nA' nA1' nB' ∧ (l < 16 → cd' = nI (l + 1)))
theorem LE.lg {q0 q l : Nat} {lat0 lat : Int32} {tc sub sgn bnd nTe nW nS nT : Nat → Int32} {C R} (h : LE u t q l lat tc sub sgn bnd nTe nW nS nT C R) (hq : q0 ≤ q) (hm : lat = 0 → lat0 = 0 ∧ l + 1 ≤ 16) (h1 : LTs (min l 16) sub sgn bnd tc nW nS nT nTe) (h2 : l < 16 → ∃ k, LT l k sub sgn bnd tc nW nS nT nTe) : LG u t q0 l lat0 C R := by
  rcases h with h | ⟨q'', f', fp', lat', lap', s', v', got', act', num', div', nA', nA1', nB', cd', a1, a2, a3, a4, a5, a6, a7, a8, a9⟩
  · exact Or.inl h
  · refine Or.inr ⟨q'', f', fp', lat', lap', s', v', got', tc, sub, sgn, bnd, nTe, nW, nS, nT, act', num', div', nA', nA1', nB', cd', a1, by omega, a3, a4, a5, a6, fun h => hm (a7 h), fun j hj => ?_, a8, a9⟩
    by_cases e : j < min l 16
    · exact h1 j e
    · obtain rfl : j = l := by omega
      exact h2 (by omega)
theorem line_both (hC : CT u t cnt kn pl nu) (hT : TB tr u) (ht : t ≤ 500) (hN : 1000 < N) {q l : Nat} (hq : PT u t q) (hl : l < 1000) {f fp lat lap s v got cd : Int32} (hk : TK (kK u t q) (mN u t q) s v) (hF : LF f fp lat lap) (h16 : lat = 0 → l ≤ 16) {tc sub sgn bnd act num div nTe nW nS nT nA nA1 nB : Nat → Int32} (hL : LTs (min l 16) sub sgn bnd tc nW nS nT nTe) (hA : LAs (min l 16) lat act num div nA nA1 nB) :
    LG u t q l lat (fX1_readLine N f (nI (cS u q)) cnt pl fp tc kn nu sub sgn bnd act num div cd (nI l)) (fX11_readLine N (nI l) (nI q) lat lap nTe s v (nI (eN u t q)) (nI t) tr 0 (-1) got nW nS nT nA nA1 nB) := by
  have e16 : (nI l = 16) = (l = 16) := nz_eq (b := 16) (by omega) (by decide)
  have g16 : (16 ≤ nI l) = (16 ≤ l) := nz_le (a := 16) (by decide) (by omega)
  have core : ∀ (f1 fp1 lat1 lap1 : Int32), LF f1 fp1 lat1 lap1 → (lat1 = 0 → lat = 0 ∧ l + 1 ≤ 16) → LG u t q l lat (gX1_readLine_11 N f1 (nI (cS u q)) cnt pl fp1 tc kn nu sub sgn bnd act num div cd (nI l)) (gX11_readLine_37 N (nI l) (nI q) lat1 lap1 nTe s v (nI (eN u t q)) (nI t) tr 0 (-1) got nW nS nT nA nA1 nB (nI (min l 16))) := by
    intro f1 fp1 lat1 lap1 hF1 hm1
    obtain ⟨tc1, b1, b2, b3⟩ := start_both (N := N) hl hL
    have hA1 : LAs (min l 16) lat1 act num div nA nA1 nB := fun j hj => by
      obtain ⟨b, c1, c2, c3, c4, c5, c6⟩ := hA j hj
      refine ⟨b, c1, c2, c3, c4, c5, fun h => ?_⟩
      obtain ⟨x, x1, x2, x3, x4⟩ := c6 h
      exact ⟨x, x1, fun z => x2 (hm1 z).1, x3, x4⟩
    unfold gX1_readLine_11 gX11_readLine_37
    rw [b1, Option.bind_some, nz_ast (show min l 16 < 17 by omega) (by omega), Option.bind_some, hk.word (j := 0) (J := 0) rfl (by decide), Option.bind_some]
    by_cases c : kK u t q = 201
    · have hq1 : q < t := kK_t (u := u) (by omega)
      obtain ⟨p1, p2, p3⟩ := nxt_ok hq hq1
      rw [pass_y hC ht hq (k := 201) (K := 201) rfl (by decide) c, Option.bind_some, if_neg (show ¬ (1 : Int32) = 0 by decide), decide_eq_true c, if_neg (show ¬ eI true = 0 by decide)]
      have hT0 := tests_both (N := N) hC hT ht hN hl (NL := nI l) (nA := nA) (nA1 := nA1) (nB := nB) (t - q + 1) q 0 N N f1 fp1 lat1 lap1 got s v sub sgn bnd tc1 nW nS nT (upd nTe (min l 16) 0) hq hq1 (by omega) (by omega) (by omega) (Nat.zero_le _) hk hF1 b2 (fun h => by rw [show min 0 4 = 0 from rfl]; exact b3 h)
      rcases hT0 with ⟨qf, oc, or, c1, c2, c3, c4, c5, c6, c7, c8⟩ | ⟨q'', f', fp', lat', lap', got', s', v', sub', sgn', bnd', tc', nW', nS', nT', nTe', c1, c2, c3, c4, c5, c6, c7, c8, c9⟩
      · have c2' : fX1_readTests N f1 (nI (cS u (nxt u t q))) cnt pl fp1 kn nu sub sgn bnd tc1 (nI l) = some oc := c2
        have c5' : fX11_readLine_56 N N (nI l) (nI q) lat1 lap1 (upd nTe (min l 16) 0) s v (nI (eN u t q)) (nI t) tr 0 (-1) got nW nS nT nA nA1 nB (nI (min l 16)) 0 1 = some or := c5
        rw [c2', Option.bind_some, if_pos c3, c5']
        exact Or.inl ⟨qf, _, or, c1, rfl, rfl, c4, rfl, c6, c7, c8⟩
      · have c3' : fX1_readTests N f1 (nI (cS u (nxt u t q))) cnt pl fp1 kn nu sub sgn bnd tc1 (nI l) = some (1, f', fp', nI (cS u q''), sub', sgn', bnd', tc') := c3
        have c4' : fX11_readLine_56 N N (nI l) (nI q) lat1 lap1 (upd nTe (min l 16) 0) s v (nI (eN u t q)) (nI t) tr 0 (-1) got nW nS nT nA nA1 nB (nI (min l 16)) 0 1 = gX11_readLine_98 N (nI l) (nI q'') lat' lap' nTe' s' v' (nI (eN u t q'')) (nI t) tr 0 (-1) got' nW' nS' nT' nA nA1 nB (nI (min l 16)) := c4
        rw [c3', Option.bind_some, if_neg (show ¬ (1 : Int32) = 0 by decide), c4']
        have hA2 : LAs (min l 16) lat' act num div nA nA1 nB := fun j hj => by
          obtain ⟨b, d1, d2, d3, d4, d5, d6⟩ := hA1 j hj
          refine ⟨b, d1, d2, d3, d4, d5, fun h => ?_⟩
          obtain ⟨x, x1, x2, x3, x4⟩ := d6 h
          exact ⟨x, x1, fun z => x2 (c7 z), x3, x4⟩
        exact (line39 (N := N) (tc := tc') (cd := cd) hC hT ht hN c1 hl c5 c6 hA2).lg (Nat.le_of_lt c2) (fun h => hm1 (c7 h)) c8 c9
    · rw [pass_n hC ht hq (k := 201) (K := 201) rfl (by decide) c, Option.bind_some, if_pos rfl, decide_eq_false c, if_pos (show eI false = 0 from rfl)]
      exact (line39 (N := N) (tc := tc1) (cd := cd) hC hT ht hN hq hl hk hF1 hA1).lg (Nat.le_refl _) hm1 b2 (fun h => ⟨0, b3 h⟩)
  have eR : fX11_readLine N (nI l) (nI q) lat lap nTe s v (nI (eN u t q)) (nI t) tr 0 (-1) got nW nS nT nA nA1 nB = gX11_readLine_18 N (nI l) (nI q) lat lap nTe s v (nI (eN u t q)) (nI t) tr 0 (-1) got nW nS nT nA nA1 nB (nI (min l 16)) := by
    unfold fX11_readLine
    rw [iteq g16]
    by_cases c : 16 ≤ l
    · rw [if_pos c, show min l 16 = 16 by omega]; rfl
    · rw [if_neg c, show min l 16 = l by omega]
  rw [eR]
  unfold fX1_readLine gX11_readLine_18
  rw [iteq e16, iteq e16]
  by_cases c : l = 16
  · obtain ⟨f1, fp1, lat1, lap1, a1, a2, a3, a4⟩ := note_both (N := N) hC ht hq (K := 3) (Or.inr rfl) hF
    rw [if_pos c, if_pos c, a1, Option.bind_some, a2, Option.bind_some]
    exact core f1 fp1 lat1 lap1 a3 (fun h => absurd h a4)
  · rw [if_neg c, if_neg c]
    exact core f fp lat lap hF (fun h => ⟨h, by have := h16 h; omega⟩)
/-- how reading a text ends -/
def XG (N t : Nat) (tr : Nat → Int32) (li te ac aA aB tw ts tt : Nat → Int32) (C : Option (Int32 × Int32 × (Nat → Int32) × (Nat → Int32) × (Nat → Int32) × Int32 × Int32 × Int32 × Int32 × (Nat → Int32) × (Nat → Int32) × (Nat → Int32) × (Nat → Int32) × (Nat → Int32) × (Nat → Int32) × (Nat → Int32))) (R : Option (Int32 × Int32 × Int32 × Int32 × Int32 × Int32 × Int32 × Int32 × Int32 × Int32 × Int32 × Int32 × Int32 × (Nat → Int32) × Int32 × (Nat → Int32) × (Nat → Int32) × (Nat → Int32) × (Nat → Int32) × (Nat → Int32) × (Nat → Int32) × (Nat → Int32) × (Nat → Int32) × (Nat → Int32) × (Nat → Int32) × (Nat → Int32) × (Nat → Int32) × (Nat → Int32) × (Nat → Int32))) : Prop :=
  (∃ cn kn pl nu F FP at1 dc tc sub sgn bnd act num div le at2 lat nl pla v s lap nTe got nW nS nT nA nA1 nB, C = some (0, cn, kn, pl, nu, F, FP, at1, dc, tc, sub, sgn, bnd, act, num, div) ∧ R = some ((-1), 0, le, 0, at2, F, FP, lat, nl, pla, v, s, lap, nTe, got, nW, nS, nT, nA, nA1, nB, li, te, ac, aA, aB, tw, ts, tt))
  ∨ (∃ cn kn pl nu at1 l tc sub sgn bnd act num div le at2 pla v s lap nTe got nW nS nT nA nA1 nB, l ≤ 16 ∧ C = some (1, cn, kn, pl, nu, 0, (-1), at1, nI l, tc, sub, sgn, bnd, act, num, div) ∧ R = fX11_fees_119 N N 0 0 le at2 0 (-1) 0 (nI l) tr pla v s lap nTe got nW nS nT nA nA1 nB (upd li 0 (nI l)) te ac aA aB tw ts tt 0 ∧ LTs l sub sgn bnd tc nW nS nT nTe ∧ LAs l 0 act num div nA nA1 nB)
theorem text_both (hC : CT u t cnt kn pl nu) (hT : TB tr u) (ht : t ≤ 500) (hN : 1000 < N) {tp li te ac aA aB tw ts tt : Nat → Int32} : ∀ d q l z z' (f fp lat lap got s v cd : Int32) (tc sub sgn bnd act num div nTe nW nS nT nA nA1 nB : Nat → Int32), PT u t q → t - q < d → d < z → d < z' → l ≤ cS u q → TK (kK u t q) (mN u t q) s v → LF f fp lat lap → (lat = 0 → l ≤ 16) → (l ≤ 16 → cd = nI l) → LTs (min l 16) sub sgn bnd tc nW nS nT nTe → LAs (min l 16) lat act num div nA nA1 nB →
    XG N t tr li te ac aA aB tw ts tt (fX1_readText_37 N 500 z cnt kn pl nu tp f fp (nI (cS u q)) cd tc sub sgn bnd act num div 1 (nI l)) (fX11_fees_49 N z' 0 0 (nI t) (nI (eN u t q)) 0 (-1) lat (nI l) tr (nI q) v s lap nTe got nW nS nT nA nA1 nB li te ac aA aB tw ts tt 1) := by
  intro d
  induction d with
  | zero => intro q l z z' f fp lat lap got s v cd tc sub sgn bnd act num div nTe nW nS nT nA nA1 nB h1 h2; omega
  | succ d ih =>
    intro q l z z' f fp lat lap got s v cd tc sub sgn bnd act num div nTe nW nS nT nA nA1 nB h1 h2 h3 h4 h5 h6 h7 h8 h9 h10 h11
    obtain ⟨z, rfl⟩ : ∃ y, z = y + 1 := ⟨z - 1, by omega⟩
    obtain ⟨z', rfl⟩ : ∃ y, z' = y + 1 := ⟨z' - 1, by omega⟩
    have hct := cS_t (u := u) h1.1
    have hc5 := cS_le (u := u) t
    have hKq := kK_lt (u := u) (t := t) (q := q)
    have done : XG N t tr li te ac aA aB tw ts tt (gX1_readText_69 N 500 cnt kn pl nu tp f fp (nI (cS u q)) cd tc sub sgn bnd act num div 1) (gX11_fees_68 N 0 0 (nI t) (nI (eN u t q)) 0 (-1) lat (nI l) tr (nI q) v s lap nTe got nW nS nT nA nA1 nB li te ac aA aB tw ts tt) := by
      unfold gX1_readText_69 gX1_readText_86 gX11_fees_68
      rw [if_neg (show ¬ (1 : Int32) = 0 by decide), if_pos (show (0 : Int32) = 0 from rfl)]
      unfold gX11_fees_98
      obtain ⟨rfl, h7 | h7⟩ := h7
      · have hle := h8 h7.1
        rw [if_pos h7.1, if_pos (by rw [h7.1]; decide), if_pos (show (0 : Int32) ≤ 0 by decide), show ns_ast li 4 0 (nI l) = some (upd li 0 (nI l)) from ast0 (by decide) (by decide), Option.bind_some, h9 hle, h7.1, h7.2]
        rw [show min l 16 = l by omega] at h10 h11
        rw [h7.1] at h11
        exact Or.inr ⟨_, _, _, _, _, l, _, _, _, _, _, _, _, _, _, _, _, _, _, _, _, _, _, _, _, _, _, hle, rfl, rfl, h10, h11⟩
      · have n0 : ¬ f = 0 := by rcases h7.1 with e | e <;> rw [e] <;> decide
        have n1 : ¬ f ≤ 0 := by rcases h7.1 with e | e <;> rw [e] <;> decide
        rw [if_neg n0, if_neg n1, if_neg n1, h7.2]
        exact Or.inl ⟨_, _, _, _, _, _, _, _, _, _, _, _, _, _, _, _, _, _, _, _, _, _, _, _, _, _, _, _, _, _, _, rfl, rfl⟩
    rw [show fX1_readText_37 N 500 (z + 1) = gX1_readText_37 N 500 (fX1_readText_37 N 500 z) from rfl, show fX11_fees_49 N (z' + 1) = gX11_fees_49 N (fX11_fees_49 N z') from rfl]
    unfold gX1_readText_37 gX11_fees_49
    rw [if_neg (show ¬ (1 : Int32) = 0 by decide), if_neg (show ¬ (1 : Int32) = 0 by decide)]
    rcases h6.fin with ⟨g1, g2⟩ | ⟨g1, g2⟩
    · rw [if_pos g2]
      by_cases c5 : 500 ≤ l
      · rw [if_pos (show (500 : Int32) ≤ nI l from nI_le (a := 500) c5 (by omega))]
        exact done
      · rw [if_neg (show ¬ (500 : Int32) ≤ nI l from nI_ge (b := 500) (by omega) (by decide)), kH hC ht h1, Option.bind_some, if_pos (by rw [g1]; rfl)]
        exact done
    · have hqt : q < t := kK_t (u := u) g1
      have hcl := cS_lt (u := u) hqt (h1.2 hqt)
      rw [if_neg g2, if_neg (show ¬ (500 : Int32) ≤ nI l from nI_ge (b := 500) (by omega) (by decide)), kH hC ht h1, Option.bind_some, if_neg (nI_ne0 (by omega) (by omega))]
      rcases line_both (N := N) (got := got) (cd := cd) hC hT ht hN h1 (by omega) h6 h7 h8 h10 h11 with ⟨qf, oc, or, c1, c2, c3, c4, c5, c6, c7, c8⟩ | ⟨q'', f', fp', lat', lap', s', v', got', tc', sub', sgn', bnd', nTe', nW', nS', nT', act', num', div', nA', nA1', nB', cd', c1, c2, c3, c4, c5, c6, c7, c8, c9, c10⟩
      · rw [c2, Option.bind_some, c5, Option.bind_some, nz_let, c3, c4, c6, c7, c8]
        obtain ⟨z, rfl⟩ : ∃ y, z = y + 1 := ⟨z - 1, by omega⟩
        obtain ⟨z', rfl⟩ : ∃ y, z' = y + 1 := ⟨z' - 1, by omega⟩
        rw [show fX1_readText_37 N 500 (z + 1) = gX1_readText_37 N 500 (fX1_readText_37 N 500 z) from rfl, show fX11_fees_49 N (z' + 1) = gX11_fees_49 N (fX11_fees_49 N z') from rfl]
        unfold gX1_readText_37 gX11_fees_49
        rw [if_pos rfl, if_pos rfl]
        unfold gX1_readText_69 gX11_fees_68
        rw [if_pos rfl, pH hC ht c1, Option.bind_some, if_neg (show ¬ (1 : Int32) = 0 by decide)]
        unfold gX1_readText_86 gX11_fees_98
        rw [if_neg (show ¬ (1 : Int32) = 0 by decide), if_neg (show ¬ (1 : Int32) ≤ 0 by decide)]
        exact Or.inl ⟨_, _, _, _, _, _, _, _, _, _, _, _, _, _, _, _, _, _, _, _, _, _, _, _, _, _, _, _, _, _, _, rfl, rfl⟩
      · rw [c3, Option.bind_some, c4, Option.bind_some, nz_let, nI_1]
        have hm := cS_lt (u := u) c2 (h1.2 hqt)
        exact ih q'' (l + 1) z z' f' fp' lat' lap' got' s' v' cd' tc' sub' sgn' bnd' act' num' div' nTe' nW' nS' nT' nA' nA1' nB' c1 (by omega) (by omega) (by omega) (by omega) c5 c6 (fun h => (c7 h).2) (fun h => c10 (by omega)) c8 c9
end PC
