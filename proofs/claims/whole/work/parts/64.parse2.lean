/-! the text of fees: the tests of a line, its act -/
section PB
variable {N : Nat} {u : Nat → Nat} {t : Nat} {cnt : Int32} {kn pl nu tr : Nat → Int32}
theorem note_both (hC : CT u t cnt kn pl nu) (ht : t ≤ 500) {q : Nat} (hq : PT u t q) {f fp lat lap K : Int32} (hK : K = 2 ∨ K = 3) (h : LF f fp lat lap) : ∃ f' fp' lat' lap', fX1_noteFault N f (nI (cS u q)) cnt pl fp K = some (f', fp') ∧ fX11_note N lat lap K (nI q) = some (lat', lap') ∧ LF f' fp' lat' lap' ∧ ¬ lat' = 0 := by
  obtain ⟨rfl, h2⟩ := h
  unfold fX1_noteFault fX11_note
  by_cases c : f = 0
  · rw [if_pos c, if_pos c, pH hC ht hq, Option.bind_some]
    exact ⟨_, _, _, _, rfl, rfl, ⟨rfl, Or.inr ⟨hK, rfl⟩⟩, by rcases hK with rfl | rfl <;> decide⟩
  · rw [if_neg c, if_neg c]
    exact ⟨_, _, _, _, rfl, rfl, ⟨rfl, h2⟩, c⟩
theorem tests_both (hC : CT u t cnt kn pl nu) (hT : TB tr u) (ht : t ≤ 500) (hN : 1000 < N) {l : Nat} (hl : l < 1000) {NL : Int32} {nA nA1 nB : Nat → Int32} : ∀ d q' n z z' (f fp lat lap got s v : Int32) (sub sgn bnd tc nW nS nT nTe : Nat → Int32), PT u t q' → q' < t → t - q' < d → d < z → d < z' → n ≤ cS u q' → TK (kK u t q') (mN u t q') s v → LF f fp lat lap → LTs (min l 16) sub sgn bnd tc nW nS nT nTe → (l < 16 → LT l (min n 4) sub sgn bnd tc nW nS nT nTe) →
    (∃ qf oc or, PT u t qf ∧ fX1_readTests_4 N z f (nI (cS u (nxt u t q'))) cnt pl fp kn nu sub sgn bnd tc (nI l) 1 (nI n) = some oc ∧ oc.1 = 0 ∧ oc.2.2.2.1 = nI (cS u qf) ∧ fX11_readLine_56 N z' NL (nI q') lat lap nTe s v (nI (eN u t q')) (nI t) tr 0 (-1) got nW nS nT nA nA1 nB (nI (min l 16)) (nI n) 1 = some or ∧ or.1 = 0 ∧ or.2.2.2.2.2.2.2.2.1 = 1 ∧ or.2.2.2.2.2.2.2.2.2.1 = nI qf)
    ∨ (∃ q'' f' fp' lat' lap' got' s' v' sub' sgn' bnd' tc' nW' nS' nT' nTe', PT u t q'' ∧ q' < q'' ∧ fX1_readTests_4 N z f (nI (cS u (nxt u t q'))) cnt pl fp kn nu sub sgn bnd tc (nI l) 1 (nI n) = some (1, f', fp', nI (cS u q''), sub', sgn', bnd', tc') ∧ fX11_readLine_56 N z' NL (nI q') lat lap nTe s v (nI (eN u t q')) (nI t) tr 0 (-1) got nW nS nT nA nA1 nB (nI (min l 16)) (nI n) 1 = gX11_readLine_98 N NL (nI q'') lat' lap' nTe' s' v' (nI (eN u t q'')) (nI t) tr 0 (-1) got' nW' nS' nT' nA nA1 nB (nI (min l 16)) ∧ TK (kK u t q'') (mN u t q'') s' v' ∧ LF f' fp' lat' lap' ∧ (lat' = 0 → lat = 0) ∧ LTs (min l 16) sub' sgn' bnd' tc' nW' nS' nT' nTe' ∧ (l < 16 → ∃ k, LT l k sub' sgn' bnd' tc' nW' nS' nT' nTe')) := by
  intro d
  induction d with
  | zero => intro q' n z z' f fp lat lap got s v sub sgn bnd tc nW nS nT nTe h1 h2 h3; omega
  | succ d ih =>
    intro q' n z z' f fp lat lap got s v sub sgn bnd tc nW nS nT nTe h1 h2 h3 h4 h5 h6 h7 h8 h9 h10
    obtain ⟨z, rfl⟩ : ∃ y, z = y + 1 := ⟨z - 1, by omega⟩
    obtain ⟨z', rfl⟩ : ∃ y, z' = y + 1 := ⟨z' - 1, by omega⟩
    obtain ⟨p1, p2, p3⟩ := nxt_ok h1 h2
    have hct := cS_lt (u := u) h2 (h1.2 h2)
    have hc5 := cS_le (u := u) t
    rw [show fX1_readTests_4 N (z + 1) = gX1_readTests_4 N (fX1_readTests_4 N z) from rfl, show fX11_readLine_56 N (z' + 1) = gX11_readLine_56 N (fX11_readLine_56 N z') from rfl]
    unfold gX1_readTests_4 gX11_readLine_56
    have e4 : (nI n = 4) = (n = 4) := nz_eq (b := 4) (by omega) (by decide)
    rw [if_neg (show ¬ (1 : Int32) = 0 by decide), if_neg (show ¬ (500 : Int32) ≤ nI n from nI_ge (b := 500) (by omega) (by decide)), if_neg (show ¬ (1 : Int32) = 0 by decide)]
    obtain ⟨f1, fp1, lat1, lap1, hcl, hnote, hLF, hmono⟩ : ∃ f1 fp1 lat1 lap1, (if nI n = 4 then (fX1_noteFault N f (nI (cS u (nxt u t q'))) cnt pl fp 3).bind fun o1 => gX1_readTests_25 N (fX1_readTests_4 N z) o1.1 (nI (cS u (nxt u t q'))) cnt pl o1.2 kn nu sub sgn bnd tc (nI l) (nI n) else gX1_readTests_25 N (fX1_readTests_4 N z) f (nI (cS u (nxt u t q'))) cnt pl fp kn nu sub sgn bnd tc (nI l) (nI n)) = gX1_readTests_25 N (fX1_readTests_4 N z) f1 (nI (cS u (nxt u t q'))) cnt pl fp1 kn nu sub sgn bnd tc (nI l) (nI n) ∧ (if n = 4 then fX11_note N lat lap 3 (nI (nxt u t q')) else some (lat, lap)) = some (lat1, lap1) ∧ LF f1 fp1 lat1 lap1 ∧ (lat1 = 0 → lat = 0) := by
      rw [iteq e4]
      by_cases c : n = 4
      · obtain ⟨f1, fp1, lat1, lap1, a1, a2, a3, a4⟩ := note_both (N := N) hC ht p1 (K := 3) (Or.inr rfl) h8
        refine ⟨f1, fp1, lat1, lap1, ?_, ?_, a3, fun h => absurd h a4⟩
        · rw [if_pos c, a1]; rfl
        · rw [if_pos c]; exact a2
      · exact ⟨f, fp, lat, lap, by rw [if_neg c], by rw [if_neg c], h8, id⟩
    rw [hcl]
    obtain ⟨s1, v1, n1, t1⟩ := nextQ (N := N) hT ht hN h1 h2 (nI q') v s
    rw [n1, Option.bind_some]
    dsimp only
    unfold gX1_readTests_25
    rcases test_both (N := N) (got := got) hC hT ht hN p1 hl (by omega) t1 h9 h10 hnote with ⟨qf, o, b1, b2, b3, b4, b5, b6⟩ | ⟨q3, s', v', got', sub', sgn', bnd', tc', nW', nS', nT', nTe', b1, b2, b2', b3, b4, b5, b6, b7⟩
    · rw [b2, Option.bind_some, if_pos rfl, b3, Option.bind_some, if_pos b4]
      exact Or.inl ⟨qf, _, _, b1, rfl, rfl, rfl, rfl, rfl, b5, b6⟩
    · rw [b3, Option.bind_some, if_neg (show ¬ (1 : Int32) = 0 by decide), b4, Option.bind_some, if_neg (show ¬ (1 : Int32) = 0 by decide), nz_let, nI_1]
      dsimp only
      rw [b5.word (j := 1) (J := 1) rfl (by decide), Option.bind_some]
      by_cases c : kK u t q3 = 202
      · have hq3 : q3 < t := kK_t (u := u) (by omega)
        rw [pass_y hC ht b1 (k := 202) (K := 202) rfl (by decide) c, Option.bind_some, nz_let, decide_eq_true c, show eI true = 1 from rfl]
        dsimp only
        rcases ih q3 (n + 1) z z' f1 fp1 lat1 lap1 got' s' v' sub' sgn' bnd' tc' nW' nS' nT' nTe' b1 hq3 (by omega) (by omega) (by omega) (by omega) b5 hLF b6 b7 with ⟨qf, oc, or, c1, c2, c3, c4, c5, c6, c7, c8⟩ | ⟨q'', f', fp', lat', lap', got'', s'', v'', sub'', sgn'', bnd'', tc'', nW'', nS'', nT'', nTe'', c1, c2, c3, c4, c5, c6, c7, c8, c9⟩
        · exact Or.inl ⟨qf, oc, or, c1, c2, c3, c4, c5, c6, c7, c8⟩
        · exact Or.inr ⟨q'', f', fp', lat', lap', got'', s'', v'', sub'', sgn'', bnd'', tc'', nW'', nS'', nT'', nTe'', c1, by omega, c3, c4, c5, c6, fun h => hmono (c7 h), c8, c9⟩
      · rw [pass_n hC ht b1 (k := 202) (K := 202) rfl (by decide) c, Option.bind_some, nz_let, decide_eq_false c, show eI false = 0 from rfl]
        dsimp only
        obtain ⟨z, rfl⟩ : ∃ y, z = y + 1 := ⟨z - 1, by omega⟩
        obtain ⟨z', rfl⟩ : ∃ y, z' = y + 1 := ⟨z' - 1, by omega⟩
        rw [show fX1_readTests_4 N (z + 1) = gX1_readTests_4 N (fX1_readTests_4 N z) from rfl, show fX11_readLine_56 N (z' + 1) = gX11_readLine_56 N (fX11_readLine_56 N z') from rfl]
        unfold gX1_readTests_4 gX11_readLine_56
        rw [if_pos rfl, if_pos rfl]
        unfold gX1_readTests_50
        by_cases c58 : kK u t q3 = 58
        · obtain ⟨s'', v'', n2, t2⟩ := need_y (N := N) (f := 0) (fp := -1) hT ht hN b1 b5 (c := 58) (C := 58) rfl (by decide) (by decide) c58
          obtain ⟨w1, w2, w3⟩ := nxt_ok b1 (kK_t (u := u) (by omega))
          rw [pass_y hC ht b1 (k := 58) (K := 58) rfl (by decide) c58, Option.bind_some, n2, Option.bind_some]
          dsimp only
          rw [if_neg (show ¬ (1 : Int32) = 0 by decide)]
          exact Or.inr ⟨nxt u t q3, f1, fp1, lat1, lap1, got', s'', v'', sub', sgn', bnd', tc', nW', nS', nT', nTe', w1, by omega, rfl, rfl, t2, hLF, hmono, b6, fun h => ⟨_, b7 h⟩⟩
        · rw [pass_n hC ht b1 (k := 58) (K := 58) rfl (by decide) c58, Option.bind_some, need_n b5 (c := 58) (C := 58) rfl (by decide) (by decide) c58, Option.bind_some, if_pos rfl]
          exact Or.inl ⟨q3, _, _, b1, rfl, rfl, rfl, rfl, rfl, rfl, rfl⟩
def LA (l : Nat) (lat : Int32) (act num div nA nA1 nB : Nat → Int32) : Prop := ∃ a, 8 ≤ a ∧ a ≤ 14 ∧ act l = nI (a + 201) ∧ nA l = nI a ∧ (a < 13 → ∃ x, x < 100000 ∧ num l = nI x ∧ nA1 l = nI x) ∧ (a = 10 → ∃ e, e < 100000 ∧ (lat = 0 → 1 ≤ e) ∧ div l = nI e ∧ nB l = nI e)
def LAs (L : Nat) (lat : Int32) (act num div nA nA1 nB : Nat → Int32) : Prop := ∀ l, l < L → LA l lat act num div nA nA1 nB
noncomputable def r39 (N : Nat) (cnt : Int32) (kn tc sub sgn bnd : Nat → Int32) (o1 : Int32 × Int32 × Int32 × Int32 × (Nat → Int32) × (Nat → Int32) × (Nat → Int32) × Int32) : Option (Int32 × Int32 × Int32 × (Nat → Int32) × Int32 × (Nat → Int32) × (Nat → Int32) × (Nat → Int32) × (Nat → Int32) × (Nat → Int32) × (Nat → Int32) × Int32) := if o1.1 = 0 then some (0, o1.2.2.1, o1.2.2.2.1, tc, o1.2.1, sub, sgn, bnd, o1.2.2.2.2.1, o1.2.2.2.2.2.1, o1.2.2.2.2.2.2.1, o1.2.2.2.2.2.2.2) else (fX1_pass N o1.2.1 cnt kn 59).bind fun o2 => (if o2.1 = 0 then some (0, o1.2.2.1, o1.2.2.2.1, tc, o2.2, sub, sgn, bnd, o1.2.2.2.2.1, o1.2.2.2.2.2.1, o1.2.2.2.2.2.2.1, o1.2.2.2.2.2.2.2) else some (1, o1.2.2.1, o1.2.2.2.1, tc, o2.2, sub, sgn, bnd, o1.2.2.2.2.1, o1.2.2.2.2.2.1, o1.2.2.2.2.2.2.1, o1.2.2.2.2.2.2.2))
/-- how reading a line ends: the class's C, the reference's R, from position q on -/
def LE (u : Nat → Nat) (t q l : Nat) (lat : Int32) (tc sub sgn bnd nTe nW nS nT : Nat → Int32) (C : Option (Int32 × Int32 × Int32 × (Nat → Int32) × Int32 × (Nat → Int32) × (Nat → Int32) × (Nat → Int32) × (Nat → Int32) × (Nat → Int32) × (Nat → Int32) × Int32)) (R : Option (Int32 × Int32 × Int32 × (Nat → Int32) × Int32 × Int32 × Int32 × Int32 × Int32 × Int32 × Int32 × (Nat → Int32) × (Nat → Int32) × (Nat → Int32) × (Nat → Int32) × (Nat → Int32) × (Nat → Int32) × Int32)) : Prop :=
  (∃ qf oc or, PT u t qf ∧ C = some oc ∧ oc.1 = 0 ∧ oc.2.2.2.2.1 = nI (cS u qf) ∧ R = some or ∧ or.1 = 0 ∧ or.2.2.2.2.2.2.2.2.1 = 1 ∧ or.2.2.2.2.2.2.2.2.2.1 = nI qf)
  ∨ (∃ q'' f' fp' lat' lap' s' v' got' act' num' div' nA' nA1' nB' cd', PT u t q'' ∧ q < q'' ∧ C = some (1, f', fp', tc, nI (cS u q''), sub, sgn, bnd, act', num', div', cd') ∧ R = some (1, lat', lap', nTe, nI q'', v', nI (eN u t q''), s', 0, (-1), got', nW, nS, nT, nA', nA1', nB', nI (l + 1)) ∧ TK (kK u t q'') (mN u t q'') s' v' ∧ LF f' fp' lat' lap' ∧ (lat' = 0 → lat = 0) ∧ LAs (min (l + 1) 16) lat' act' num' div' nA' nA1' nB' ∧ (l < 16 → cd' = nI (l + 1)))
theorem fin39 (hC : CT u t cnt kn pl nu) (hT : TB tr u) (ht : t ≤ 500) (hN : 1000 < N) {q0 q l a : Nat} (hq : PT u t q) (h0 : q0 < q) (hl : l < 1000) (ha : 8 ≤ a) (hb : a ≤ 14) {f fp lat0 lat lap s v got cd X Dv : Int32} (hk : TK (kK u t q) (mN u t q) s v) (hF : LF f fp lat lap) (hm : lat = 0 → lat0 = 0) {tc sub sgn bnd act num div nTe nW nS nT nA nA1 nB nA1' nB' : Nat → Int32} (hA : LAs (min l 16) lat0 act num div nA nA1 nB) (hx : a < 13 → ∃ x, x < 100000 ∧ X = nI x ∧ nA1' (min l 16) = nI x) (hd : a = 10 → ∃ e, e < 100000 ∧ (lat = 0 → 1 ≤ e) ∧ Dv = nI e ∧ nB' (min l 16) = nI e) (k1 : ∀ j, j < min l 16 → nA1' j = nA1 j) (k2 : ∀ j, j < min l 16 → nB' j = nB j) :
    LE u t q0 l lat0 tc sub sgn bnd nTe nW nS nT ((gX1_readAct_117 N (nI (cS u q)) cnt kn nu f pl fp act num div cd (nI l) (nI (a + 201)) X Dv).bind (r39 N cnt kn tc sub sgn bnd)) (gX11_readLine_228 N (nI l) (nI q) lat lap nTe s v (nI (eN u t q)) (nI t) tr 0 (-1) got nW nS nT (upd nA (min l 16) (nI a)) nA1' nB') := by
  obtain ⟨act', num', div', cd', hs, hn, hc⟩ : ∃ act' num' div' cd', fX2_setAct N act num div cd (nI l) (nI (a + 201)) X Dv = some (act', num', div', cd') ∧ LAs (min (l + 1) 16) lat act' num' div' (upd nA (min l 16) (nI a)) nA1' nB' ∧ (l < 16 → cd' = nI (l + 1)) := by
    have oj : ∀ j, j < min (l + 1) 16 → l < 16 → j ≠ l → j < l := fun j h1 h2 h3 => by clear hx hd; omega
    have oj2 : ∀ j, j < min (l + 1) 16 → ¬ l < 16 → j < min l 16 := fun j h1 h2 => by clear hx hd; omega
    unfold fX2_setAct
    rw [iteq (show (nI l < 16) = (l < 16) from nz_lt (b := 16) (by omega) (by decide))]
    by_cases c : l < 16
    · rw [if_pos c, nz_ast c (by omega), Option.bind_some, nz_ast c (by omega), Option.bind_some, nz_ast c (by omega), Option.bind_some, nz_let, nI_1]
      refine ⟨_, _, _, _, rfl, ?_, fun _ => rfl⟩
      have e : min l 16 = l := by omega
      rw [e] at hA hx hd k1 k2 ⊢
      intro j hj
      by_cases ej : j = l
      · subst ej
        refine ⟨a, ha, hb, ud_s, ud_s, fun h => ?_, fun h => ?_⟩
        · obtain ⟨x, x1, x2, x3⟩ := hx h
          exact ⟨x, x1, by rw [ud_s]; exact x2, x3⟩
        · obtain ⟨x, x1, x2, x3, x4⟩ := hd h
          exact ⟨x, x1, x2, by rw [ud_s]; exact x3, x4⟩
      · have hjl := oj j hj c ej
        obtain ⟨b, c1, c2, c3, c4, c5, c6⟩ := hA j hjl
        refine ⟨b, c1, c2, by rw [ud_n ej]; exact c3, by rw [ud_n ej]; exact c4, fun h => ?_, fun h => ?_⟩
        · obtain ⟨x, x1, x2, x3⟩ := c5 h
          exact ⟨x, x1, by rw [ud_n ej]; exact x2, by rw [k1 j hjl]; exact x3⟩
        · obtain ⟨x, x1, x2, x3, x4⟩ := c6 h
          exact ⟨x, x1, fun z => x2 (hm z), by rw [ud_n ej]; exact x3, by rw [k2 j hjl]; exact x4⟩
    · rw [if_neg c]
      refine ⟨_, _, _, _, rfl, ?_, fun h => absurd h c⟩
      intro j hj
      have hjl := oj2 j hj c
      obtain ⟨b, c1, c2, c3, c4, c5, c6⟩ := hA j hjl
      refine ⟨b, c1, c2, c3, by rw [ud_n (Nat.ne_of_lt hjl)]; exact c4, fun h => ?_, fun h => ?_⟩
      · obtain ⟨x, x1, x2, x3⟩ := c5 h
        exact ⟨x, x1, x2, by rw [k1 j hjl]; exact x3⟩
      · obtain ⟨x, x1, x2, x3, x4⟩ := c6 h
        exact ⟨x, x1, fun z => x2 (hm z), x3, by rw [k2 j hjl]; exact x4⟩
  unfold gX1_readAct_117 gX11_readLine_228
  rw [hs, Option.bind_some, Option.bind_some, nz_let, nI_1]
  unfold r39
  dsimp only
  rw [if_neg (show ¬ (1 : Int32) = 0 by decide)]
  by_cases c : kK u t q = 59
  · obtain ⟨s', v', n2, t2⟩ := need_y (N := N) (f := 0) (fp := -1) hT ht hN hq hk (c := 59) (C := 59) rfl (by decide) (by decide) c
    obtain ⟨w1, w2, w3⟩ := nxt_ok hq (kK_t (u := u) (by omega))
    rw [pass_y hC ht hq (k := 59) (K := 59) rfl (by decide) c, Option.bind_some, n2, Option.bind_some]
    dsimp only
    rw [if_neg (show ¬ (1 : Int32) = 0 by decide)]
    exact Or.inr ⟨nxt u t q, f, fp, lat, lap, s', v', got, act', num', div', _, nA1', nB', cd', w1, by omega, rfl, rfl, t2, hF, hm, hn, hc⟩
  · rw [pass_n hC ht hq (k := 59) (K := 59) rfl (by decide) c, Option.bind_some, need_n hk (c := 59) (C := 59) rfl (by decide) (by decide) c, Option.bind_some, if_pos rfl]
    exact Or.inl ⟨q, _, _, hq, rfl, rfl, rfl, rfl, rfl, rfl, rfl⟩
theorem line39 (hC : CT u t cnt kn pl nu) (hT : TB tr u) (ht : t ≤ 500) (hN : 1000 < N) {q l : Nat} (hq : PT u t q) (hl : l < 1000) {f fp lat lap s v got cd : Int32} (hk : TK (kK u t q) (mN u t q) s v) (hF : LF f fp lat lap) {tc sub sgn bnd act num div nTe nW nS nT nA nA1 nB : Nat → Int32} (hA : LAs (min l 16) lat act num div nA nA1 nB) :
    LE u t q l lat tc sub sgn bnd nTe nW nS nT (gX1_readLine_39 N f (nI (cS u q)) cnt pl fp tc kn nu sub sgn bnd act num div cd (nI l)) (gX11_readLine_98 N (nI l) (nI q) lat lap nTe s v (nI (eN u t q)) (nI t) tr 0 (-1) got nW nS nT nA nA1 nB (nI (min l 16))) := by
  have hK := kK_lt (u := u) (t := t) (q := q)
  show LE u t q l lat tc sub sgn bnd nTe nW nS nT ((fX1_readAct N (nI (cS u q)) cnt kn nu f pl fp act num div cd (nI l)).bind (r39 N cnt kn tc sub sgn bnd)) _
  unfold fX1_readAct gX11_readLine_98
  rw [kH hC ht hq, Option.bind_some, iteq (show (nI (kK u t q) < 209) = (kK u t q < 209) from nz_lt (b := 209) (by omega) (by decide)), iteq (show (nI (kK u t q) ≤ 215) = (kK u t q ≤ 215) from nz_le (b := 215) (by omega) (by decide))]
  rcases hk.rng (N := N) (a := 8) (b := 14) (A := 8) (B := 14) rfl rfl (by decide) (by decide) with ⟨k1, k2, k3, k4, k5⟩ | ⟨k1, k2⟩
  rotate_left
  · have e1 : (if kK u t q < 209 then some ((0 : Int32), nI (cS u q), f, fp, act, num, div, cd) else if kK u t q ≤ 215 then (ns_let (nI (cS u q) + 1) fun x2 => (if nI (kK u t q) = 214 then gX1_readAct_65 N x2 cnt kn nu f pl fp act num div cd (nI l) (nI (kK u t q)) 0 0 else (if nI (kK u t q) = 215 then gX1_readAct_65 N x2 cnt kn nu f pl fp act num div cd (nI l) (nI (kK u t q)) 0 0 else (fX1_numberHere N x2 cnt nu).bind fun o3 => (fX1_pass N x2 cnt kn 2).bind fun o4 => (if o4.1 = 0 then some (0, o4.2, f, fp, act, num, div, cd) else gX1_readAct_65 N o4.2 cnt kn nu f pl fp act num div cd (nI l) (nI (kK u t q)) o3 0)))) else some (0, nI (cS u q), f, fp, act, num, div, cd)) = some (0, nI (cS u q), f, fp, act, num, div, cd) := by
      by_cases c : kK u t q < 209
      · rw [if_pos c]
      · rw [if_neg c, if_neg (by omega)]
    rw [e1, Option.bind_some]
    rcases k2 with k2 | ⟨k2, k3⟩
    · rw [if_neg k2]
      exact Or.inl ⟨q, _, _, hq, rfl, rfl, rfl, rfl, rfl, rfl, rfl⟩
    · rw [if_pos k2, k3, Option.bind_some, if_pos rfl]
      exact Or.inl ⟨q, _, _, hq, rfl, rfl, rfl, rfl, rfl, rfl, rfl⟩
  · have hq1 : q < t := kK_t (u := u) (by omega)
    obtain ⟨p1, p2, p3⟩ := nxt_ok hq hq1
    obtain ⟨s1, v1, n1, t1⟩ := nextQ (N := N) hT ht hN hq hq1 (nI q) v s
    obtain ⟨a, hKa⟩ : ∃ a, kK u t q = a + 201 := ⟨kK u t q - 201, by omega⟩
    have hva : v = nI a := by rw [k4, hKa, Nat.add_sub_cancel]
    have e214 : (nI (a + 201) = 214) = (a = 13) := by rw [show (nI (a + 201) = 214) = (a + 201 = 214) from nz_eq (b := 214) (by omega) (by decide)]; exact propext ⟨fun h => by omega, fun h => by omega⟩
    have e215 : (nI (a + 201) = 215) = (a = 14) := by rw [show (nI (a + 201) = 215) = (a + 201 = 215) from nz_eq (b := 215) (by omega) (by decide)]; exact propext ⟨fun h => by omega, fun h => by omega⟩
    have e211 : (nI (a + 201) = 211) = (a = 10) := by rw [show (nI (a + 201) = 211) = (a + 201 = 211) from nz_eq (b := 211) (by omega) (by decide)]; exact propext ⟨fun h => by omega, fun h => by omega⟩
    have e13 : (13 ≤ nI a) = (13 ≤ a) := nz_le (a := 13) (by decide) (by omega)
    have e10 : (nI a = 10) = (a = 10) := nz_eq (b := 10) (by omega) (by decide)
    rw [hKa, if_neg (by omega), if_pos (by omega), nz_let, nI_1, ← p3, if_pos k3, k5, Option.bind_some, if_neg (show ¬ (1 : Int32) = 0 by decide), hva, nz_ast (show min l 16 < 17 by omega) (by omega), Option.bind_some]
    rw [hva] at n1
    rw [n1, Option.bind_some, nz_ald (show min l 16 < 17 by omega) (by omega), Option.bind_some, ud_s, iteq e13, iteq e214, iteq e215]
    dsimp only
    have end0 : ∀ (qe : Nat) (f1 fp1 lat1 lap1 sE vE gotE X Dv : Int32) (nA1' nB' : Nat → Int32), a ≠ 10 → PT u t qe → q < qe → TK (kK u t qe) (mN u t qe) sE vE → LF f1 fp1 lat1 lap1 → (lat1 = 0 → lat = 0) → (a < 13 → ∃ x, x < 100000 ∧ X = nI x ∧ nA1' (min l 16) = nI x) → (∀ j, j < min l 16 → nA1' j = nA1 j) → (∀ j, j < min l 16 → nB' j = nB j) → LE u t q l lat tc sub sgn bnd nTe nW nS nT ((gX1_readAct_65 N (nI (cS u qe)) cnt kn nu f1 pl fp1 act num div cd (nI l) (nI (a + 201)) X Dv).bind (r39 N cnt kn tc sub sgn bnd)) (gX11_readLine_169 N (nI l) (nI qe) lat1 lap1 nTe sE vE (nI (eN u t qe)) (nI t) tr 0 (-1) gotE nW nS nT (upd nA (min l 16) (nI a)) nA1' nB' (nI (min l 16))) := by
      intro qe f1 fp1 lat1 lap1 sE vE gotE X Dv nA1' nB' g0 g1 g2 g3 g4 g5 g6 g7 g8
      unfold gX1_readAct_65 gX11_readLine_169
      rw [iteq e211, if_neg g0, nz_ald (show min l 16 < 17 by omega) (by omega), Option.bind_some, ud_s, iteq e10, if_neg g0]
      exact fin39 hC hT ht hN g1 g2 hl (by omega) (by omega) g3 g4 g5 hA g6 (fun h => absurd h g0) g7 g8
    by_cases c13 : 13 ≤ a
    · rw [if_pos c13]
      have e2 : (if a = 13 then gX1_readAct_65 N (nI (cS u (nxt u t q))) cnt kn nu f pl fp act num div cd (nI l) (nI (a + 201)) 0 0 else (if a = 14 then gX1_readAct_65 N (nI (cS u (nxt u t q))) cnt kn nu f pl fp act num div cd (nI l) (nI (a + 201)) 0 0 else (fX1_numberHere N (nI (cS u (nxt u t q))) cnt nu).bind fun o3 => (fX1_pass N (nI (cS u (nxt u t q))) cnt kn 2).bind fun o4 => (if o4.1 = 0 then some (0, o4.2, f, fp, act, num, div, cd) else gX1_readAct_65 N o4.2 cnt kn nu f pl fp act num div cd (nI l) (nI (a + 201)) o3 0))) = gX1_readAct_65 N (nI (cS u (nxt u t q))) cnt kn nu f pl fp act num div cd (nI l) (nI (a + 201)) 0 0 := by
        by_cases c : a = 13
        · rw [if_pos c]
        · rw [if_neg c, if_pos (by omega)]
      rw [e2]
      exact end0 (nxt u t q) f fp lat lap s1 v1 got 0 0 nA1 nB (by omega) p1 p2 t1 hF id (fun h => by omega) (fun _ _ => rfl) (fun _ _ => rfl)
    · rw [if_neg c13, if_neg (by omega), if_neg (by omega), nH hC ht p1, Option.bind_some]
      rcases t1.num with ⟨i1, i2, i3, i4⟩ | ⟨i1, i2⟩
      rotate_left
      · rw [pass_n hC ht p1 (k := 2) (K := 2) rfl (by decide) i1, Option.bind_some, num_n i2, Option.bind_some, if_pos rfl]
        exact Or.inl ⟨nxt u t q, _, _, p1, rfl, rfl, rfl, rfl, rfl, rfl, rfl⟩
      · have hq2 : nxt u t q < t := kK_t (u := u) (by omega)
        obtain ⟨r1, r2, r3⟩ := nxt_ok p1 hq2
        obtain ⟨s2, v2, n2, t2⟩ := num_y (N := N) (f := 0) (fp := -1) (got := got) hT ht hN p1 i2 i3 i1
        rw [pass_y hC ht p1 (k := 2) (K := 2) rfl (by decide) i1, Option.bind_some, n2, Option.bind_some]
        dsimp only
        rw [if_neg (show ¬ (1 : Int32) = 0 by decide), if_neg (show ¬ (1 : Int32) = 0 by decide), nz_ast (show min l 16 < 17 by omega) (by omega), Option.bind_some]
        have kA : ∀ j, j < min l 16 → upd nA1 (min l 16) (nI (mN u t (nxt u t q))) j = nA1 j := fun j hj => ud_n (by omega)
        by_cases c10 : a = 10
        rotate_left
        · exact end0 (nxt u t (nxt u t q)) f fp lat lap s2 v2 _ _ 0 _ nB c10 r1 (by omega) t2 hF id (fun _ => ⟨_, i4, rfl, ud_s⟩) kA (fun _ _ => rfl)
        · unfold gX1_readAct_65 gX11_readLine_169
          rw [iteq e211, if_pos c10, nz_ald (show min l 16 < 17 by omega) (by omega), Option.bind_some, ud_s, iteq e10, if_pos c10]
          by_cases c47 : kK u t (nxt u t (nxt u t q)) = 47
          rotate_left
          · rw [pass_n hC ht r1 (k := 47) (K := 47) rfl (by decide) c47, Option.bind_some, need_n t2 (c := 47) (C := 47) rfl (by decide) (by decide) c47, Option.bind_some, if_pos rfl]
            exact Or.inl ⟨nxt u t (nxt u t q), _, _, r1, rfl, rfl, rfl, rfl, rfl, rfl, rfl⟩
          · have hq3 : nxt u t (nxt u t q) < t := kK_t (u := u) (by omega)
            obtain ⟨w1, w2, w3⟩ := nxt_ok r1 hq3
            obtain ⟨s3, v3, n3, t3⟩ := need_y (N := N) (f := 0) (fp := -1) hT ht hN r1 t2 (c := 47) (C := 47) rfl (by decide) (by decide) c47
            rw [pass_y hC ht r1 (k := 47) (K := 47) rfl (by decide) c47, Option.bind_some, n3, Option.bind_some]
            dsimp only
            rw [if_neg (show ¬ (1 : Int32) = 0 by decide), if_neg (show ¬ (1 : Int32) = 0 by decide)]
            generalize hq4 : nxt u t (nxt u t (nxt u t q)) = q4 at w1 w2 w3 t3 ⊢
            have hK4 := kK_lt (u := u) (t := t) (q := q4)
            have hM4 := mN_lt (u := u) (t := t) (q := q4) w1.1
            rw [nH hC ht w1, Option.bind_some, kH hC ht w1, Option.bind_some, iteq (show (nI (kK u t q4) = 2) = (kK u t q4 = 2) from nz_eq (b := 2) (by omega) (by decide)), iteq (show (nI (mN u t q4) = 0) = (mN u t q4 = 0) from nz_eq (b := 0) (by omega) (by decide))]
            rcases t3.num with ⟨o1, o2, o3, o4⟩ | ⟨o1, o2⟩
            rotate_left
            · rw [if_neg o1, num_n o2, Option.bind_some, if_pos rfl]
              unfold gX1_readAct_107
              rw [pass_n hC ht w1 (k := 2) (K := 2) rfl (by decide) o1, Option.bind_some, if_pos rfl]
              exact Or.inl ⟨q4, _, _, w1, rfl, rfl, rfl, rfl, rfl, rfl, rfl⟩
            · have hq5 : q4 < t := kK_t (u := u) (by omega)
              obtain ⟨x1, x2, x3⟩ := nxt_ok w1 hq5
              obtain ⟨s4, v4, n4, t4⟩ := num_y (N := N) (f := 0) (fp := -1) (got := nI (mN u t (nxt u t q))) hT ht hN w1 o2 o3 o1
              rw [if_pos o1, n4, Option.bind_some]
              dsimp only
              rw [if_neg (show ¬ (1 : Int32) = 0 by decide), nz_ast (show min l 16 < 17 by omega) (by omega), Option.bind_some, iteq (show (nI (mN u t q4) = 0) = (mN u t q4 = 0) from nz_eq (b := 0) (by omega) (by decide))]
              have kB : ∀ j, j < min l 16 → upd nB (min l 16) (nI (mN u t q4)) j = nB j := fun j hj => ud_n (by omega)
              by_cases c0 : mN u t q4 = 0
              · obtain ⟨f1, fp1, lat1, lap1, a1, a2, a3, a4⟩ := note_both (N := N) hC ht w1 (K := 2) (Or.inl rfl) hF
                rw [if_pos c0, if_pos c0, a1, Option.bind_some, a2, Option.bind_some]
                unfold gX1_readAct_107
                rw [pass_y hC ht w1 (k := 2) (K := 2) rfl (by decide) o1, Option.bind_some, if_neg (show ¬ (1 : Int32) = 0 by decide)]
                exact fin39 hC hT ht hN x1 (by omega) hl (by omega) (by omega) t4 a3 (fun h => absurd h a4) hA (fun _ => ⟨_, i4, rfl, ud_s⟩) (fun _ => ⟨_, hM4, fun h => absurd h a4, rfl, ud_s⟩) kA kB
              · rw [if_neg c0, if_neg c0]
                unfold gX1_readAct_107
                rw [pass_y hC ht w1 (k := 2) (K := 2) rfl (by decide) o1, Option.bind_some, if_neg (show ¬ (1 : Int32) = 0 by decide)]
                exact fin39 hC hT ht hN x1 (by omega) hl (by omega) (by omega) t4 hF id hA (fun _ => ⟨_, i4, rfl, ud_s⟩) (fun _ => ⟨_, hM4, fun _ => by omega, rfl, ud_s⟩) kA kB
end PB
