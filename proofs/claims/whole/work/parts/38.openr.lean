/-! the reference's begins, and its open up to the moves -/
theorem nz24 : (24 : Int32) = nI 24 := rfl
theorem nz30 : (30 : Int32) = nI 30 := rfl
/-- one row of a block is filled, the rest stands -/
def fi (f f' : Nat → Int32) (n : Nat) (v : Int32) : Prop := (∀ j, j < n → f' j = v) ∧ kp f f' n
section BG
variable {N : Nat}
theorem beg86 (hN : 40 < N) {a b c d e g : Nat → Int32} : ∀ dd i m (h : Nat → Int32), i + dd = 5 → dd < m → (∀ j, j < i → h j = 0) → ∃ h', fX11_begins_86 N m a b c d e g h (nI i) = some (a, b, c, d, e, g, h') ∧ fi h h' 5 0 := by
  intro dd
  induction dd with
  | zero =>
    intro i m h h1 h2 h3
    obtain ⟨m, rfl⟩ : ∃ z, m = z + 1 := ⟨m - 1, by omega⟩
    refine ⟨h, ?_, fun j hj => h3 j (by omega), kp.rf⟩
    show gX11_begins_86 N (fX11_begins_86 N m) a b c d e g h (nI i) = _
    unfold gX11_begins_86
    rw [if_pos (by rw [nz5]; exact nI_le (by omega) (by omega))]
  | succ dd ih =>
    intro i m h h1 h2 h3
    obtain ⟨m, rfl⟩ : ∃ z, m = z + 1 := ⟨m - 1, by omega⟩
    obtain ⟨h', e1, e2, e3⟩ := ih (i + 1) m (upd h i 0) (by omega) (by omega) (fun j hj => by
      by_cases q : j = i
      · subst q; exact pk_us
      · rw [pk_un q]; exact h3 j (by omega))
    refine ⟨h', ?_, e2, (kp.up (by omega)).tr e3⟩
    rw [← e1]
    show gX11_begins_86 N (fX11_begins_86 N m) a b c d e g h (nI i) = _
    unfold gX11_begins_86
    rw [if_neg (by rw [nz5]; exact nI_ge (by omega) (by omega)), nz_ast (by omega) (by omega), Option.bind_some, nz_let, nI_1]
theorem beg65 (hN : 40 < N) {a b c d e h : Nat → Int32} : ∀ dd i m (g : Nat → Int32), i + dd = 6 → dd < m → (∀ j, j < i → g j = 0) → ∃ g' h', fX11_begins_65 N m a b c d e g h (nI i) = some (a, b, c, d, e, g', h') ∧ fi g g' 6 0 ∧ fi h h' 5 0 := by
  intro dd
  induction dd with
  | zero =>
    intro i m g h1 h2 h3
    obtain ⟨m, rfl⟩ : ∃ z, m = z + 1 := ⟨m - 1, by omega⟩
    obtain ⟨h', k1, k2⟩ := beg86 (N := N) hN (a := a) (b := b) (c := c) (d := d) (e := e) (g := g) 5 0 N h (by omega) (by omega) (fun j hj => by omega)
    refine ⟨g, h', ?_, ⟨fun j hj => h3 j (by omega), kp.rf⟩, k2⟩
    rw [← k1]
    show gX11_begins_65 N (fX11_begins_65 N m) a b c d e g h (nI i) = _
    unfold gX11_begins_65
    rw [if_pos (by rw [nz6]; exact nI_le (by omega) (by omega))]
    rfl
  | succ dd ih =>
    intro i m g h1 h2 h3
    obtain ⟨m, rfl⟩ : ∃ z, m = z + 1 := ⟨m - 1, by omega⟩
    obtain ⟨g', h', e1, ⟨e2, e3⟩, e4⟩ := ih (i + 1) m (upd g i 0) (by omega) (by omega) (fun j hj => by
      by_cases q : j = i
      · subst q; exact pk_us
      · rw [pk_un q]; exact h3 j (by omega))
    refine ⟨g', h', ?_, ⟨e2, (kp.up (by omega)).tr e3⟩, e4⟩
    rw [← e1]
    show gX11_begins_65 N (fX11_begins_65 N m) a b c d e g h (nI i) = _
    unfold gX11_begins_65
    rw [if_neg (by rw [nz6]; exact nI_ge (by omega) (by omega)), nz_ast (by omega) (by omega), Option.bind_some, nz_let, nI_1]
theorem beg37 (hN : 40 < N) {a b c g h : Nat → Int32} : ∀ dd i m (d e : Nat → Int32), i + dd = 30 → dd < m → (∀ j, j < i → d j = 0) → (∀ j, j < i → e j = 0) → ∃ d' e' g' h', fX11_begins_37 N m a b c d e g h (nI i) = some (a, b, c, d', e', g', h') ∧ fi d d' 30 0 ∧ fi e e' 30 0 ∧ fi g g' 6 0 ∧ fi h h' 5 0 := by
  intro dd
  induction dd with
  | zero =>
    intro i m d e h1 h2 h3 h4
    obtain ⟨m, rfl⟩ : ∃ z, m = z + 1 := ⟨m - 1, by omega⟩
    obtain ⟨g', h', k1, k2, k3⟩ := beg65 (N := N) hN (a := a) (b := b) (c := c) (d := d) (e := e) (h := h) 6 0 N g (by omega) (by omega) (fun j hj => by omega)
    refine ⟨d, e, g', h', ?_, ⟨fun j hj => h3 j (by omega), kp.rf⟩, ⟨fun j hj => h4 j (by omega), kp.rf⟩, k2, k3⟩
    rw [← k1]
    show gX11_begins_37 N (fX11_begins_37 N m) a b c d e g h (nI i) = _
    unfold gX11_begins_37
    rw [if_pos (by rw [nz30]; exact nI_le (by omega) (by omega))]
    rfl
  | succ dd ih =>
    intro i m d e h1 h2 h3 h4
    obtain ⟨m, rfl⟩ : ∃ z, m = z + 1 := ⟨m - 1, by omega⟩
    obtain ⟨d', e', g', h', k1, ⟨k2, k3⟩, ⟨k4, k5⟩, k6⟩ := ih (i + 1) m (upd d i 0) (upd e i 0) (by omega) (by omega) (fun j hj => by
      by_cases q : j = i
      · subst q; exact pk_us
      · rw [pk_un q]; exact h3 j (by omega)) (fun j hj => by
      by_cases q : j = i
      · subst q; exact pk_us
      · rw [pk_un q]; exact h4 j (by omega))
    refine ⟨d', e', g', h', ?_, ⟨k2, (kp.up (by omega)).tr k3⟩, ⟨k4, (kp.up (by omega)).tr k5⟩, k6⟩
    rw [← k1]
    show gX11_begins_37 N (fX11_begins_37 N m) a b c d e g h (nI i) = _
    unfold gX11_begins_37
    rw [if_neg (by rw [nz30]; exact nI_ge (by omega) (by omega)), nz_ast (by omega) (by omega), Option.bind_some, nz_ast (by omega) (by omega), Option.bind_some, nz_let, nI_1]
theorem beg2 (hN : 40 < N) {d e g h : Nat → Int32} : ∀ dd i m (a b c : Nat → Int32), i + dd = 10 → dd < m → (∀ j, j < i → a j = nM) → (∀ j, j < i → b j = 0) → (∀ j, j < i → c j = 0) → ∃ a' b' c' d' e' g' h', fX11_begins_2 N m a b c d e g h (nI i) = some (a', b', c', d', e', g', h') ∧ fi a a' 10 nM ∧ fi b b' 10 0 ∧ fi c c' 10 0 ∧ fi d d' 30 0 ∧ fi e e' 30 0 ∧ fi g g' 6 0 ∧ fi h h' 5 0 := by
  intro dd
  induction dd with
  | zero =>
    intro i m a b c h1 h2 h3 h4 h5
    obtain ⟨m, rfl⟩ : ∃ z, m = z + 1 := ⟨m - 1, by omega⟩
    obtain ⟨d', e', g', h', k1, k2⟩ := beg37 (N := N) hN (a := a) (b := b) (c := c) (g := g) (h := h) 30 0 N d e (by omega) (by omega) (fun j hj => by omega) (fun j hj => by omega)
    refine ⟨a, b, c, d', e', g', h', ?_, ⟨fun j hj => h3 j (by omega), kp.rf⟩, ⟨fun j hj => h4 j (by omega), kp.rf⟩, ⟨fun j hj => h5 j (by omega), kp.rf⟩, k2⟩
    rw [← k1]
    show gX11_begins_2 N (fX11_begins_2 N m) a b c d e g h (nI i) = _
    unfold gX11_begins_2
    rw [if_pos (by rw [nz10]; exact nI_le (by omega) (by omega))]
    rfl
  | succ dd ih =>
    intro i m a b c h1 h2 h3 h4 h5
    obtain ⟨m, rfl⟩ : ∃ z, m = z + 1 := ⟨m - 1, by omega⟩
    obtain ⟨a', b', c', d', e', g', h', k1, ⟨k2, k3⟩, ⟨k4, k5⟩, ⟨k6, k7⟩, k8⟩ := ih (i + 1) m (upd a i nM) (upd b i 0) (upd c i 0) (by omega) (by omega) (fun j hj => by
      by_cases q : j = i
      · subst q; exact pk_us
      · rw [pk_un q]; exact h3 j (by omega)) (fun j hj => by
      by_cases q : j = i
      · subst q; exact pk_us
      · rw [pk_un q]; exact h4 j (by omega)) (fun j hj => by
      by_cases q : j = i
      · subst q; exact pk_us
      · rw [pk_un q]; exact h5 j (by omega))
    refine ⟨a', b', c', d', e', g', h', ?_, ⟨k2, (kp.up (by omega)).tr k3⟩, ⟨k4, (kp.up (by omega)).tr k5⟩, ⟨k6, (kp.up (by omega)).tr k7⟩, k8⟩
    rw [← k1]
    show gX11_begins_2 N (fX11_begins_2 N m) a b c d e g h (nI i) = _
    unfold gX11_begins_2
    rw [if_neg (by rw [nz10]; exact nI_ge (by omega) (by omega)), nz_ast (by omega) (by omega), Option.bind_some, nz_ast (by omega) (by omega), Option.bind_some, nz_ast (by omega) (by omega), Option.bind_some, nz_let, nI_1]
    rfl
theorem begins_eq (hN : 40 < N) (a b c d e g h : Nat → Int32) : ∃ a' b' c' d' e' g' h', fX11_begins N a b c d e g h = some (a', b', c', d', e', g', h') ∧ fi a a' 10 nM ∧ fi b b' 10 0 ∧ fi c c' 10 0 ∧ fi d d' 30 0 ∧ fi e e' 30 0 ∧ fi g g' 6 0 ∧ fi h h' 5 0 :=
  beg2 hN 10 0 N a b c (by omega) (by omega) (fun j hj => by omega) (fun j hj => by omega) (fun j hj => by omega)
end BG
section OR
variable {N nr nc np : Nat} {se mo ev te le nw wa : Nat → Nat} {W : Nat → Nat → Nat} {sea moa eva tea lea wc wi wnt cs rs pu : Nat → Int32}
/-- the rooms and places of the best set come to the courses -/
theorem open86 (hN : 40 < N) (hnc : nc ≤ 10) (hcs : cs 0 = nI nc) {best : Nat} (hb : best < 1024) {tr tp : Nat → Int32} {rm pl : Nat → Nat} (ht : ∀ d, d < nc → best.testBit d = true → tr d = nI (rm d) ∧ tp d = nI (pl d)) {cod l3 : Int32} {wk th hl c d e g h : Nat → Int32} :
    ∀ dd i m (a b : Nat → Int32), i + dd = nc → dd < m → ∃ a' b', fX11_open_86 N m cod wk cs rs eva tea moa tp lea tr sea pu th wnt wc wi hl a b c d e g h (nI best) l3 (nI i) = fX11_open_168 N N cod wk cs rs eva tea moa tp lea tr sea pu th wnt wc wi hl a' b' c d e g h l3 0 ∧ (∀ j, i ≤ j → j < nc → a' j = (if best.testBit j = true then nI (rm j) else nM) ∧ b' j = (if best.testBit j = true then nI (pl j) else nI 0)) ∧ (∀ j, ¬ (i ≤ j ∧ j < nc) → a' j = a j ∧ b' j = b j) := by
  have hc0 : ns_ald cs 4 0 = some (nI nc) := by rw [nz0, nz_ald (by omega) (by omega), hcs]
  intro dd
  induction dd with
  | zero =>
    intro i m a b h1 h2
    obtain ⟨m, rfl⟩ : ∃ z, m = z + 1 := ⟨m - 1, by omega⟩
    refine ⟨a, b, ?_, fun j q1 q2 => by omega, fun j _ => ⟨rfl, rfl⟩⟩
    show gX11_open_86 N (fX11_open_86 N m) cod wk cs rs eva tea moa tp lea tr sea pu th wnt wc wi hl a b c d e g h (nI best) l3 (nI i) = _
    unfold gX11_open_86
    rw [hc0, Option.bind_some, if_pos (nI_le (by omega) (by omega))]
  | succ dd ih =>
    intro i m a b h1 h2
    obtain ⟨m, rfl⟩ : ∃ z, m = z + 1 := ⟨m - 1, by omega⟩
    obtain ⟨a', b', k1, k2, k3⟩ := ih (i + 1) m (upd a i (if best.testBit i = true then nI (rm i) else nM)) (upd b i (if best.testBit i = true then nI (pl i) else nI 0)) (by omega) (by omega)
    refine ⟨a', b', ?_, fun j q1 q2 => ?_, fun j q => ?_⟩
    · rw [← k1]
      show gX11_open_86 N (fX11_open_86 N m) cod wk cs rs eva tea moa tp lea tr sea pu th wnt wc wi hl a b c d e g h (nI best) l3 (nI i) = _
      unfold gX11_open_86 gX11_open_111
      rw [hc0, Option.bind_some, if_neg (nI_ge (by omega) (by omega)), bt_shr i (by omega) best hb]
      by_cases q : best.testBit i = true
      · obtain ⟨t1, t2⟩ := ht i (by omega) q
        rw [if_neg (bt_ne q), if_neg (by decide), if_pos q, if_pos q, nz_ald (by omega) (by omega), t1, Option.bind_some]
        unfold gX11_open_135
        rw [nz_ast (by omega) (by omega), Option.bind_some, if_neg (by decide), nz_ald (by omega) (by omega), t2, Option.bind_some, nz_ast (by omega) (by omega), Option.bind_some, nz_let, nI_1]
      · rw [if_pos (bt_is q), if_pos rfl, if_neg q, if_neg q]
        unfold gX11_open_135
        rw [nz_ast (by omega) (by omega), Option.bind_some, if_pos rfl, nz_ast (by omega) (by omega), Option.bind_some, nz_let, nI_1]
        rfl
    · by_cases z : j = i
      · subst z
        obtain ⟨y1, y2⟩ := k3 j (by omega)
        rw [y1, y2, pk_us, pk_us]
        exact ⟨rfl, rfl⟩
      · exact k2 j (by omega) q2
    · obtain ⟨y1, y2⟩ := k3 j (by omega)
      rw [y1, y2, pk_un (by omega), pk_un (by omega)]
      exact ⟨rfl, rfl⟩
theorem open168 (hN : 40 < N) (hnp : np ≤ 30) (hps : pu 0 = nI np) {cod l3 : Int32} {wk th hl a b c e g h tp tr : Nat → Int32} :
    ∀ dd p m (d : Nat → Int32), p + dd = np → dd < m → (∀ q, q < p → d q = th q) → ∃ d', fX11_open_168 N m cod wk cs rs eva tea moa tp lea tr sea pu th wnt wc wi hl a b c d e g h l3 (nI p) = (fX11_moveUp N wk pu wc wi d' hl eva cs wnt b e).bind (fun o2 => some (l3, cod, tr, tp, th, wk, hl, a, b, c, o2.1, o2.2, g, h)) ∧ (∀ q, q < np → d' q = th q) ∧ ∀ q, np ≤ q → d' q = d q := by
  have h0 : ns_ald pu 4 0 = some (nI np) := by rw [nz0, nz_ald (by omega) (by omega), hps]
  intro dd
  induction dd with
  | zero =>
    intro p m d h1 h2 h3
    obtain ⟨m, rfl⟩ : ∃ z, m = z + 1 := ⟨m - 1, by omega⟩
    refine ⟨d, ?_, fun q hq => h3 q (by omega), fun _ _ => rfl⟩
    show gX11_open_168 N (fX11_open_168 N m) cod wk cs rs eva tea moa tp lea tr sea pu th wnt wc wi hl a b c d e g h l3 (nI p) = _
    unfold gX11_open_168
    rw [h0, Option.bind_some, if_pos (nI_le (by omega) (by omega))]
  | succ dd ih =>
    intro p m d h1 h2 h3
    obtain ⟨m, rfl⟩ : ∃ z, m = z + 1 := ⟨m - 1, by omega⟩
    obtain ⟨d', k1, k2, k3⟩ := ih (p + 1) m (upd d p (th p)) (by omega) (by omega) (fun q hq => by
      by_cases z : q = p
      · subst z; exact pk_us
      · rw [pk_un z]; exact h3 q (by omega))
    refine ⟨d', ?_, k2, fun q hq => by rw [k3 q hq, pk_un (by omega)]⟩
    rw [← k1]
    show gX11_open_168 N (fX11_open_168 N m) cod wk cs rs eva tea moa tp lea tr sea pu th wnt wc wi hl a b c d e g h l3 (nI p) = _
    unfold gX11_open_168
    rw [h0, Option.bind_some, if_neg (nI_ge (by omega) (by omega)), nz_ald (by omega) (by omega), Option.bind_some, nz_ast (by omega) (by omega), Option.bind_some, nz_let, nI_1]
end OR
