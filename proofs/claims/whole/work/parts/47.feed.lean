/-! feed -/
def bC (p k : Int32) : Int32 := vp_nar .byte (((p.toUInt32 >>> (k.toUInt32 &&& Int32.toUInt32 31)).toInt32).toInt8.toInt32)
def bR (p k : Int32) : Int32 := vp_nar .byte ((p >>> (k &&& 31)).toInt8.toInt32)
theorem by_lem (p : Int32) (k : Int32) (s : Nat) (hs : s ≤ 24) (h1 : ((k &&& 31).toBitVec.smod 32).toNat = s) (h2 : ((k.toUInt32 &&& Int32.toUInt32 31).toBitVec % 32).toNat = s) : (p.toUInt32 >>> (k.toUInt32 &&& Int32.toUInt32 31)).toInt32.toInt8 = (p >>> (k &&& 31)).toInt8 := by
  refine Int8.toBitVec_inj.mp ?_
  rw [Int32.toBitVec_toInt8, Int32.toBitVec_toInt8]
  have e1 : (p.toUInt32 >>> (k.toUInt32 &&& Int32.toUInt32 31)).toInt32.toBitVec = p.toBitVec >>> s := by
    show p.toBitVec >>> ((k.toUInt32 &&& Int32.toUInt32 31).toBitVec % 32) = _
    rw [BitVec.ushiftRight_eq', h2]
  have e2 : (p >>> (k &&& 31)).toBitVec = p.toBitVec.sshiftRight s := by
    show p.toBitVec.sshiftRight' ((k &&& 31).toBitVec.smod 32) = _
    rw [BitVec.sshiftRight', h1]
  rw [e1, e2]
  refine BitVec.eq_of_getLsbD_eq (fun i hi => ?_)
  rw [BitVec.getLsbD_signExtend, BitVec.getLsbD_signExtend, if_pos (show i < 32 by omega), if_pos (show i < 32 by omega), BitVec.getLsbD_ushiftRight, BitVec.getLsbD_sshiftRight, if_pos (show s + i < 32 by omega), show decide (32 ≤ i) = false from decide_eq_false (by omega)]
  rfl
theorem by_24 (p : Int32) : bC p 24 = bR p 24 := by unfold bC bR; rw [by_lem p 24 24 (by decide) (by decide) (by decide)]
theorem by_16 (p : Int32) : bC p 16 = bR p 16 := by unfold bC bR; rw [by_lem p 16 16 (by decide) (by decide) (by decide)]
theorem by_8 (p : Int32) : bC p 8 = bR p 8 := by unfold bC bR; rw [by_lem p 8 8 (by decide) (by decide) (by decide)]
theorem by_0 (p : Int32) : bC p 0 = bR p 0 := by unfold bC bR; rw [by_lem p 0 0 (by decide) (by decide) (by decide)]
theorem bC_rg (p k : Int32) : -128 ≤ (bC p k).toInt ∧ (bC p k).toInt < 128 := by
  unfold bC
  rw [show ∀ y : Int32, vp_nar .byte y = y.toInt8.toInt32 from fun _ => rfl, Int8.toInt_toInt32]
  exact ⟨Int8.le_toInt _, Int8.toInt_lt _⟩
def tpe (a b : Nat → Int32) : Prop := ∀ j, j < 500 → b j = a j ∧ -128 ≤ (a j).toInt ∧ (a j).toInt < 128
section FD
variable {N n : Nat} {S : ns_S}
theorem put_eq {t : Nat} {a b : Nat → Int32} (hN : 20 < N) (ht : t + 4 ≤ 500) (h : tpe a b) (p : Int32) : ∃ a' b', fX10_putOnTape N (nI t) a p = some (a', nI (t + 4)) ∧ fX11_four N (nI t) b p = some (b', nI (t + 4)) ∧ tpe a' b' := by
  have sC : ∀ m t (a : Nat → Int32) (k : Int32), ¬ k < 0 → t < 500 → fX10_putOnTape_3 N (m + 1) (nI t) a p k = fX10_putOnTape_3 N m (nI (t + 1)) (upd a t (bC p k)) p (k + (-8)) := by
    intro m t a k hk ht
    rw [show fX10_putOnTape_3 N (m + 1) = gX10_putOnTape_3 N (fX10_putOnTape_3 N m) from rfl]
    unfold gX10_putOnTape_3
    rw [if_neg hk, nz_ast ht (by omega), Option.bind_some, nz_let, nz_let, nI_1]
    rfl
  have sR : ∀ m t (a : Nat → Int32) (k : Int32), ¬ k < 0 → t < 500 → fX11_four_3 N (m + 1) (nI t) a p k = fX11_four_3 N m (nI (t + 1)) (upd a t (bR p k)) p (k + (-8)) := by
    intro m t a k hk ht
    rw [show fX11_four_3 N (m + 1) = gX11_four_3 N (fX11_four_3 N m) from rfl]
    unfold gX11_four_3
    rw [if_neg hk, nz_ast ht (by omega), Option.bind_some, nz_let, nz_let, nI_1]
    rfl
  obtain ⟨m, hm⟩ : ∃ m, N = m + 1 + 1 + 1 + 1 + 1 := ⟨N - 5, by omega⟩
  have up : ∀ t (a b : Nat → Int32) (k : Int32), tpe a b → bC p k = bR p k → tpe (upd a t (bC p k)) (upd b t (bR p k)) := by
    intro t a b k h e j hj
    by_cases q : j = t
    · subst q; rw [pk_us, pk_us]; exact ⟨e.symm, bC_rg p k⟩
    · rw [pk_un q, pk_un q]; exact h j hj
  refine ⟨_, _, ?_, ?_, up (t + 3) _ _ 0 (up (t + 2) _ _ 8 (up (t + 1) _ _ 16 (up t _ _ 24 h (by_24 p)) (by_16 p)) (by_8 p)) (by_0 p)⟩
  · unfold fX10_putOnTape
    have : fX10_putOnTape_3 N N = fX10_putOnTape_3 N (m + 1 + 1 + 1 + 1 + 1) := by rw [← hm]
    rw [this, sC _ _ _ _ (by decide) (by omega), show (24 : Int32) + (-8) = 16 by decide, sC _ _ _ _ (by decide) (by omega), show (16 : Int32) + (-8) = 8 by decide, sC _ _ _ _ (by decide) (by omega), show (8 : Int32) + (-8) = 0 by decide, sC _ _ _ _ (by decide) (by omega), show (0 : Int32) + (-8) = -8 by decide]
    rfl
  · unfold fX11_four
    have : fX11_four_3 N N = fX11_four_3 N (m + 1 + 1 + 1 + 1 + 1) := by rw [← hm]
    rw [this, sR _ _ _ _ (by decide) (by omega), show (24 : Int32) + (-8) = 16 by decide, sR _ _ _ _ (by decide) (by omega), show (16 : Int32) + (-8) = 8 by decide, sR _ _ _ _ (by decide) (by omega), show (8 : Int32) + (-8) = 0 by decide, sR _ _ _ _ (by decide) (by omega), show (0 : Int32) + (-8) = -8 by decide]
    rfl
theorem op_feed (hN : 20000 ≤ N) (hR : Rel S n) (p1 p2 p3 p4 p5 : Int32) : ∃ o1 o2, aX10_feed N S p1 p2 p3 p4 p5 = some o1 ∧ aX11_feed N S p1 p2 p3 p4 p5 = some o2 ∧ o1.1 = o2.1 ∧ Rel (uX11_feed (uX10_feed S o1) o2) n := by
  have hR0 := hR
  obtain ⟨⟨X, hM, hC, hV⟩, hT, hI⟩ := hR
  obtain ⟨hT1, ⟨t, t1, t2, t3⟩, hT2⟩ := hT
  have key : ∀ (a b : Nat → Int32) (k : Nat), k ≤ 500 → tpe a b → Rel (uX11_feed (uX10_feed S (nI k, a, nI k)) (nI k, 0, b, nI k)) n := fun a b k hk hab =>
    ⟨⟨X, all31 (hM 65 (by decide) (by decide)) (hM 66 (by decide) (by decide)) (hM 67 (by decide) (by decide)) (hM 68 (by decide) (by decide)) (hM 69 (by decide) (by decide)) (hM 70 (by decide) (by decide)) (hM 71 (by decide) (by decide)) (hM 72 (by decide) (by decide)) (hM 73 (by decide) (by decide)) (hM 74 (by decide) (by decide)) (hM 75 (by decide) (by decide)) (hM 76 (by decide) (by decide)) (hM 77 (by decide) (by decide)) (hM 78 (by decide) (by decide)) (hM 79 (by decide) (by decide)) (hM 80 (by decide) (by decide)) (hM 81 (by decide) (by decide)) (hM 82 (by decide) (by decide)) (hM 83 (by decide) (by decide)) (hM 84 (by decide) (by decide)) (hM 85 (by decide) (by decide)) (hM 86 (by decide) (by decide)) (hM 87 (by decide) (by decide)) (hM 88 (by decide) (by decide)) (hM 89 (by decide) (by decide)) (hM 90 (by decide) (by decide)) (hM 91 (by decide) (by decide)) (hM 92 (by decide) (by decide)) (hM 93 (by decide) (by decide)) (hM 94 (by decide) (by decide)) (hM 95 (by decide) (by decide)), CB_fr (S := S) (by intro i h1 h2; simp (disch := omega) only [uX11_feed, uX10_feed, ns_A, ns_I, va_up_ne]) (by intro u h1 h2; simp (disch := omega) only [uX11_feed, uX10_feed, ns_A, ns_I, va_up_ne]) hC, hV⟩, ⟨hab, ⟨k, hk, rfl, rfl⟩, hT2⟩, Im_fr (S := S) ⟨all31 kp.rf kp.rf kp.rf kp.rf kp.rf kp.rf kp.rf kp.rf kp.rf kp.rf kp.rf kp.rf kp.rf kp.rf kp.rf kp.rf kp.rf kp.rf kp.rf kp.rf kp.rf kp.rf kp.rf kp.rf kp.rf kp.rf kp.rf kp.rf kp.rf kp.rf kp.rf, by intro i hi; simp (disch := omega) only [uX11_feed, uX10_feed, ns_A, ns_I, va_up_ne], by intro u hu; simp (disch := omega) only [uX11_feed, uX10_feed, ns_A, ns_I, va_up_ne], rfl⟩ (Nat.le_refl _) hI⟩
  unfold aX10_feed aX11_feed fX10_feed fX11_feed
  rw [show S.1 1 + 20 = nI (t + 20) by rw [t2]; exact nI_add t 20, show S.1 3970 + 20 = nI (t + 20) by rw [t3]; exact nI_add t 20, show (500 : Int32) = nI 500 from rfl]
  by_cases h : t + 20 ≤ 500
  · obtain ⟨a1, b1, c1, d1, e1⟩ := put_eq (N := N) (t := t) (by omega) (by omega) hT1 p1
    obtain ⟨a2, b2, c2, d2, e2⟩ := put_eq (N := N) (t := t + 4) (by omega) (by omega) e1 p2
    obtain ⟨a3, b3, c3, d3, e3⟩ := put_eq (N := N) (t := t + 4 + 4) (by omega) (by omega) e2 p3
    obtain ⟨a4, b4, c4, d4, e4⟩ := put_eq (N := N) (t := t + 4 + 4 + 4) (by omega) (by omega) e3 p4
    obtain ⟨a5, b5, c5, d5, e5⟩ := put_eq (N := N) (t := t + 4 + 4 + 4 + 4) (by omega) (by omega) e4 p5
    rw [t2, t3]
    simp only [if_pos (nI_le h (by decide : 500 < 2 ^ 31)), c1, c2, c3, c4, c5, d1, d2, d3, d4, d5, Option.bind_some]
    exact ⟨_, _, rfl, rfl, rfl, key a5 b5 (t + 4 + 4 + 4 + 4 + 4) (by omega) e5⟩
  · simp only [if_neg (nI_ge (show 500 < t + 20 by omega) (show t + 20 < 2 ^ 31 by omega))]
    refine ⟨_, _, rfl, rfl, rfl, ?_⟩
    have h1 : uX10_feed S (-1, S.2.1 1, S.1 1) = S := by
      unfold uX10_feed
      dsimp only
      rw [ns_I_id, ns_A_id]
    rw [h1]
    have h2 : uX11_feed S (-1, 0, S.2.1 63, S.1 3970) = ns_I S 3968 0 := by
      unfold uX11_feed
      dsimp only
      rw [ns_I_id, ns_A_id]
    rw [h2]
    exact Rel_cd hR0
end FD
