/-! a call of the class and the same call of the reference: they answer alike, and agree behind it (written by a program) -/
section ST
variable (l : Launch) (D : va_G) (b : Nat → Nat) (ids : List Nat) {S : ns_S} {n : Nat}
def stp2 (l : Launch) (D : va_G) (b : Nat → Nat) (ids : List Nat) (S : ns_S) (n : Nat) (y1 y2 : MethodName) (w1 w2 : List Cond) (r1 r2 : Room) (as : List Value) : Prop := ∃ (r : Int32) (S1 S2 : ns_S), ns_M l y1 w1 r1 D b ids S (.ref (b 0) :: as) (some (.int r)) S1 ∧ ns_M l y2 w2 r2 D b ids S1 (.ref (b 62) :: as) (some (.int r)) S2 ∧ Rel S2 (n + 20) ∧ S2.2.2.2 = S.2.2.2
set_option maxHeartbeats 4000000 in
set_option maxRecDepth 100000 in
theorem step_feed (hI : ∀ i, i < 107 → i ∈ ids) (hn0 : n + 20 < 2 ^ 31) (hR : Rel S n) (p1 p2 p3 p4 p5 : Int32) : stp2 l D b ids S n yX10_feed yX11_feed wsX10_feed wsX11_feed rmX10_feed_0 rmX11_feed_62 [.int p1, .int p2, .int p3, .int p4, .int p5] := by
  have hN : 20000 ≤ 20000 := Nat.le_refl _
  have hn : n < 2 ^ 31 := by omega
  obtain ⟨o1, o2, h1, h2, h3, h4⟩ := op_feed (N := 20000) hN hR p1 p2 p3 p4 p5
  have hm : ns_M l yX11_feed wsX11_feed rmX11_feed_62 D b ids (uX10_feed S o1) (.ref (b 62) :: [.int p1, .int p2, .int p3, .int p4, .int p5]) (some (.int o2.1)) (uX11_feed (uX10_feed S o1) o2) := mX11_feed_62 l D b ids hI 20000 (uX10_feed S o1) p1 p2 p3 p4 p5 h2
  rw [← h3] at hm
  exact ⟨o1.1, uX10_feed S o1, uX11_feed (uX10_feed S o1) o2, mX10_feed_0 l D b ids hI 20000 S p1 p2 p3 p4 p5 h1, hm, h4.mono (by omega), rfl⟩
set_option maxHeartbeats 4000000 in
set_option maxRecDepth 100000 in
theorem step_end (hI : ∀ i, i < 107 → i ∈ ids) (hn0 : n + 20 < 2 ^ 31) (hR : Rel S n) (p1 : Int32) : stp2 l D b ids S n yX10_end yX11_end wsX10_end wsX11_end rmX10_end_0 rmX11_end_62 [.int p1] := by
  have hN : 20000 ≤ 20000 := Nat.le_refl _
  have hn : n < 2 ^ 31 := by omega
  obtain ⟨o1, o2, h1, h2, h3, h4⟩ := op_end (N := 20000)  hR p1
  have hm : ns_M l yX11_end wsX11_end rmX11_end_62 D b ids (uX10_end S o1) (.ref (b 62) :: [.int p1]) (some (.int o2.1)) (uX11_end (uX10_end S o1) o2) := mX11_end_62 l D b ids hI 20000 (uX10_end S o1) p1 h2
  rw [← h3] at hm
  exact ⟨o1.1, uX10_end S o1, uX11_end (uX10_end S o1) o2, mX10_end_0 l D b ids hI 20000 S p1 h1, hm, h4.mono (by omega), rfl⟩
set_option maxHeartbeats 4000000 in
set_option maxRecDepth 100000 in
theorem step_fees (hI : ∀ i, i < 107 → i ∈ ids) (hn0 : n + 20 < 2 ^ 31) (hR : Rel S n) : stp2 l D b ids S n yX10_fees yX11_fees wsX10_fees wsX11_fees rmX10_fees_0 rmX11_fees_62 [] := by
  have hN : 20000 ≤ 20000 := Nat.le_refl _
  have hn : n < 2 ^ 31 := by omega
  obtain ⟨o1, o2, h1, h2, h3, h4⟩ := op_fees (N := 20000) hN hR 
  have hm : ns_M l yX11_fees wsX11_fees rmX11_fees_62 D b ids (uX10_fees S o1) (.ref (b 62) :: []) (some (.int o2.1)) (uX11_fees (uX10_fees S o1) o2) := mX11_fees_62 l D b ids hI 20000 (uX10_fees S o1)  h2
  rw [← h3] at hm
  exact ⟨o1.1, uX10_fees S o1, uX11_fees (uX10_fees S o1) o2, mX10_fees_0 l D b ids hI 20000 S  h1, hm, h4.mono (by omega), rfl⟩
set_option maxHeartbeats 4000000 in
set_option maxRecDepth 100000 in
theorem step_fault (hI : ∀ i, i < 107 → i ∈ ids) (hn0 : n + 20 < 2 ^ 31) (hR : Rel S n) (p1 : Int32) : stp2 l D b ids S n yX10_fault yX11_fault wsX10_fault wsX11_fault rmX10_fault_0 rmX11_fault_62 [.int p1] := by
  have hN : 20000 ≤ 20000 := Nat.le_refl _
  have hn : n < 2 ^ 31 := by omega
  obtain ⟨r, h1, h2⟩ := opq_fault (N := 20000)  hR p1
  exact ⟨r, S, ns_I S 3968 0, mX10_fault_0 l D b ids hI 20000 S p1 h1, mX11_fault_62 l D b ids hI 20000 S p1 h2, (Rel_cd hR).mono (by omega), rfl⟩
set_option maxHeartbeats 4000000 in
set_option maxRecDepth 100000 in
theorem step_room (hI : ∀ i, i < 107 → i ∈ ids) (hn0 : n + 20 < 2 ^ 31) (hR : Rel S n) (p1 : Int32) : stp2 l D b ids S n yX10_room yX11_room wsX10_room wsX11_room rmX10_room_0 rmX11_room_62 [.int p1] := by
  have hN : 20000 ≤ 20000 := Nat.le_refl _
  have hn : n < 2 ^ 31 := by omega
  obtain ⟨o1, o2, h1, h2, h3, h4⟩ := op_room (N := 20000) hn hR p1
  have hm : ns_M l yX11_room wsX11_room rmX11_room_62 D b ids (uX10_room S o1) (.ref (b 62) :: [.int p1]) (some (.int o2.1)) (uX11_room (uX10_room S o1) o2) := mX11_room_62 l D b ids hI 20000 (uX10_room S o1) p1 h2
  rw [← h3] at hm
  exact ⟨o1.1, uX10_room S o1, uX11_room (uX10_room S o1) o2, mX10_room_0 l D b ids hI 20000 S p1 h1, hm, h4.mono (by omega), rfl⟩
set_option maxHeartbeats 4000000 in
set_option maxRecDepth 100000 in
theorem step_course (hI : ∀ i, i < 107 → i ∈ ids) (hn0 : n + 20 < 2 ^ 31) (hR : Rel S n) (p1 p2 p3 p4 p5 : Int32) : stp2 l D b ids S n yX10_course yX11_course wsX10_course wsX11_course rmX10_course_0 rmX11_course_62 [.int p1, .int p2, .int p3, .int p4, .int p5] := by
  have hN : 20000 ≤ 20000 := Nat.le_refl _
  have hn : n < 2 ^ 31 := by omega
  obtain ⟨o1, o2, h1, h2, h3, h4⟩ := op_course (N := 20000) hn hR p1 p2 p3 p4 p5
  have hm : ns_M l yX11_course wsX11_course rmX11_course_62 D b ids (uX10_course S o1) (.ref (b 62) :: [.int p1, .int p2, .int p3, .int p4, .int p5]) (some (.int o2.1)) (uX11_course (uX10_course S o1) o2) := mX11_course_62 l D b ids hI 20000 (uX10_course S o1) p1 p2 p3 p4 p5 h2
  rw [← h3] at hm
  exact ⟨o1.1, uX10_course S o1, uX11_course (uX10_course S o1) o2, mX10_course_0 l D b ids hI 20000 S p1 p2 p3 p4 p5 h1, hm, h4.mono (by omega), rfl⟩
set_option maxHeartbeats 4000000 in
set_option maxRecDepth 100000 in
theorem step_pupil (hI : ∀ i, i < 107 → i ∈ ids) (hn0 : n + 20 < 2 ^ 31) (hR : Rel S n) (p1 p2 p3 : Int32) : stp2 l D b ids S n yX10_pupil yX11_pupil wsX10_pupil wsX11_pupil rmX10_pupil_0 rmX11_pupil_62 [.int p1, .int p2, .int p3] := by
  have hN : 20000 ≤ 20000 := Nat.le_refl _
  have hn : n < 2 ^ 31 := by omega
  obtain ⟨o1, o2, h1, h2, h3, h4⟩ := op_pupil (N := 20000) hn hR p1 p2 p3
  have hm : ns_M l yX11_pupil wsX11_pupil rmX11_pupil_62 D b ids (uX10_pupil S o1) (.ref (b 62) :: [.int p1, .int p2, .int p3]) (some (.int o2.1)) (uX11_pupil (uX10_pupil S o1) o2) := mX11_pupil_62 l D b ids hI 20000 (uX10_pupil S o1) p1 p2 p3 h2
  rw [← h3] at hm
  exact ⟨o1.1, uX10_pupil S o1, uX11_pupil (uX10_pupil S o1) o2, mX10_pupil_0 l D b ids hI 20000 S p1 p2 p3 h1, hm, h4.mono (by omega), rfl⟩
set_option maxHeartbeats 4000000 in
set_option maxRecDepth 100000 in
theorem step_wish (hI : ∀ i, i < 107 → i ∈ ids) (hn0 : n + 20 < 2 ^ 31) (hR : Rel S n) (p1 p2 : Int32) : stp2 l D b ids S n yX10_wish yX11_wish wsX10_wish wsX11_wish rmX10_wish_0 rmX11_wish_62 [.int p1, .int p2] := by
  have hN : 20000 ≤ 20000 := Nat.le_refl _
  have hn : n < 2 ^ 31 := by omega
  obtain ⟨o1, o2, h1, h2, h3, h4⟩ := op_wish (N := 20000) hN hn hR p1 p2
  have hm : ns_M l yX11_wish wsX11_wish rmX11_wish_62 D b ids (uX10_wish S o1) (.ref (b 62) :: [.int p1, .int p2]) (some (.int o2.1)) (uX11_wish (uX10_wish S o1) o2) := mX11_wish_62 l D b ids hI 20000 (uX10_wish S o1) p1 p2 h2
  rw [← h3] at hm
  exact ⟨o1.1, uX10_wish S o1, uX11_wish (uX10_wish S o1) o2, mX10_wish_0 l D b ids hI 20000 S p1 p2 h1, hm, h4.mono (by omega), rfl⟩
set_option maxHeartbeats 4000000 in
set_option maxRecDepth 100000 in
theorem step_canHold (hI : ∀ i, i < 107 → i ∈ ids) (hn0 : n + 20 < 2 ^ 31) (hR : Rel S n) (p1 : Int32) : stp2 l D b ids S n yX10_canHold yX11_canHold wsX10_canHold wsX11_canHold rmX10_canHold_0 rmX11_canHold_62 [.int p1] := by
  have hN : 20000 ≤ 20000 := Nat.le_refl _
  have hn : n < 2 ^ 31 := by omega
  obtain ⟨o1, o2, h1, h2, h3, h4⟩ := op_canHold (N := 20000) hN hR p1
  have hm : ns_M l yX11_canHold wsX11_canHold rmX11_canHold_62 D b ids (uX10_canHold S o1) (.ref (b 62) :: [.int p1]) (some (.int o2.1)) (uX11_canHold (uX10_canHold S o1) o2) := mX11_canHold_62 l D b ids hI 20000 (uX10_canHold S o1) p1 h2
  rw [← h3] at hm
  exact ⟨o1.1, uX10_canHold S o1, uX11_canHold (uX10_canHold S o1) o2, mX10_canHold_0 l D b ids hI 20000 S p1 h1, hm, h4.mono (by omega), rfl⟩
set_option maxHeartbeats 4000000 in
set_option maxRecDepth 100000 in
theorem step_points (hI : ∀ i, i < 107 → i ∈ ids) (hn0 : n + 20 < 2 ^ 31) (hR : Rel S n) (p1 : Int32) : stp2 l D b ids S n yX10_points yX11_points wsX10_points wsX11_points rmX10_points_0 rmX11_points_62 [.int p1] := by
  have hN : 20000 ≤ 20000 := Nat.le_refl _
  have hn : n < 2 ^ 31 := by omega
  obtain ⟨o1, o2, h1, h2, h3, h4⟩ := op_points (N := 20000) hN hR p1
  have hm : ns_M l yX11_points wsX11_points rmX11_points_62 D b ids (uX10_points S o1) (.ref (b 62) :: [.int p1]) (some (.int o2.1)) (uX11_points (uX10_points S o1) o2) := mX11_points_62 l D b ids hI 20000 (uX10_points S o1) p1 h2
  rw [← h3] at hm
  exact ⟨o1.1, uX10_points S o1, uX11_points (uX10_points S o1) o2, mX10_points_0 l D b ids hI 20000 S p1 h1, hm, h4.mono (by omega), rfl⟩
set_option maxHeartbeats 4000000 in
set_option maxRecDepth 100000 in
theorem step_open (hI : ∀ i, i < 107 → i ∈ ids) (hn0 : n + 20 < 2 ^ 31) (hR : Rel S n) : stp2 l D b ids S n yX10_open yX11_open wsX10_open wsX11_open rmX10_open_0 rmX11_open_62 [] := by
  have hN : 20000 ≤ 20000 := Nat.le_refl _
  have hn : n < 2 ^ 31 := by omega
  obtain ⟨o1, o2, h1, h2, h3, h4⟩ := op_open (N := 20000) hN hn hR 
  have hm : ns_M l yX11_open wsX11_open rmX11_open_62 D b ids (uX10_open S o1) (.ref (b 62) :: []) (some (.int o2.1)) (uX11_open (uX10_open S o1) o2) := mX11_open_62 l D b ids hI 20000 (uX10_open S o1)  h2
  rw [← h3] at hm
  exact ⟨o1.1, uX10_open S o1, uX11_open (uX10_open S o1) o2, mX10_open_0 l D b ids hI 20000 S  h1, hm, h4.mono (by omega), rfl⟩
set_option maxHeartbeats 4000000 in
set_option maxRecDepth 100000 in
theorem step_close (hI : ∀ i, i < 107 → i ∈ ids) (hn0 : n + 20 < 2 ^ 31) (hR : Rel S n) : stp2 l D b ids S n yX10_close yX11_close wsX10_close wsX11_close rmX10_close_0 rmX11_close_62 [] := by
  have hN : 20000 ≤ 20000 := Nat.le_refl _
  have hn : n < 2 ^ 31 := by omega
  obtain ⟨o1, o2, h1, h2, h3, h4⟩ := op_close (N := 20000) hN hn hR 
  have hm : ns_M l yX11_close wsX11_close rmX11_close_62 D b ids (uX10_close S o1) (.ref (b 62) :: []) (some (.int o2.1)) (uX11_close (uX10_close S o1) o2) := mX11_close_62 l D b ids hI 20000 (uX10_close S o1)  h2
  rw [← h3] at hm
  exact ⟨o1.1, uX10_close S o1, uX11_close (uX10_close S o1) o2, mX10_close_0 l D b ids hI 20000 S  h1, hm, h4.mono (by omega), rfl⟩
set_option maxHeartbeats 4000000 in
set_option maxRecDepth 100000 in
theorem step_weeks (hI : ∀ i, i < 107 → i ∈ ids) (hn0 : n + 20 < 2 ^ 31) (hR : Rel S n) (p1 : Int32) : stp2 l D b ids S n yX10_weeks yX11_weeks wsX10_weeks wsX11_weeks rmX10_weeks_0 rmX11_weeks_62 [.int p1] := by
  have hN : 20000 ≤ 20000 := Nat.le_refl _
  have hn : n < 2 ^ 31 := by omega
  obtain ⟨o1, o2, h1, h2, h3, h4⟩ := op_weeks (N := 20000) hN (by omega) hR p1
  have hm : ns_M l yX11_weeks wsX11_weeks rmX11_weeks_62 D b ids (uX10_weeks S o1) (.ref (b 62) :: [.int p1]) (some (.int o2.1)) (uX11_weeks (uX10_weeks S o1) o2) := mX11_weeks_62 l D b ids hI 20000 (uX10_weeks S o1) p1 h2
  rw [← h3] at hm
  exact ⟨o1.1, uX10_weeks S o1, uX11_weeks (uX10_weeks S o1) o2, mX10_weeks_0 l D b ids hI 20000 S p1 h1, hm, h4.mono (by omega), rfl⟩
set_option maxHeartbeats 4000000 in
set_option maxRecDepth 100000 in
theorem step_quit (hI : ∀ i, i < 107 → i ∈ ids) (hn0 : n + 20 < 2 ^ 31) (hR : Rel S n) (p1 p2 : Int32) : stp2 l D b ids S n yX10_quit yX11_quit wsX10_quit wsX11_quit rmX10_quit_0 rmX11_quit_62 [.int p1, .int p2] := by
  have hN : 20000 ≤ 20000 := Nat.le_refl _
  have hn : n < 2 ^ 31 := by omega
  obtain ⟨o1, o2, h1, h2, h3, h4⟩ := op_quit (N := 20000) hN hn hR p1 p2
  have hm : ns_M l yX11_quit wsX11_quit rmX11_quit_62 D b ids (uX10_quit S o1) (.ref (b 62) :: [.int p1, .int p2]) (some (.int o2.1)) (uX11_quit (uX10_quit S o1) o2) := mX11_quit_62 l D b ids hI 20000 (uX10_quit S o1) p1 p2 h2
  rw [← h3] at hm
  exact ⟨o1.1, uX10_quit S o1, uX11_quit (uX10_quit S o1) o2, mX10_quit_0 l D b ids hI 20000 S p1 p2 h1, hm, h4.mono (by omega), rfl⟩
set_option maxHeartbeats 4000000 in
set_option maxRecDepth 100000 in
theorem step_tell (hI : ∀ i, i < 107 → i ∈ ids) (hn0 : n + 20 < 2 ^ 31) (hR : Rel S n) (p1 p2 : Int32) : stp2 l D b ids S n yX10_tell yX11_tell wsX10_tell wsX11_tell rmX10_tell_0 rmX11_tell_62 [.int p1, .int p2] := by
  have hN : 20000 ≤ 20000 := Nat.le_refl _
  have hn : n < 2 ^ 31 := by omega
  obtain ⟨r, h1, h2⟩ := opq_tell (N := 20000) hN hR p1 p2
  exact ⟨r, S, ns_I S 3968 0, mX10_tell_0 l D b ids hI 20000 S p1 p2 h1, mX11_tell_62 l D b ids hI 20000 S p1 p2 h2, (Rel_cd hR).mono (by omega), rfl⟩
set_option maxHeartbeats 4000000 in
set_option maxRecDepth 100000 in
theorem step_person (hI : ∀ i, i < 107 → i ∈ ids) (hn0 : n + 20 < 2 ^ 31) (hR : Rel S n) (p1 p2 : Int32) : stp2 l D b ids S n yX10_person yX11_person wsX10_person wsX11_person rmX10_person_0 rmX11_person_62 [.int p1, .int p2] := by
  have hN : 20000 ≤ 20000 := Nat.le_refl _
  have hn : n < 2 ^ 31 := by omega
  obtain ⟨r, h1, h2⟩ := opq_person (N := 20000) hN hR p1 p2
  exact ⟨r, S, ns_I S 3968 0, mX10_person_0 l D b ids hI 20000 S p1 p2 h1, mX11_person_62 l D b ids hI 20000 S p1 p2 h2, (Rel_cd hR).mono (by omega), rfl⟩
set_option maxHeartbeats 4000000 in
set_option maxRecDepth 100000 in
theorem step_why (hI : ∀ i, i < 107 → i ∈ ids) (hn0 : n + 20 < 2 ^ 31) (hR : Rel S n) (p1 p2 : Int32) : stp2 l D b ids S n yX10_why yX11_why wsX10_why wsX11_why rmX10_why_0 rmX11_why_62 [.int p1, .int p2] := by
  have hN : 20000 ≤ 20000 := Nat.le_refl _
  have hn : n < 2 ^ 31 := by omega
  obtain ⟨r, h1, h2⟩ := opq_why (N := 20000) hN hR p1 p2
  exact ⟨r, S, ns_I S 3968 0, mX10_why_0 l D b ids hI 20000 S p1 p2 h1, mX11_why_62 l D b ids hI 20000 S p1 p2 h2, (Rel_cd hR).mono (by omega), rfl⟩
set_option maxHeartbeats 4000000 in
set_option maxRecDepth 100000 in
theorem step_hours (hI : ∀ i, i < 107 → i ∈ ids) (hn0 : n + 20 < 2 ^ 31) (hR : Rel S n) (p1 p2 : Int32) : stp2 l D b ids S n yX10_hours yX11_hours wsX10_hours wsX11_hours rmX10_hours_0 rmX11_hours_62 [.int p1, .int p2] := by
  have hN : 20000 ≤ 20000 := Nat.le_refl _
  have hn : n < 2 ^ 31 := by omega
  obtain ⟨r, h1, h2⟩ := opq_hours (N := 20000) hN hR p1 p2
  exact ⟨r, S, ns_I S 3968 0, mX10_hours_0 l D b ids hI 20000 S p1 p2 h1, mX11_hours_62 l D b ids hI 20000 S p1 p2 h2, (Rel_cd hR).mono (by omega), rfl⟩
set_option maxHeartbeats 4000000 in
set_option maxRecDepth 100000 in
theorem step_bill (hI : ∀ i, i < 107 → i ∈ ids) (hn0 : n + 20 < 2 ^ 31) (hR : Rel S n) (p1 : Int32) : stp2 l D b ids S n yX10_bill yX11_bill wsX10_bill wsX11_bill rmX10_bill_0 rmX11_bill_62 [.int p1] := by
  have hN : 20000 ≤ 20000 := Nat.le_refl _
  have hn : n < 2 ^ 31 := by omega
  obtain ⟨o1, o2, h1, h2, h3, h4⟩ := op_bill (N := 20000) hN hn hR p1
  subst h3
  exact ⟨o2.1, S, uX11_bill S o2, mX10_bill_0 l D b ids hI 20000 S p1 h1, mX11_bill_62 l D b ids hI 20000 S p1 h2, h4.mono (by omega), rfl⟩
set_option maxHeartbeats 4000000 in
set_option maxRecDepth 100000 in
theorem step_line (hI : ∀ i, i < 107 → i ∈ ids) (hn0 : n + 20 < 2 ^ 31) (hR : Rel S n) (p1 p2 : Int32) : stp2 l D b ids S n yX10_line yX11_line wsX10_line wsX11_line rmX10_line_0 rmX11_line_62 [.int p1, .int p2] := by
  have hN : 20000 ≤ 20000 := Nat.le_refl _
  have hn : n < 2 ^ 31 := by omega
  obtain ⟨o1, o2, h1, h2, h3, h4⟩ := op_line (N := 20000) hN hn hR p1 p2
  subst h3
  exact ⟨o2.1, S, uX11_line S o2, mX10_line_0 l D b ids hI 20000 S p1 p2 h1, mX11_line_62 l D b ids hI 20000 S p1 p2 h2, h4.mono (by omega), rfl⟩
set_option maxHeartbeats 4000000 in
set_option maxRecDepth 100000 in
theorem step_count (hI : ∀ i, i < 107 → i ∈ ids) (hn0 : n + 20 < 2 ^ 31) (hR : Rel S n) (p1 : Int32) : stp2 l D b ids S n yX10_count yX11_count wsX10_count wsX11_count rmX10_count_0 rmX11_count_62 [.int p1] := by
  have hN : 20000 ≤ 20000 := Nat.le_refl _
  have hn : n < 2 ^ 31 := by omega
  obtain ⟨r, h1, h2⟩ := opq_count (N := 20000) hN hR p1
  exact ⟨r, S, ns_I S 3968 0, mX10_count_0 l D b ids hI 20000 S p1 h1, mX11_count_62 l D b ids hI 20000 S p1 h2, (Rel_cd hR).mono (by omega), rfl⟩
set_option maxHeartbeats 4000000 in
set_option maxRecDepth 100000 in
theorem step_waits (hI : ∀ i, i < 107 → i ∈ ids) (hn0 : n + 20 < 2 ^ 31) (hR : Rel S n) (p1 p2 : Int32) : stp2 l D b ids S n yX10_waits yX11_waits wsX10_waits wsX11_waits rmX10_waits_0 rmX11_waits_62 [.int p1, .int p2] := by
  have hN : 20000 ≤ 20000 := Nat.le_refl _
  have hn : n < 2 ^ 31 := by omega
  obtain ⟨r, h1, h2⟩ := opq_waits (N := 20000) hN hR p1 p2
  exact ⟨r, S, ns_I S 3968 0, mX10_waits_0 l D b ids hI 20000 S p1 p2 h1, mX11_waits_62 l D b ids hI 20000 S p1 p2 h2, (Rel_cd hR).mono (by omega), rfl⟩
end ST
