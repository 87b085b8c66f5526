/-! the cells of the system, by number: written by wip/gen/shape.py -/
abbrev ns_F : Type := Nat ⊕ (Nat ⊕ Nat)
abbrev ns_H : Type := (Nat × Nat) ⊕ (Nat × List ns_F)
def ns_tab : List ns_H := [.inr (10, [.inr (.inl 1), .inl 1, .inr (.inl 2), .inr (.inl 15), .inr (.inl 28), .inr (.inl 61)]),
  .inl (1, 500),
  .inr (1, [.inr (.inl 3), .inr (.inl 7), .inl 130, .inl 131, .inl 132]),
  .inr (9, [.inl 192, .inr (.inl 4), .inr (.inl 5), .inr (.inl 6)]),
  .inl (0, 501),
  .inl (0, 501),
  .inl (0, 501),
  .inr (2, [.inl 448, .inr (.inl 8), .inr (.inl 9), .inr (.inl 10), .inr (.inl 11), .inr (.inl 12), .inr (.inl 13), .inr (.inl 14)]),
  .inl (0, 16),
  .inl (0, 16),
  .inl (0, 16),
  .inl (0, 16),
  .inl (0, 64),
  .inl (0, 64),
  .inl (0, 64),
  .inr (3, [.inr (.inl 16), .inr (.inl 21), .inr (.inl 22), .inr (.inl 23), .inr (.inl 24), .inr (.inl 25), .inr (.inl 26), .inr (.inl 27), .inl 968, .inl 969]),
  .inr (7, [.inl 1024, .inr (.inl 17), .inr (.inl 18), .inr (.inl 19), .inr (.inl 20)]),
  .inl (0, 10),
  .inl (0, 10),
  .inl (0, 10),
  .inl (0, 30),
  .inl (0, 5),
  .inl (0, 10),
  .inl (0, 5),
  .inl (0, 5),
  .inl (0, 5),
  .inl (0, 30),
  .inl (0, 30),
  .inr (6, [.inr (.inl 29), .inr (.inl 31), .inr (.inl 37), .inr (.inl 43), .inr (.inl 48), .inr (.inl 53)]),
  .inr (5, [.inl 1856, .inr (.inl 30)]),
  .inl (0, 5),
  .inr (0, [.inl 1984, .inr (.inl 32), .inr (.inl 33), .inr (.inl 34), .inr (.inl 35), .inr (.inl 36)]),
  .inl (0, 10),
  .inl (0, 10),
  .inl (0, 10),
  .inl (0, 10),
  .inl (0, 10),
  .inr (4, [.inl 2368, .inr (.inl 38), .inr (.inl 39), .inr (.inl 40), .inr (.inl 41), .inr (.inl 42)]),
  .inl (0, 30),
  .inl (0, 30),
  .inl (0, 30),
  .inl (0, 30),
  .inl (0, 180),
  .inr (7, [.inl 2752, .inr (.inl 44), .inr (.inl 45), .inr (.inl 46), .inr (.inl 47)]),
  .inl (0, 10),
  .inl (0, 10),
  .inl (0, 10),
  .inl (0, 30),
  .inr (8, [.inl 3072, .inl 3073, .inr (.inl 49), .inr (.inl 50), .inr (.inl 51), .inr (.inl 52)]),
  .inl (0, 30),
  .inl (0, 10),
  .inl (0, 6),
  .inl (0, 5),
  .inr (2, [.inl 3392, .inr (.inl 54), .inr (.inl 55), .inr (.inl 56), .inr (.inl 57), .inr (.inl 58), .inr (.inl 59), .inr (.inl 60)]),
  .inl (0, 16),
  .inl (0, 16),
  .inl (0, 16),
  .inl (0, 16),
  .inl (0, 64),
  .inl (0, 64),
  .inl (0, 64),
  .inl (4, 3),
  .inr (11, [.inl 3968, .inr (.inl 63), .inl 3970, .inr (.inl 64), .inr (.inl 65), .inr (.inl 66), .inr (.inl 67), .inr (.inl 68), .inr (.inl 69), .inr (.inl 70), .inr (.inl 71), .inr (.inl 72), .inr (.inl 73), .inr (.inl 74), .inr (.inl 75), .inr (.inl 76), .inr (.inl 77), .inr (.inl 78), .inr (.inl 79), .inr (.inl 80), .inr (.inl 81), .inr (.inl 82), .inr (.inl 83), .inr (.inl 84), .inr (.inl 85), .inr (.inl 86), .inr (.inl 87), .inr (.inl 88), .inr (.inl 89), .inr (.inl 90), .inr (.inl 91), .inr (.inl 92), .inr (.inl 93), .inr (.inl 94), .inr (.inl 95), .inl 4003, .inl 4004, .inl 4005, .inl 4006, .inl 4007, .inl 4008, .inl 4009, .inl 4010, .inl 4011, .inl 4012, .inl 4013, .inr (.inl 96), .inr (.inl 97), .inr (.inl 98), .inr (.inl 99), .inr (.inl 100), .inr (.inl 101), .inr (.inl 102), .inr (.inl 103), .inr (.inl 104), .inr (.inl 105), .inr (.inr 4024), .inl 4025, .inr (.inl 106)]),
  .inl (1, 500),
  .inl (2, 15),
  .inl (0, 4),
  .inl (0, 20),
  .inl (0, 4),
  .inl (0, 40),
  .inl (0, 40),
  .inl (0, 40),
  .inl (0, 40),
  .inl (0, 40),
  .inl (0, 4),
  .inl (0, 120),
  .inl (0, 120),
  .inl (0, 120),
  .inl (0, 120),
  .inl (0, 720),
  .inl (0, 4),
  .inl (0, 4),
  .inl (0, 40),
  .inl (0, 40),
  .inl (0, 40),
  .inl (0, 120),
  .inl (0, 120),
  .inl (0, 24),
  .inl (0, 20),
  .inl (0, 4),
  .inl (0, 64),
  .inl (0, 256),
  .inl (0, 256),
  .inl (0, 256),
  .inl (0, 64),
  .inl (0, 64),
  .inl (0, 64),
  .inl (0, 17),
  .inl (0, 64),
  .inl (0, 64),
  .inl (0, 64),
  .inl (0, 17),
  .inl (0, 17),
  .inl (0, 17),
  .inl (0, 10),
  .inl (0, 10),
  .inl (0, 30),
  .inl (3, 3),
  .inr (6, [.inr (.inl 108), .inr (.inl 110), .inr (.inl 116), .inr (.inl 122), .inr (.inl 127), .inr (.inl 132)]),
  .inr (5, [.inl 6912, .inr (.inl 109)]),
  .inl (0, 5),
  .inr (0, [.inl 7040, .inr (.inl 111), .inr (.inl 112), .inr (.inl 113), .inr (.inl 114), .inr (.inl 115)]),
  .inl (0, 10),
  .inl (0, 10),
  .inl (0, 10),
  .inl (0, 10),
  .inl (0, 10),
  .inr (4, [.inl 7424, .inr (.inl 117), .inr (.inl 118), .inr (.inl 119), .inr (.inl 120), .inr (.inl 121)]),
  .inl (0, 30),
  .inl (0, 30),
  .inl (0, 30),
  .inl (0, 30),
  .inl (0, 180),
  .inr (7, [.inl 7808, .inr (.inl 123), .inr (.inl 124), .inr (.inl 125), .inr (.inl 126)]),
  .inl (0, 10),
  .inl (0, 10),
  .inl (0, 10),
  .inl (0, 30),
  .inr (8, [.inl 8128, .inl 8129, .inr (.inl 128), .inr (.inl 129), .inr (.inl 130), .inr (.inl 131)]),
  .inl (0, 30),
  .inl (0, 10),
  .inl (0, 6),
  .inl (0, 5),
  .inr (2, [.inl 8448, .inr (.inl 133), .inr (.inl 134), .inr (.inl 135), .inr (.inl 136), .inr (.inl 137), .inr (.inl 138), .inr (.inl 139)]),
  .inl (0, 16),
  .inl (0, 16),
  .inl (0, 16),
  .inl (0, 16),
  .inl (0, 64),
  .inl (0, 64),
  .inl (0, 64),
  .inr (6, [.inr (.inl 141), .inr (.inl 143), .inr (.inl 149), .inr (.inl 155), .inr (.inl 160), .inr (.inl 165)]),
  .inr (5, [.inl 9024, .inr (.inl 142)]),
  .inl (0, 5),
  .inr (0, [.inl 9152, .inr (.inl 144), .inr (.inl 145), .inr (.inl 146), .inr (.inl 147), .inr (.inl 148)]),
  .inl (0, 10),
  .inl (0, 10),
  .inl (0, 10),
  .inl (0, 10),
  .inl (0, 10),
  .inr (4, [.inl 9536, .inr (.inl 150), .inr (.inl 151), .inr (.inl 152), .inr (.inl 153), .inr (.inl 154)]),
  .inl (0, 30),
  .inl (0, 30),
  .inl (0, 30),
  .inl (0, 30),
  .inl (0, 180),
  .inr (7, [.inl 9920, .inr (.inl 156), .inr (.inl 157), .inr (.inl 158), .inr (.inl 159)]),
  .inl (0, 10),
  .inl (0, 10),
  .inl (0, 10),
  .inl (0, 30),
  .inr (8, [.inl 10240, .inl 10241, .inr (.inl 161), .inr (.inl 162), .inr (.inl 163), .inr (.inl 164)]),
  .inl (0, 30),
  .inl (0, 10),
  .inl (0, 6),
  .inl (0, 5),
  .inr (2, [.inl 10560, .inr (.inl 166), .inr (.inl 167), .inr (.inl 168), .inr (.inl 169), .inr (.inl 170), .inr (.inl 171), .inr (.inl 172)]),
  .inl (0, 16),
  .inl (0, 16),
  .inl (0, 16),
  .inl (0, 16),
  .inl (0, 64),
  .inl (0, 64),
  .inl (0, 64),
  .inr (6, [.inr (.inl 174), .inr (.inl 176), .inr (.inl 182), .inr (.inl 188), .inr (.inl 193), .inr (.inl 198)]),
  .inr (5, [.inl 11136, .inr (.inl 175)]),
  .inl (0, 5),
  .inr (0, [.inl 11264, .inr (.inl 177), .inr (.inl 178), .inr (.inl 179), .inr (.inl 180), .inr (.inl 181)]),
  .inl (0, 10),
  .inl (0, 10),
  .inl (0, 10),
  .inl (0, 10),
  .inl (0, 10),
  .inr (4, [.inl 11648, .inr (.inl 183), .inr (.inl 184), .inr (.inl 185), .inr (.inl 186), .inr (.inl 187)]),
  .inl (0, 30),
  .inl (0, 30),
  .inl (0, 30),
  .inl (0, 30),
  .inl (0, 180),
  .inr (7, [.inl 12032, .inr (.inl 189), .inr (.inl 190), .inr (.inl 191), .inr (.inl 192)]),
  .inl (0, 10),
  .inl (0, 10),
  .inl (0, 10),
  .inl (0, 30),
  .inr (8, [.inl 12352, .inl 12353, .inr (.inl 194), .inr (.inl 195), .inr (.inl 196), .inr (.inl 197)]),
  .inl (0, 30),
  .inl (0, 10),
  .inl (0, 6),
  .inl (0, 5),
  .inr (2, [.inl 12672, .inr (.inl 199), .inr (.inl 200), .inr (.inl 201), .inr (.inl 202), .inr (.inl 203), .inr (.inl 204), .inr (.inl 205)]),
  .inl (0, 16),
  .inl (0, 16),
  .inl (0, 16),
  .inl (0, 16),
  .inl (0, 64),
  .inl (0, 64),
  .inl (0, 64)]
def ns_shp (i : Nat) : ns_H := ns_tab.getD i (.inl (9, 0))
theorem sh_0 : ns_shp 0 = .inr (10, [.inr (.inl 1), .inl 1, .inr (.inl 2), .inr (.inl 15), .inr (.inl 28), .inr (.inl 61)]) := by rfl
theorem sh_1 : ns_shp 1 = .inl (1, 500) := by rfl
theorem sh_2 : ns_shp 2 = .inr (1, [.inr (.inl 3), .inr (.inl 7), .inl 130, .inl 131, .inl 132]) := by rfl
theorem sh_3 : ns_shp 3 = .inr (9, [.inl 192, .inr (.inl 4), .inr (.inl 5), .inr (.inl 6)]) := by rfl
theorem sh_4 : ns_shp 4 = .inl (0, 501) := by rfl
theorem sh_5 : ns_shp 5 = .inl (0, 501) := by rfl
theorem sh_6 : ns_shp 6 = .inl (0, 501) := by rfl
theorem sh_7 : ns_shp 7 = .inr (2, [.inl 448, .inr (.inl 8), .inr (.inl 9), .inr (.inl 10), .inr (.inl 11), .inr (.inl 12), .inr (.inl 13), .inr (.inl 14)]) := by rfl
theorem sh_8 : ns_shp 8 = .inl (0, 16) := by rfl
theorem sh_9 : ns_shp 9 = .inl (0, 16) := by rfl
theorem sh_10 : ns_shp 10 = .inl (0, 16) := by rfl
theorem sh_11 : ns_shp 11 = .inl (0, 16) := by rfl
theorem sh_12 : ns_shp 12 = .inl (0, 64) := by rfl
theorem sh_13 : ns_shp 13 = .inl (0, 64) := by rfl
theorem sh_14 : ns_shp 14 = .inl (0, 64) := by rfl
theorem sh_15 : ns_shp 15 = .inr (3, [.inr (.inl 16), .inr (.inl 21), .inr (.inl 22), .inr (.inl 23), .inr (.inl 24), .inr (.inl 25), .inr (.inl 26), .inr (.inl 27), .inl 968, .inl 969]) := by rfl
theorem sh_16 : ns_shp 16 = .inr (7, [.inl 1024, .inr (.inl 17), .inr (.inl 18), .inr (.inl 19), .inr (.inl 20)]) := by rfl
theorem sh_17 : ns_shp 17 = .inl (0, 10) := by rfl
theorem sh_18 : ns_shp 18 = .inl (0, 10) := by rfl
theorem sh_19 : ns_shp 19 = .inl (0, 10) := by rfl
theorem sh_20 : ns_shp 20 = .inl (0, 30) := by rfl
theorem sh_21 : ns_shp 21 = .inl (0, 5) := by rfl
theorem sh_22 : ns_shp 22 = .inl (0, 10) := by rfl
theorem sh_23 : ns_shp 23 = .inl (0, 5) := by rfl
theorem sh_24 : ns_shp 24 = .inl (0, 5) := by rfl
theorem sh_25 : ns_shp 25 = .inl (0, 5) := by rfl
theorem sh_26 : ns_shp 26 = .inl (0, 30) := by rfl
theorem sh_27 : ns_shp 27 = .inl (0, 30) := by rfl
theorem sh_28 : ns_shp 28 = .inr (6, [.inr (.inl 29), .inr (.inl 31), .inr (.inl 37), .inr (.inl 43), .inr (.inl 48), .inr (.inl 53)]) := by rfl
theorem sh_29 : ns_shp 29 = .inr (5, [.inl 1856, .inr (.inl 30)]) := by rfl
theorem sh_30 : ns_shp 30 = .inl (0, 5) := by rfl
theorem sh_31 : ns_shp 31 = .inr (0, [.inl 1984, .inr (.inl 32), .inr (.inl 33), .inr (.inl 34), .inr (.inl 35), .inr (.inl 36)]) := by rfl
theorem sh_32 : ns_shp 32 = .inl (0, 10) := by rfl
theorem sh_33 : ns_shp 33 = .inl (0, 10) := by rfl
theorem sh_34 : ns_shp 34 = .inl (0, 10) := by rfl
theorem sh_35 : ns_shp 35 = .inl (0, 10) := by rfl
theorem sh_36 : ns_shp 36 = .inl (0, 10) := by rfl
theorem sh_37 : ns_shp 37 = .inr (4, [.inl 2368, .inr (.inl 38), .inr (.inl 39), .inr (.inl 40), .inr (.inl 41), .inr (.inl 42)]) := by rfl
theorem sh_38 : ns_shp 38 = .inl (0, 30) := by rfl
theorem sh_39 : ns_shp 39 = .inl (0, 30) := by rfl
theorem sh_40 : ns_shp 40 = .inl (0, 30) := by rfl
theorem sh_41 : ns_shp 41 = .inl (0, 30) := by rfl
theorem sh_42 : ns_shp 42 = .inl (0, 180) := by rfl
theorem sh_43 : ns_shp 43 = .inr (7, [.inl 2752, .inr (.inl 44), .inr (.inl 45), .inr (.inl 46), .inr (.inl 47)]) := by rfl
theorem sh_44 : ns_shp 44 = .inl (0, 10) := by rfl
theorem sh_45 : ns_shp 45 = .inl (0, 10) := by rfl
theorem sh_46 : ns_shp 46 = .inl (0, 10) := by rfl
theorem sh_47 : ns_shp 47 = .inl (0, 30) := by rfl
theorem sh_48 : ns_shp 48 = .inr (8, [.inl 3072, .inl 3073, .inr (.inl 49), .inr (.inl 50), .inr (.inl 51), .inr (.inl 52)]) := by rfl
theorem sh_49 : ns_shp 49 = .inl (0, 30) := by rfl
theorem sh_50 : ns_shp 50 = .inl (0, 10) := by rfl
theorem sh_51 : ns_shp 51 = .inl (0, 6) := by rfl
theorem sh_52 : ns_shp 52 = .inl (0, 5) := by rfl
theorem sh_53 : ns_shp 53 = .inr (2, [.inl 3392, .inr (.inl 54), .inr (.inl 55), .inr (.inl 56), .inr (.inl 57), .inr (.inl 58), .inr (.inl 59), .inr (.inl 60)]) := by rfl
theorem sh_54 : ns_shp 54 = .inl (0, 16) := by rfl
theorem sh_55 : ns_shp 55 = .inl (0, 16) := by rfl
theorem sh_56 : ns_shp 56 = .inl (0, 16) := by rfl
theorem sh_57 : ns_shp 57 = .inl (0, 16) := by rfl
theorem sh_58 : ns_shp 58 = .inl (0, 64) := by rfl
theorem sh_59 : ns_shp 59 = .inl (0, 64) := by rfl
theorem sh_60 : ns_shp 60 = .inl (0, 64) := by rfl
theorem sh_61 : ns_shp 61 = .inl (4, 3) := by rfl
theorem sh_62 : ns_shp 62 = .inr (11, [.inl 3968, .inr (.inl 63), .inl 3970, .inr (.inl 64), .inr (.inl 65), .inr (.inl 66), .inr (.inl 67), .inr (.inl 68), .inr (.inl 69), .inr (.inl 70), .inr (.inl 71), .inr (.inl 72), .inr (.inl 73), .inr (.inl 74), .inr (.inl 75), .inr (.inl 76), .inr (.inl 77), .inr (.inl 78), .inr (.inl 79), .inr (.inl 80), .inr (.inl 81), .inr (.inl 82), .inr (.inl 83), .inr (.inl 84), .inr (.inl 85), .inr (.inl 86), .inr (.inl 87), .inr (.inl 88), .inr (.inl 89), .inr (.inl 90), .inr (.inl 91), .inr (.inl 92), .inr (.inl 93), .inr (.inl 94), .inr (.inl 95), .inl 4003, .inl 4004, .inl 4005, .inl 4006, .inl 4007, .inl 4008, .inl 4009, .inl 4010, .inl 4011, .inl 4012, .inl 4013, .inr (.inl 96), .inr (.inl 97), .inr (.inl 98), .inr (.inl 99), .inr (.inl 100), .inr (.inl 101), .inr (.inl 102), .inr (.inl 103), .inr (.inl 104), .inr (.inl 105), .inr (.inr 4024), .inl 4025, .inr (.inl 106)]) := by rfl
theorem sh_63 : ns_shp 63 = .inl (1, 500) := by rfl
theorem sh_64 : ns_shp 64 = .inl (2, 15) := by rfl
theorem sh_65 : ns_shp 65 = .inl (0, 4) := by rfl
theorem sh_66 : ns_shp 66 = .inl (0, 20) := by rfl
theorem sh_67 : ns_shp 67 = .inl (0, 4) := by rfl
theorem sh_68 : ns_shp 68 = .inl (0, 40) := by rfl
theorem sh_69 : ns_shp 69 = .inl (0, 40) := by rfl
theorem sh_70 : ns_shp 70 = .inl (0, 40) := by rfl
theorem sh_71 : ns_shp 71 = .inl (0, 40) := by rfl
theorem sh_72 : ns_shp 72 = .inl (0, 40) := by rfl
theorem sh_73 : ns_shp 73 = .inl (0, 4) := by rfl
theorem sh_74 : ns_shp 74 = .inl (0, 120) := by rfl
theorem sh_75 : ns_shp 75 = .inl (0, 120) := by rfl
theorem sh_76 : ns_shp 76 = .inl (0, 120) := by rfl
theorem sh_77 : ns_shp 77 = .inl (0, 120) := by rfl
theorem sh_78 : ns_shp 78 = .inl (0, 720) := by rfl
theorem sh_79 : ns_shp 79 = .inl (0, 4) := by rfl
theorem sh_80 : ns_shp 80 = .inl (0, 4) := by rfl
theorem sh_81 : ns_shp 81 = .inl (0, 40) := by rfl
theorem sh_82 : ns_shp 82 = .inl (0, 40) := by rfl
theorem sh_83 : ns_shp 83 = .inl (0, 40) := by rfl
theorem sh_84 : ns_shp 84 = .inl (0, 120) := by rfl
theorem sh_85 : ns_shp 85 = .inl (0, 120) := by rfl
theorem sh_86 : ns_shp 86 = .inl (0, 24) := by rfl
theorem sh_87 : ns_shp 87 = .inl (0, 20) := by rfl
theorem sh_88 : ns_shp 88 = .inl (0, 4) := by rfl
theorem sh_89 : ns_shp 89 = .inl (0, 64) := by rfl
theorem sh_90 : ns_shp 90 = .inl (0, 256) := by rfl
theorem sh_91 : ns_shp 91 = .inl (0, 256) := by rfl
theorem sh_92 : ns_shp 92 = .inl (0, 256) := by rfl
theorem sh_93 : ns_shp 93 = .inl (0, 64) := by rfl
theorem sh_94 : ns_shp 94 = .inl (0, 64) := by rfl
theorem sh_95 : ns_shp 95 = .inl (0, 64) := by rfl
theorem sh_96 : ns_shp 96 = .inl (0, 17) := by rfl
theorem sh_97 : ns_shp 97 = .inl (0, 64) := by rfl
theorem sh_98 : ns_shp 98 = .inl (0, 64) := by rfl
theorem sh_99 : ns_shp 99 = .inl (0, 64) := by rfl
theorem sh_100 : ns_shp 100 = .inl (0, 17) := by rfl
theorem sh_101 : ns_shp 101 = .inl (0, 17) := by rfl
theorem sh_102 : ns_shp 102 = .inl (0, 17) := by rfl
theorem sh_103 : ns_shp 103 = .inl (0, 10) := by rfl
theorem sh_104 : ns_shp 104 = .inl (0, 10) := by rfl
theorem sh_105 : ns_shp 105 = .inl (0, 30) := by rfl
theorem sh_106 : ns_shp 106 = .inl (3, 3) := by rfl
theorem sh_107 : ns_shp 107 = .inr (6, [.inr (.inl 108), .inr (.inl 110), .inr (.inl 116), .inr (.inl 122), .inr (.inl 127), .inr (.inl 132)]) := by rfl
theorem sh_108 : ns_shp 108 = .inr (5, [.inl 6912, .inr (.inl 109)]) := by rfl
theorem sh_109 : ns_shp 109 = .inl (0, 5) := by rfl
theorem sh_110 : ns_shp 110 = .inr (0, [.inl 7040, .inr (.inl 111), .inr (.inl 112), .inr (.inl 113), .inr (.inl 114), .inr (.inl 115)]) := by rfl
theorem sh_111 : ns_shp 111 = .inl (0, 10) := by rfl
theorem sh_112 : ns_shp 112 = .inl (0, 10) := by rfl
theorem sh_113 : ns_shp 113 = .inl (0, 10) := by rfl
theorem sh_114 : ns_shp 114 = .inl (0, 10) := by rfl
theorem sh_115 : ns_shp 115 = .inl (0, 10) := by rfl
theorem sh_116 : ns_shp 116 = .inr (4, [.inl 7424, .inr (.inl 117), .inr (.inl 118), .inr (.inl 119), .inr (.inl 120), .inr (.inl 121)]) := by rfl
theorem sh_117 : ns_shp 117 = .inl (0, 30) := by rfl
theorem sh_118 : ns_shp 118 = .inl (0, 30) := by rfl
theorem sh_119 : ns_shp 119 = .inl (0, 30) := by rfl
theorem sh_120 : ns_shp 120 = .inl (0, 30) := by rfl
theorem sh_121 : ns_shp 121 = .inl (0, 180) := by rfl
theorem sh_122 : ns_shp 122 = .inr (7, [.inl 7808, .inr (.inl 123), .inr (.inl 124), .inr (.inl 125), .inr (.inl 126)]) := by rfl
theorem sh_123 : ns_shp 123 = .inl (0, 10) := by rfl
theorem sh_124 : ns_shp 124 = .inl (0, 10) := by rfl
theorem sh_125 : ns_shp 125 = .inl (0, 10) := by rfl
theorem sh_126 : ns_shp 126 = .inl (0, 30) := by rfl
theorem sh_127 : ns_shp 127 = .inr (8, [.inl 8128, .inl 8129, .inr (.inl 128), .inr (.inl 129), .inr (.inl 130), .inr (.inl 131)]) := by rfl
theorem sh_128 : ns_shp 128 = .inl (0, 30) := by rfl
theorem sh_129 : ns_shp 129 = .inl (0, 10) := by rfl
theorem sh_130 : ns_shp 130 = .inl (0, 6) := by rfl
theorem sh_131 : ns_shp 131 = .inl (0, 5) := by rfl
theorem sh_132 : ns_shp 132 = .inr (2, [.inl 8448, .inr (.inl 133), .inr (.inl 134), .inr (.inl 135), .inr (.inl 136), .inr (.inl 137), .inr (.inl 138), .inr (.inl 139)]) := by rfl
theorem sh_133 : ns_shp 133 = .inl (0, 16) := by rfl
theorem sh_134 : ns_shp 134 = .inl (0, 16) := by rfl
theorem sh_135 : ns_shp 135 = .inl (0, 16) := by rfl
theorem sh_136 : ns_shp 136 = .inl (0, 16) := by rfl
theorem sh_137 : ns_shp 137 = .inl (0, 64) := by rfl
theorem sh_138 : ns_shp 138 = .inl (0, 64) := by rfl
theorem sh_139 : ns_shp 139 = .inl (0, 64) := by rfl
theorem sh_140 : ns_shp 140 = .inr (6, [.inr (.inl 141), .inr (.inl 143), .inr (.inl 149), .inr (.inl 155), .inr (.inl 160), .inr (.inl 165)]) := by rfl
theorem sh_141 : ns_shp 141 = .inr (5, [.inl 9024, .inr (.inl 142)]) := by rfl
theorem sh_142 : ns_shp 142 = .inl (0, 5) := by rfl
theorem sh_143 : ns_shp 143 = .inr (0, [.inl 9152, .inr (.inl 144), .inr (.inl 145), .inr (.inl 146), .inr (.inl 147), .inr (.inl 148)]) := by rfl
theorem sh_144 : ns_shp 144 = .inl (0, 10) := by rfl
theorem sh_145 : ns_shp 145 = .inl (0, 10) := by rfl
theorem sh_146 : ns_shp 146 = .inl (0, 10) := by rfl
theorem sh_147 : ns_shp 147 = .inl (0, 10) := by rfl
theorem sh_148 : ns_shp 148 = .inl (0, 10) := by rfl
theorem sh_149 : ns_shp 149 = .inr (4, [.inl 9536, .inr (.inl 150), .inr (.inl 151), .inr (.inl 152), .inr (.inl 153), .inr (.inl 154)]) := by rfl
theorem sh_150 : ns_shp 150 = .inl (0, 30) := by rfl
theorem sh_151 : ns_shp 151 = .inl (0, 30) := by rfl
theorem sh_152 : ns_shp 152 = .inl (0, 30) := by rfl
theorem sh_153 : ns_shp 153 = .inl (0, 30) := by rfl
theorem sh_154 : ns_shp 154 = .inl (0, 180) := by rfl
theorem sh_155 : ns_shp 155 = .inr (7, [.inl 9920, .inr (.inl 156), .inr (.inl 157), .inr (.inl 158), .inr (.inl 159)]) := by rfl
theorem sh_156 : ns_shp 156 = .inl (0, 10) := by rfl
theorem sh_157 : ns_shp 157 = .inl (0, 10) := by rfl
theorem sh_158 : ns_shp 158 = .inl (0, 10) := by rfl
theorem sh_159 : ns_shp 159 = .inl (0, 30) := by rfl
theorem sh_160 : ns_shp 160 = .inr (8, [.inl 10240, .inl 10241, .inr (.inl 161), .inr (.inl 162), .inr (.inl 163), .inr (.inl 164)]) := by rfl
theorem sh_161 : ns_shp 161 = .inl (0, 30) := by rfl
theorem sh_162 : ns_shp 162 = .inl (0, 10) := by rfl
theorem sh_163 : ns_shp 163 = .inl (0, 6) := by rfl
theorem sh_164 : ns_shp 164 = .inl (0, 5) := by rfl
theorem sh_165 : ns_shp 165 = .inr (2, [.inl 10560, .inr (.inl 166), .inr (.inl 167), .inr (.inl 168), .inr (.inl 169), .inr (.inl 170), .inr (.inl 171), .inr (.inl 172)]) := by rfl
theorem sh_166 : ns_shp 166 = .inl (0, 16) := by rfl
theorem sh_167 : ns_shp 167 = .inl (0, 16) := by rfl
theorem sh_168 : ns_shp 168 = .inl (0, 16) := by rfl
theorem sh_169 : ns_shp 169 = .inl (0, 16) := by rfl
theorem sh_170 : ns_shp 170 = .inl (0, 64) := by rfl
theorem sh_171 : ns_shp 171 = .inl (0, 64) := by rfl
theorem sh_172 : ns_shp 172 = .inl (0, 64) := by rfl
theorem sh_173 : ns_shp 173 = .inr (6, [.inr (.inl 174), .inr (.inl 176), .inr (.inl 182), .inr (.inl 188), .inr (.inl 193), .inr (.inl 198)]) := by rfl
theorem sh_174 : ns_shp 174 = .inr (5, [.inl 11136, .inr (.inl 175)]) := by rfl
theorem sh_175 : ns_shp 175 = .inl (0, 5) := by rfl
theorem sh_176 : ns_shp 176 = .inr (0, [.inl 11264, .inr (.inl 177), .inr (.inl 178), .inr (.inl 179), .inr (.inl 180), .inr (.inl 181)]) := by rfl
theorem sh_177 : ns_shp 177 = .inl (0, 10) := by rfl
theorem sh_178 : ns_shp 178 = .inl (0, 10) := by rfl
theorem sh_179 : ns_shp 179 = .inl (0, 10) := by rfl
theorem sh_180 : ns_shp 180 = .inl (0, 10) := by rfl
theorem sh_181 : ns_shp 181 = .inl (0, 10) := by rfl
theorem sh_182 : ns_shp 182 = .inr (4, [.inl 11648, .inr (.inl 183), .inr (.inl 184), .inr (.inl 185), .inr (.inl 186), .inr (.inl 187)]) := by rfl
theorem sh_183 : ns_shp 183 = .inl (0, 30) := by rfl
theorem sh_184 : ns_shp 184 = .inl (0, 30) := by rfl
theorem sh_185 : ns_shp 185 = .inl (0, 30) := by rfl
theorem sh_186 : ns_shp 186 = .inl (0, 30) := by rfl
theorem sh_187 : ns_shp 187 = .inl (0, 180) := by rfl
theorem sh_188 : ns_shp 188 = .inr (7, [.inl 12032, .inr (.inl 189), .inr (.inl 190), .inr (.inl 191), .inr (.inl 192)]) := by rfl
theorem sh_189 : ns_shp 189 = .inl (0, 10) := by rfl
theorem sh_190 : ns_shp 190 = .inl (0, 10) := by rfl
theorem sh_191 : ns_shp 191 = .inl (0, 10) := by rfl
theorem sh_192 : ns_shp 192 = .inl (0, 30) := by rfl
theorem sh_193 : ns_shp 193 = .inr (8, [.inl 12352, .inl 12353, .inr (.inl 194), .inr (.inl 195), .inr (.inl 196), .inr (.inl 197)]) := by rfl
theorem sh_194 : ns_shp 194 = .inl (0, 30) := by rfl
theorem sh_195 : ns_shp 195 = .inl (0, 10) := by rfl
theorem sh_196 : ns_shp 196 = .inl (0, 6) := by rfl
theorem sh_197 : ns_shp 197 = .inl (0, 5) := by rfl
theorem sh_198 : ns_shp 198 = .inr (2, [.inl 12672, .inr (.inl 199), .inr (.inl 200), .inr (.inl 201), .inr (.inl 202), .inr (.inl 203), .inr (.inl 204), .inr (.inl 205)]) := by rfl
theorem sh_199 : ns_shp 199 = .inl (0, 16) := by rfl
theorem sh_200 : ns_shp 200 = .inl (0, 16) := by rfl
theorem sh_201 : ns_shp 201 = .inl (0, 16) := by rfl
theorem sh_202 : ns_shp 202 = .inl (0, 16) := by rfl
theorem sh_203 : ns_shp 203 = .inl (0, 64) := by rfl
theorem sh_204 : ns_shp 204 = .inl (0, 64) := by rfl
theorem sh_205 : ns_shp 205 = .inl (0, 64) := by rfl
def ns_img (j : Nat) : Nat := 107 + 33 * j
def ns_wd (k : Nat) : Int64 := ([2003330414, 6385252, 6383461, 483006772069, 27988572916376947, 7566701, 439855772532, 2003133803, 6382692, 1818588019, 1885434484, 465557353332, 1836020596, 1718773093, 6647396] : List Int64).getD k 0
