theorem dX11_weeks_51 : decode cX11_weeks 51 = .ok (.iaload, 1) := by decide +kernel
theorem dX11_weeks_52 : decode cX11_weeks 52 = .ok (.iload_n 3, 1) := by decide +kernel
theorem dX11_weeks_53 : decode cX11_weeks 53 = .ok (.ishr, 1) := by decide +kernel
theorem dX11_weeks_54 : decode cX11_weeks 54 = .ok (.iconst 1, 1) := by decide +kernel
theorem dX11_weeks_55 : decode cX11_weeks 55 = .ok (.iand, 1) := by decide +kernel
theorem dX11_weeks_56 : decode cX11_weeks 56 = .ok (.ifCond .eq 43, 3) := by decide +kernel
theorem dX11_weeks_59 : decode cX11_weeks 59 = .ok (.aload_n 0, 1) := by decide +kernel
theorem dX11_weeks_60 : decode cX11_weeks 60 = .ok (.getfield 72, 3) := by decide +kernel
theorem dX11_weeks_63 : decode cX11_weeks 63 = .ok (.iload_n 3, 1) := by decide +kernel
theorem dX11_weeks_64 : decode cX11_weeks 64 = .ok (.dup2, 1) := by decide +kernel
theorem dX11_weeks_65 : decode cX11_weeks 65 = .ok (.iaload, 1) := by decide +kernel
theorem dX11_weeks_66 : decode cX11_weeks 66 = .ok (.iconst 1, 1) := by decide +kernel
theorem dX11_weeks_67 : decode cX11_weeks 67 = .ok (.iadd, 1) := by decide +kernel
theorem dX11_weeks_68 : decode cX11_weeks 68 = .ok (.iastore, 1) := by decide +kernel
theorem dX11_weeks_69 : decode cX11_weeks 69 = .ok (.aload_n 0, 1) := by decide +kernel
theorem dX11_weeks_70 : decode cX11_weeks 70 = .ok (.getfield 81, 3) := by decide +kernel
theorem dX11_weeks_73 : decode cX11_weeks 73 = .ok (.aload_n 0, 1) := by decide +kernel
theorem dX11_weeks_74 : decode cX11_weeks 74 = .ok (.getfield 30, 3) := by decide +kernel
theorem dX11_weeks_77 : decode cX11_weeks 77 = .ok (.iload_n 3, 1) := by decide +kernel
theorem dX11_weeks_78 : decode cX11_weeks 78 = .ok (.iaload, 1) := by decide +kernel
theorem dX11_weeks_79 : decode cX11_weeks 79 = .ok (.dup2, 1) := by decide +kernel
theorem dX11_weeks_80 : decode cX11_weeks 80 = .ok (.iaload, 1) := by decide +kernel
theorem dX11_weeks_81 : decode cX11_weeks 81 = .ok (.iconst 2, 1) := by decide +kernel
theorem dX11_weeks_82 : decode cX11_weeks 82 = .ok (.iadd, 1) := by decide +kernel
theorem dX11_weeks_83 : decode cX11_weeks 83 = .ok (.iastore, 1) := by decide +kernel
theorem dX11_weeks_84 : decode cX11_weeks 84 = .ok (.aload_n 0, 1) := by decide +kernel
theorem dX11_weeks_85 : decode cX11_weeks 85 = .ok (.getfield 84, 3) := by decide +kernel
theorem dX11_weeks_88 : decode cX11_weeks 88 = .ok (.aload_n 0, 1) := by decide +kernel
theorem dX11_weeks_89 : decode cX11_weeks 89 = .ok (.getfield 66, 3) := by decide +kernel
theorem dX11_weeks_92 : decode cX11_weeks 92 = .ok (.iload_n 3, 1) := by decide +kernel
theorem dX11_weeks_93 : decode cX11_weeks 93 = .ok (.iaload, 1) := by decide +kernel
theorem dX11_weeks_94 : decode cX11_weeks 94 = .ok (.dup2, 1) := by decide +kernel
theorem dX11_weeks_95 : decode cX11_weeks 95 = .ok (.iaload, 1) := by decide +kernel
theorem dX11_weeks_96 : decode cX11_weeks 96 = .ok (.iconst 2, 1) := by decide +kernel
theorem dX11_weeks_97 : decode cX11_weeks 97 = .ok (.iadd, 1) := by decide +kernel
theorem dX11_weeks_98 : decode cX11_weeks 98 = .ok (.iastore, 1) := by decide +kernel
theorem dX11_weeks_99 : decode cX11_weeks 99 = .ok (.iinc 3 1, 3) := by decide +kernel
theorem dX11_weeks_102 : decode cX11_weeks 102 = .ok (.goto (-66), 3) := by decide +kernel
theorem dX11_weeks_105 : decode cX11_weeks 105 = .ok (.iconst 0, 1) := by decide +kernel
theorem dX11_weeks_106 : decode cX11_weeks 106 = .ok (.istore_n 3, 1) := by decide +kernel
theorem dX11_weeks_107 : decode cX11_weeks 107 = .ok (.iload_n 3, 1) := by decide +kernel
theorem dX11_weeks_108 : decode cX11_weeks 108 = .ok (.aload_n 0, 1) := by decide +kernel
theorem dX11_weeks_109 : decode cX11_weeks 109 = .ok (.getfield 24, 3) := by decide +kernel
theorem dX11_weeks_112 : decode cX11_weeks 112 = .ok (.iconst 0, 1) := by decide +kernel
theorem dX11_weeks_113 : decode cX11_weeks 113 = .ok (.iaload, 1) := by decide +kernel
theorem dX11_weeks_114 : decode cX11_weeks 114 = .ok (.if_icmp .ge 43, 3) := by decide +kernel
theorem dX11_weeks_117 : decode cX11_weeks 117 = .ok (.aload_n 0, 1) := by decide +kernel
theorem dX11_weeks_118 : decode cX11_weeks 118 = .ok (.getfield 63, 3) := by decide +kernel
theorem dX11_weeks_121 : decode cX11_weeks 121 = .ok (.iconst 0, 1) := by decide +kernel
theorem dX11_weeks_122 : decode cX11_weeks 122 = .ok (.iaload, 1) := by decide +kernel
theorem dX11_weeks_123 : decode cX11_weeks 123 = .ok (.iload_n 3, 1) := by decide +kernel
theorem dX11_weeks_124 : decode cX11_weeks 124 = .ok (.ishr, 1) := by decide +kernel
theorem dX11_weeks_125 : decode cX11_weeks 125 = .ok (.iconst 1, 1) := by decide +kernel
theorem dX11_weeks_126 : decode cX11_weeks 126 = .ok (.iand, 1) := by decide +kernel
theorem dX11_weeks_127 : decode cX11_weeks 127 = .ok (.ifCond .eq 24, 3) := by decide +kernel
theorem dX11_weeks_130 : decode cX11_weeks 130 = .ok (.iconst 2, 1) := by decide +kernel
theorem dX11_weeks_131 : decode cX11_weeks 131 = .ok (.aload_n 0, 1) := by decide +kernel
theorem dX11_weeks_132 : decode cX11_weeks 132 = .ok (.iload_n 3, 1) := by decide +kernel
theorem dX11_weeks_133 : decode cX11_weeks 133 = .ok (.invokevirtual 304, 3) := by decide +kernel
theorem dX11_weeks_136 : decode cX11_weeks 136 = .ok (.imul, 1) := by decide +kernel
theorem dX11_weeks_137 : decode cX11_weeks 137 = .ok (.aload_n 0, 1) := by decide +kernel
theorem dX11_weeks_138 : decode cX11_weeks 138 = .ok (.getfield 33, 3) := by decide +kernel
theorem dX11_weeks_141 : decode cX11_weeks 141 = .ok (.iload_n 3, 1) := by decide +kernel
theorem dX11_weeks_142 : decode cX11_weeks 142 = .ok (.iaload, 1) := by decide +kernel
theorem dX11_weeks_143 : decode cX11_weeks 143 = .ok (.if_icmp .ge 8, 3) := by decide +kernel
theorem dX11_weeks_146 : decode cX11_weeks 146 = .ok (.aload_n 0, 1) := by decide +kernel
theorem dX11_weeks_147 : decode cX11_weeks 147 = .ok (.iload_n 3, 1) := by decide +kernel
theorem dX11_weeks_148 : decode cX11_weeks 148 = .ok (.invokevirtual 313, 3) := by decide +kernel
theorem dX11_weeks_151 : decode cX11_weeks 151 = .ok (.iinc 3 1, 3) := by decide +kernel
theorem dX11_weeks_154 : decode cX11_weeks 154 = .ok (.goto (-47), 3) := by decide +kernel
theorem dX11_weeks_157 : decode cX11_weeks 157 = .ok (.aload_n 0, 1) := by decide +kernel
theorem dX11_weeks_158 : decode cX11_weeks 158 = .ok (.getfield 60, 3) := by decide +kernel
theorem dX11_weeks_161 : decode cX11_weeks 161 = .ok (.iconst 0, 1) := by decide +kernel
theorem dX11_weeks_162 : decode cX11_weeks 162 = .ok (.dup2, 1) := by decide +kernel
theorem dX11_weeks_163 : decode cX11_weeks 163 = .ok (.iaload, 1) := by decide +kernel
theorem dX11_weeks_164 : decode cX11_weeks 164 = .ok (.iconst 1, 1) := by decide +kernel
theorem dX11_weeks_165 : decode cX11_weeks 165 = .ok (.iadd, 1) := by decide +kernel
theorem dX11_weeks_166 : decode cX11_weeks 166 = .ok (.iastore, 1) := by decide +kernel
theorem dX11_weeks_167 : decode cX11_weeks 167 = .ok (.aload_n 0, 1) := by decide +kernel
theorem dX11_weeks_168 : decode cX11_weeks 168 = .ok (.invokevirtual 272, 3) := by decide +kernel
theorem dX11_weeks_171 : decode cX11_weeks 171 = .ok (.iinc 2 1, 3) := by decide +kernel
theorem dX11_weeks_174 : decode cX11_weeks 174 = .ok (.goto (-145), 3) := by decide +kernel
theorem dX11_weeks_177 : decode cX11_weeks 177 = .ok (.aload_n 0, 1) := by decide +kernel
theorem dX11_weeks_178 : decode cX11_weeks 178 = .ok (.getfield 60, 3) := by decide +kernel
theorem dX11_weeks_181 : decode cX11_weeks 181 = .ok (.iconst 0, 1) := by decide +kernel
theorem dX11_weeks_182 : decode cX11_weeks 182 = .ok (.iaload, 1) := by decide +kernel
theorem dX11_weeks_183 : decode cX11_weeks 183 = .ok (.ireturn, 1) := by decide +kernel
theorem dX11_falls_0 : decode cX11_falls 0 = .ok (.aload_n 0, 1) := by decide +kernel
theorem dX11_falls_1 : decode cX11_falls 1 = .ok (.getfield 63, 3) := by decide +kernel
theorem dX11_falls_4 : decode cX11_falls 4 = .ok (.iconst 0, 1) := by decide +kernel
theorem dX11_falls_5 : decode cX11_falls 5 = .ok (.dup2, 1) := by decide +kernel
theorem dX11_falls_6 : decode cX11_falls 6 = .ok (.iaload, 1) := by decide +kernel
theorem dX11_falls_7 : decode cX11_falls 7 = .ok (.iconst 1, 1) := by decide +kernel
theorem dX11_falls_8 : decode cX11_falls 8 = .ok (.iload_n 1, 1) := by decide +kernel
theorem dX11_falls_9 : decode cX11_falls 9 = .ok (.ishl, 1) := by decide +kernel
theorem dX11_falls_10 : decode cX11_falls 10 = .ok (.iconst (-1), 1) := by decide +kernel
theorem dX11_falls_11 : decode cX11_falls 11 = .ok (.ixor, 1) := by decide +kernel
theorem dX11_falls_12 : decode cX11_falls 12 = .ok (.iand, 1) := by decide +kernel
theorem dX11_falls_13 : decode cX11_falls 13 = .ok (.iastore, 1) := by decide +kernel
theorem dX11_falls_14 : decode cX11_falls 14 = .ok (.aload_n 0, 1) := by decide +kernel
theorem dX11_falls_15 : decode cX11_falls 15 = .ok (.getfield 66, 3) := by decide +kernel
theorem dX11_falls_18 : decode cX11_falls 18 = .ok (.iload_n 1, 1) := by decide +kernel
theorem dX11_falls_19 : decode cX11_falls 19 = .ok (.iconst (-1), 1) := by decide +kernel
theorem dX11_falls_20 : decode cX11_falls 20 = .ok (.iastore, 1) := by decide +kernel
theorem dX11_falls_21 : decode cX11_falls 21 = .ok (.aload_n 0, 1) := by decide +kernel
theorem dX11_falls_22 : decode cX11_falls 22 = .ok (.getfield 69, 3) := by decide +kernel
theorem dX11_falls_25 : decode cX11_falls 25 = .ok (.iload_n 1, 1) := by decide +kernel
theorem dX11_falls_26 : decode cX11_falls 26 = .ok (.iconst 0, 1) := by decide +kernel
theorem dX11_falls_27 : decode cX11_falls 27 = .ok (.iastore, 1) := by decide +kernel
theorem dX11_falls_28 : decode cX11_falls 28 = .ok (.iconst 0, 1) := by decide +kernel
theorem dX11_falls_29 : decode cX11_falls 29 = .ok (.istore_n 2, 1) := by decide +kernel
theorem dX11_falls_30 : decode cX11_falls 30 = .ok (.iload_n 2, 1) := by decide +kernel
theorem dX11_falls_31 : decode cX11_falls 31 = .ok (.aload_n 0, 1) := by decide +kernel
theorem dX11_falls_32 : decode cX11_falls 32 = .ok (.getfield 42, 3) := by decide +kernel
theorem dX11_falls_35 : decode cX11_falls 35 = .ok (.iconst 0, 1) := by decide +kernel
theorem dX11_falls_36 : decode cX11_falls 36 = .ok (.iaload, 1) := by decide +kernel
theorem dX11_falls_37 : decode cX11_falls 37 = .ok (.if_icmp .ge 23, 3) := by decide +kernel
theorem dX11_falls_40 : decode cX11_falls 40 = .ok (.aload_n 0, 1) := by decide +kernel
theorem dX11_falls_41 : decode cX11_falls 41 = .ok (.getfield 75, 3) := by decide +kernel
theorem dX11_falls_44 : decode cX11_falls 44 = .ok (.iload_n 2, 1) := by decide +kernel
theorem dX11_falls_45 : decode cX11_falls 45 = .ok (.dup2, 1) := by decide +kernel
theorem dX11_falls_46 : decode cX11_falls 46 = .ok (.iaload, 1) := by decide +kernel
theorem dX11_falls_47 : decode cX11_falls 47 = .ok (.iconst 1, 1) := by decide +kernel
theorem dX11_falls_48 : decode cX11_falls 48 = .ok (.iload_n 1, 1) := by decide +kernel
theorem dX11_falls_49 : decode cX11_falls 49 = .ok (.ishl, 1) := by decide +kernel
theorem dX11_falls_50 : decode cX11_falls 50 = .ok (.iconst (-1), 1) := by decide +kernel
theorem dX11_falls_51 : decode cX11_falls 51 = .ok (.ixor, 1) := by decide +kernel
theorem dX11_falls_52 : decode cX11_falls 52 = .ok (.iand, 1) := by decide +kernel
theorem dX11_falls_53 : decode cX11_falls 53 = .ok (.iastore, 1) := by decide +kernel
theorem dX11_falls_54 : decode cX11_falls 54 = .ok (.iinc 2 1, 3) := by decide +kernel
theorem dX11_falls_57 : decode cX11_falls 57 = .ok (.goto (-27), 3) := by decide +kernel
theorem dX11_falls_60 : decode cX11_falls 60 = .ok (.return_, 1) := by decide +kernel
set_option maxRecDepth 20000 in
theorem ggX11_quit_X11_isPupil : GoodIn wsX11_quit wsX11_isPupil := goodIn_r _ [9, 10, 11, 12, 8, 13, 52, 53, 54, 55, 56, 57, 58, 59, 60, 61, 62, 63, 64, 65, 66, 67, 68, 69, 70, 71, 72, 73, 74, 75, 76, 77, 78, 79, 80, 81, 82, 83, 84, 85, 86, 87, 88, 89, 90, 91, 92, 93, 94, 95, 96, 97, 98, 99, 100, 101, 102, 103, 104, 105, 106, 107, 108, 109, 110] (by decide +kernel) (by decide +kernel)
set_option maxRecDepth 20000 in
theorem gX11_quit_X11_isPupil : GoodIn wsX11_quit (wsV RX11 262 RX11 yX11_isPupil wsX11_isPupil) := goodIn_app (goodIn_of _ (by decide +kernel)) ggX11_quit_X11_isPupil
set_option maxRecDepth 20000 in
theorem ggX11_quit_X11_isCourse : GoodIn wsX11_quit wsX11_isCourse := goodIn_r _ [17, 18, 11, 12, 8, 13, 52, 53, 54, 55, 56, 57, 58, 59, 60, 61, 62, 63, 64, 65, 66, 67, 68, 69, 70, 71, 72, 73, 74, 75, 76, 77, 78, 79, 80, 81, 82, 83, 84, 85, 86, 87, 88, 89, 90, 91, 92, 93, 94, 95, 96, 97, 98, 99, 100, 101, 102, 103, 104, 105, 106, 107, 108, 109, 110] (by decide +kernel) (by decide +kernel)
set_option maxRecDepth 20000 in
theorem gX11_quit_X11_isCourse : GoodIn wsX11_quit (wsV RX11 265 RX11 yX11_isCourse wsX11_isCourse) := goodIn_app (goodIn_of _ (by decide +kernel)) ggX11_quit_X11_isCourse
set_option maxRecDepth 20000 in
theorem ggX11_quit_X11_rank : GoodIn wsX11_quit wsX11_rank := goodIn_r _ [22, 3, 4, 52, 53, 54, 55, 56, 57, 58, 59, 60, 61, 62, 63, 64, 65, 66, 67, 68, 69, 70, 71, 72, 73, 74, 75, 76, 77, 78, 79, 80, 81, 82, 83, 84, 85, 86, 87, 88, 89, 90, 91, 92, 93, 94, 95, 96, 97, 98, 99, 100, 101, 102, 103, 104, 105, 106, 107, 108, 109, 110] (by decide +kernel) (by decide +kernel)
set_option maxRecDepth 20000 in
theorem gX11_quit_X11_rank : GoodIn wsX11_quit (wsV RX11 268 RX11 yX11_rank wsX11_rank) := goodIn_app (goodIn_of _ (by decide +kernel)) ggX11_quit_X11_rank
set_option maxRecDepth 20000 in
theorem ggX11_quit_X11_moveUp : GoodIn wsX11_quit wsX11_moveUp := goodIn_r _ [26, 27, 28, 29, 30, 8, 31, 10, 3, 4, 32, 2, 33, 34, 35, 36, 37, 38, 39, 40, 19, 20, 21, 22, 41, 42, 43, 44, 18, 45, 46, 47, 48, 49, 50, 51, 52, 53, 54, 55, 56, 57, 58, 59, 60, 61, 62, 63, 64, 65, 66, 67, 68, 69, 70, 71, 72, 73, 74, 75, 76, 77, 78, 79, 80, 81, 82, 83, 84, 85, 86, 87, 88, 89, 90, 91, 92, 93, 94, 95, 96, 97, 98, 99, 100, 101, 102, 103, 104, 105, 106, 107, 108, 109, 110] (by decide +kernel) (by decide +kernel)
set_option maxRecDepth 20000 in
theorem gX11_quit_X11_moveUp : GoodIn wsX11_quit (wsV RX11 272 RX11 yX11_moveUp wsX11_moveUp) := goodIn_app (goodIn_of _ (by decide +kernel)) ggX11_quit_X11_moveUp
theorem dX11_quit_0 : decode cX11_quit 0 = .ok (.aload_n 0, 1) := by decide +kernel
theorem dX11_quit_1 : decode cX11_quit 1 = .ok (.iconst 0, 1) := by decide +kernel
theorem dX11_quit_2 : decode cX11_quit 2 = .ok (.putfield 179, 3) := by decide +kernel
theorem dX11_quit_5 : decode cX11_quit 5 = .ok (.aload_n 0, 1) := by decide +kernel
theorem dX11_quit_6 : decode cX11_quit 6 = .ok (.iload_n 1, 1) := by decide +kernel
theorem dX11_quit_7 : decode cX11_quit 7 = .ok (.invokevirtual 262, 3) := by decide +kernel
theorem dX11_quit_10 : decode cX11_quit 10 = .ok (.ifCond .eq 24, 3) := by decide +kernel
theorem dX11_quit_13 : decode cX11_quit 13 = .ok (.aload_n 0, 1) := by decide +kernel
theorem dX11_quit_14 : decode cX11_quit 14 = .ok (.iload_n 2, 1) := by decide +kernel
theorem dX11_quit_15 : decode cX11_quit 15 = .ok (.invokevirtual 265, 3) := by decide +kernel
theorem dX11_quit_18 : decode cX11_quit 18 = .ok (.ifCond .eq 16, 3) := by decide +kernel
theorem dX11_quit_21 : decode cX11_quit 21 = .ok (.aload_n 0, 1) := by decide +kernel
theorem dX11_quit_22 : decode cX11_quit 22 = .ok (.getfield 75, 3) := by decide +kernel
theorem dX11_quit_25 : decode cX11_quit 25 = .ok (.iload_n 1, 1) := by decide +kernel
theorem dX11_quit_26 : decode cX11_quit 26 = .ok (.iaload, 1) := by decide +kernel
theorem dX11_quit_27 : decode cX11_quit 27 = .ok (.iload_n 2, 1) := by decide +kernel
theorem dX11_quit_28 : decode cX11_quit 28 = .ok (.ishr, 1) := by decide +kernel
theorem dX11_quit_29 : decode cX11_quit 29 = .ok (.iconst 1, 1) := by decide +kernel
theorem dX11_quit_30 : decode cX11_quit 30 = .ok (.iand, 1) := by decide +kernel
theorem dX11_quit_31 : decode cX11_quit 31 = .ok (.ifCond .ne 5, 3) := by decide +kernel
theorem dX11_quit_34 : decode cX11_quit 34 = .ok (.iconst 0, 1) := by decide +kernel
theorem dX11_quit_35 : decode cX11_quit 35 = .ok (.ireturn, 1) := by decide +kernel
theorem dX11_quit_36 : decode cX11_quit 36 = .ok (.aload_n 0, 1) := by decide +kernel
theorem dX11_quit_37 : decode cX11_quit 37 = .ok (.getfield 75, 3) := by decide +kernel
theorem dX11_quit_40 : decode cX11_quit 40 = .ok (.iload_n 1, 1) := by decide +kernel
theorem dX11_quit_41 : decode cX11_quit 41 = .ok (.dup2, 1) := by decide +kernel
theorem dX11_quit_42 : decode cX11_quit 42 = .ok (.iaload, 1) := by decide +kernel
theorem dX11_quit_43 : decode cX11_quit 43 = .ok (.iconst 1, 1) := by decide +kernel
theorem dX11_quit_44 : decode cX11_quit 44 = .ok (.iload_n 2, 1) := by decide +kernel
theorem dX11_quit_45 : decode cX11_quit 45 = .ok (.ishl, 1) := by decide +kernel
theorem dX11_quit_46 : decode cX11_quit 46 = .ok (.iconst (-1), 1) := by decide +kernel
theorem dX11_quit_47 : decode cX11_quit 47 = .ok (.ixor, 1) := by decide +kernel
theorem dX11_quit_48 : decode cX11_quit 48 = .ok (.iand, 1) := by decide +kernel
theorem dX11_quit_49 : decode cX11_quit 49 = .ok (.iastore, 1) := by decide +kernel
theorem dX11_quit_50 : decode cX11_quit 50 = .ok (.aload_n 0, 1) := by decide +kernel
theorem dX11_quit_51 : decode cX11_quit 51 = .ok (.iload_n 1, 1) := by decide +kernel
theorem dX11_quit_52 : decode cX11_quit 52 = .ok (.iload_n 2, 1) := by decide +kernel
theorem dX11_quit_53 : decode cX11_quit 53 = .ok (.invokevirtual 268, 3) := by decide +kernel
theorem dX11_quit_56 : decode cX11_quit 56 = .ok (.istore_n 3, 1) := by decide +kernel
theorem dX11_quit_57 : decode cX11_quit 57 = .ok (.iload_n 3, 1) := by decide +kernel
theorem dX11_quit_58 : decode cX11_quit 58 = .ok (.iconst 1, 1) := by decide +kernel
theorem dX11_quit_59 : decode cX11_quit 59 = .ok (.iadd, 1) := by decide +kernel
theorem dX11_quit_60 : decode cX11_quit 60 = .ok (.aload_n 0, 1) := by decide +kernel
theorem dX11_quit_61 : decode cX11_quit 61 = .ok (.getfield 54, 3) := by decide +kernel
theorem dX11_quit_64 : decode cX11_quit 64 = .ok (.iload_n 1, 1) := by decide +kernel
theorem dX11_quit_65 : decode cX11_quit 65 = .ok (.iaload, 1) := by decide +kernel
theorem dX11_quit_66 : decode cX11_quit 66 = .ok (.if_icmp .ge 33, 3) := by decide +kernel
theorem dX11_quit_69 : decode cX11_quit 69 = .ok (.aload_n 0, 1) := by decide +kernel
theorem dX11_quit_70 : decode cX11_quit 70 = .ok (.getfield 57, 3) := by decide +kernel
theorem dX11_quit_73 : decode cX11_quit 73 = .ok (.bipush 6, 2) := by decide +kernel
theorem dX11_quit_75 : decode cX11_quit 75 = .ok (.iload_n 1, 1) := by decide +kernel
theorem dX11_quit_76 : decode cX11_quit 76 = .ok (.imul, 1) := by decide +kernel
theorem dX11_quit_77 : decode cX11_quit 77 = .ok (.iload_n 3, 1) := by decide +kernel
theorem dX11_quit_78 : decode cX11_quit 78 = .ok (.iadd, 1) := by decide +kernel
theorem dX11_quit_79 : decode cX11_quit 79 = .ok (.aload_n 0, 1) := by decide +kernel
theorem dX11_quit_80 : decode cX11_quit 80 = .ok (.getfield 57, 3) := by decide +kernel
theorem dX11_quit_83 : decode cX11_quit 83 = .ok (.bipush 6, 2) := by decide +kernel
theorem dX11_quit_85 : decode cX11_quit 85 = .ok (.iload_n 1, 1) := by decide +kernel
theorem dX11_quit_86 : decode cX11_quit 86 = .ok (.imul, 1) := by decide +kernel
theorem dX11_quit_87 : decode cX11_quit 87 = .ok (.iload_n 3, 1) := by decide +kernel
theorem dX11_quit_88 : decode cX11_quit 88 = .ok (.iadd, 1) := by decide +kernel
theorem dX11_quit_89 : decode cX11_quit 89 = .ok (.iconst 1, 1) := by decide +kernel
theorem dX11_quit_90 : decode cX11_quit 90 = .ok (.iadd, 1) := by decide +kernel
theorem dX11_quit_91 : decode cX11_quit 91 = .ok (.iaload, 1) := by decide +kernel
theorem dX11_quit_92 : decode cX11_quit 92 = .ok (.iastore, 1) := by decide +kernel
theorem dX11_quit_93 : decode cX11_quit 93 = .ok (.iinc 3 1, 3) := by decide +kernel
theorem dX11_quit_96 : decode cX11_quit 96 = .ok (.goto (-39), 3) := by decide +kernel
theorem dX11_quit_99 : decode cX11_quit 99 = .ok (.aload_n 0, 1) := by decide +kernel
theorem dX11_quit_100 : decode cX11_quit 100 = .ok (.getfield 54, 3) := by decide +kernel
theorem dX11_quit_103 : decode cX11_quit 103 = .ok (.iload_n 1, 1) := by decide +kernel
theorem dX11_quit_104 : decode cX11_quit 104 = .ok (.dup2, 1) := by decide +kernel
theorem dX11_quit_105 : decode cX11_quit 105 = .ok (.iaload, 1) := by decide +kernel
theorem dX11_quit_106 : decode cX11_quit 106 = .ok (.iconst 1, 1) := by decide +kernel
theorem dX11_quit_107 : decode cX11_quit 107 = .ok (.isub, 1) := by decide +kernel
theorem dX11_quit_108 : decode cX11_quit 108 = .ok (.iastore, 1) := by decide +kernel
theorem dX11_quit_109 : decode cX11_quit 109 = .ok (.aload_n 0, 1) := by decide +kernel
theorem dX11_quit_110 : decode cX11_quit 110 = .ok (.invokevirtual 272, 3) := by decide +kernel
theorem dX11_quit_113 : decode cX11_quit 113 = .ok (.iconst 1, 1) := by decide +kernel
theorem dX11_quit_114 : decode cX11_quit 114 = .ok (.ireturn, 1) := by decide +kernel
set_option maxRecDepth 20000 in
theorem ggX11_tell_X11_isCourse : GoodIn wsX11_tell wsX11_isCourse := goodIn_r _ [15, 16, 17, 18, 14, 19, 26, 27, 28, 29, 30, 31, 32, 33, 34, 35, 36, 37, 38, 39, 40, 41, 42, 43, 44, 45, 46, 47, 48, 49, 50, 51, 52, 53, 54, 55, 56, 57, 58, 59, 60, 61, 62, 63, 64, 65, 66, 67, 68, 69, 70, 71, 72, 73, 74, 75, 76, 77, 78, 79, 80, 81, 82, 83, 84] (by decide +kernel) (by decide +kernel)
set_option maxRecDepth 20000 in
theorem gX11_tell_X11_isCourse : GoodIn wsX11_tell (wsV RX11 265 RX11 yX11_isCourse wsX11_isCourse) := goodIn_app (goodIn_of _ (by decide +kernel)) ggX11_tell_X11_isCourse
set_option maxRecDepth 20000 in
theorem ggX11_tell_X11_hasNow : GoodIn wsX11_tell wsX11_hasNow := goodIn_r _ [23, 24, 25, 26, 27, 28, 29, 30, 31, 32, 33, 34, 35, 36, 37, 38, 39, 40, 41, 42, 43, 44, 45, 46, 47, 48, 49, 50, 51, 52, 53, 54, 55, 56, 57, 58, 59, 60, 61, 62, 63, 64, 65, 66, 67, 68, 69, 70, 71, 72, 73, 74, 75, 76, 77, 78, 79, 80, 81, 82, 83, 84] (by decide +kernel) (by decide +kernel)
set_option maxRecDepth 20000 in
theorem gX11_tell_X11_hasNow : GoodIn wsX11_tell (wsV RX11 304 RX11 yX11_hasNow wsX11_hasNow) := goodIn_app (goodIn_of _ (by decide +kernel)) ggX11_tell_X11_hasNow
theorem dX11_tell_0 : decode cX11_tell 0 = .ok (.aload_n 0, 1) := by decide +kernel
theorem dX11_tell_1 : decode cX11_tell 1 = .ok (.iconst 0, 1) := by decide +kernel
theorem dX11_tell_2 : decode cX11_tell 2 = .ok (.putfield 179, 3) := by decide +kernel
theorem dX11_tell_5 : decode cX11_tell 5 = .ok (.aload_n 0, 1) := by decide +kernel
theorem dX11_tell_6 : decode cX11_tell 6 = .ok (.iload_n 1, 1) := by decide +kernel
theorem dX11_tell_7 : decode cX11_tell 7 = .ok (.invokevirtual 265, 3) := by decide +kernel
theorem dX11_tell_10 : decode cX11_tell 10 = .ok (.ifCond .ne 5, 3) := by decide +kernel
theorem dX11_tell_13 : decode cX11_tell 13 = .ok (.iconst (-1), 1) := by decide +kernel
theorem dX11_tell_14 : decode cX11_tell 14 = .ok (.ireturn, 1) := by decide +kernel
theorem dX11_tell_15 : decode cX11_tell 15 = .ok (.iload_n 2, 1) := by decide +kernel
theorem dX11_tell_16 : decode cX11_tell 16 = .ok (.tableswitch 129 0 9 #[56, 63, 70, 77, 84, 91, 102, 109, 116, 122], 56) := by decide +kernel
theorem dX11_tell_72 : decode cX11_tell 72 = .ok (.aload_n 0, 1) := by decide +kernel
theorem dX11_tell_73 : decode cX11_tell 73 = .ok (.getfield 27, 3) := by decide +kernel
theorem dX11_tell_76 : decode cX11_tell 76 = .ok (.iload_n 1, 1) := by decide +kernel
theorem dX11_tell_77 : decode cX11_tell 77 = .ok (.iaload, 1) := by decide +kernel
theorem dX11_tell_78 : decode cX11_tell 78 = .ok (.ireturn, 1) := by decide +kernel
theorem dX11_tell_79 : decode cX11_tell 79 = .ok (.aload_n 0, 1) := by decide +kernel
theorem dX11_tell_80 : decode cX11_tell 80 = .ok (.getfield 30, 3) := by decide +kernel
theorem dX11_tell_83 : decode cX11_tell 83 = .ok (.iload_n 1, 1) := by decide +kernel
theorem dX11_tell_84 : decode cX11_tell 84 = .ok (.iaload, 1) := by decide +kernel
theorem dX11_tell_85 : decode cX11_tell 85 = .ok (.ireturn, 1) := by decide +kernel
theorem dX11_tell_86 : decode cX11_tell 86 = .ok (.aload_n 0, 1) := by decide +kernel
theorem dX11_tell_87 : decode cX11_tell 87 = .ok (.getfield 33, 3) := by decide +kernel
theorem dX11_tell_90 : decode cX11_tell 90 = .ok (.iload_n 1, 1) := by decide +kernel
theorem dX11_tell_91 : decode cX11_tell 91 = .ok (.iaload, 1) := by decide +kernel
theorem dX11_tell_92 : decode cX11_tell 92 = .ok (.ireturn, 1) := by decide +kernel
theorem dX11_tell_93 : decode cX11_tell 93 = .ok (.aload_n 0, 1) := by decide +kernel
theorem dX11_tell_94 : decode cX11_tell 94 = .ok (.getfield 36, 3) := by decide +kernel
theorem dX11_tell_97 : decode cX11_tell 97 = .ok (.iload_n 1, 1) := by decide +kernel
theorem dX11_tell_98 : decode cX11_tell 98 = .ok (.iaload, 1) := by decide +kernel
theorem dX11_tell_99 : decode cX11_tell 99 = .ok (.ireturn, 1) := by decide +kernel
theorem dX11_tell_100 : decode cX11_tell 100 = .ok (.aload_n 0, 1) := by decide +kernel
theorem dX11_tell_101 : decode cX11_tell 101 = .ok (.getfield 39, 3) := by decide +kernel
theorem dX11_tell_104 : decode cX11_tell 104 = .ok (.iload_n 1, 1) := by decide +kernel
theorem dX11_tell_105 : decode cX11_tell 105 = .ok (.iaload, 1) := by decide +kernel
theorem dX11_tell_106 : decode cX11_tell 106 = .ok (.ireturn, 1) := by decide +kernel
theorem dX11_tell_107 : decode cX11_tell 107 = .ok (.aload_n 0, 1) := by decide +kernel
theorem dX11_tell_108 : decode cX11_tell 108 = .ok (.getfield 63, 3) := by decide +kernel
theorem dX11_tell_111 : decode cX11_tell 111 = .ok (.iconst 0, 1) := by decide +kernel
theorem dX11_tell_112 : decode cX11_tell 112 = .ok (.iaload, 1) := by decide +kernel
theorem dX11_tell_113 : decode cX11_tell 113 = .ok (.iload_n 1, 1) := by decide +kernel
theorem dX11_tell_114 : decode cX11_tell 114 = .ok (.ishr, 1) := by decide +kernel
theorem dX11_tell_115 : decode cX11_tell 115 = .ok (.iconst 1, 1) := by decide +kernel
theorem dX11_tell_116 : decode cX11_tell 116 = .ok (.iand, 1) := by decide +kernel
theorem dX11_tell_117 : decode cX11_tell 117 = .ok (.ireturn, 1) := by decide +kernel
theorem dX11_tell_118 : decode cX11_tell 118 = .ok (.aload_n 0, 1) := by decide +kernel
theorem dX11_tell_119 : decode cX11_tell 119 = .ok (.getfield 66, 3) := by decide +kernel
theorem dX11_tell_122 : decode cX11_tell 122 = .ok (.iload_n 1, 1) := by decide +kernel
theorem dX11_tell_123 : decode cX11_tell 123 = .ok (.iaload, 1) := by decide +kernel
theorem dX11_tell_124 : decode cX11_tell 124 = .ok (.ireturn, 1) := by decide +kernel
theorem dX11_tell_125 : decode cX11_tell 125 = .ok (.aload_n 0, 1) := by decide +kernel
theorem dX11_tell_126 : decode cX11_tell 126 = .ok (.getfield 69, 3) := by decide +kernel
theorem dX11_tell_129 : decode cX11_tell 129 = .ok (.iload_n 1, 1) := by decide +kernel
theorem dX11_tell_130 : decode cX11_tell 130 = .ok (.iaload, 1) := by decide +kernel
theorem dX11_tell_131 : decode cX11_tell 131 = .ok (.ireturn, 1) := by decide +kernel
theorem dX11_tell_132 : decode cX11_tell 132 = .ok (.aload_n 0, 1) := by decide +kernel
theorem dX11_tell_133 : decode cX11_tell 133 = .ok (.iload_n 1, 1) := by decide +kernel
theorem dX11_tell_134 : decode cX11_tell 134 = .ok (.invokevirtual 304, 3) := by decide +kernel
theorem dX11_tell_137 : decode cX11_tell 137 = .ok (.ireturn, 1) := by decide +kernel
theorem dX11_tell_138 : decode cX11_tell 138 = .ok (.aload_n 0, 1) := by decide +kernel
theorem dX11_tell_139 : decode cX11_tell 139 = .ok (.getfield 72, 3) := by decide +kernel
theorem dX11_tell_142 : decode cX11_tell 142 = .ok (.iload_n 1, 1) := by decide +kernel
theorem dX11_tell_143 : decode cX11_tell 143 = .ok (.iaload, 1) := by decide +kernel
theorem dX11_tell_144 : decode cX11_tell 144 = .ok (.ireturn, 1) := by decide +kernel
theorem dX11_tell_145 : decode cX11_tell 145 = .ok (.iconst (-1), 1) := by decide +kernel
theorem dX11_tell_146 : decode cX11_tell 146 = .ok (.ireturn, 1) := by decide +kernel
theorem dX11_pointsOf_0 : decode cX11_pointsOf 0 = .ok (.iconst 0, 1) := by decide +kernel
theorem dX11_pointsOf_1 : decode cX11_pointsOf 1 = .ok (.istore_n 2, 1) := by decide +kernel
theorem dX11_pointsOf_2 : decode cX11_pointsOf 2 = .ok (.iconst 0, 1) := by decide +kernel
theorem dX11_pointsOf_3 : decode cX11_pointsOf 3 = .ok (.istore_n 3, 1) := by decide +kernel
theorem dX11_pointsOf_4 : decode cX11_pointsOf 4 = .ok (.iload_n 3, 1) := by decide +kernel
theorem dX11_pointsOf_5 : decode cX11_pointsOf 5 = .ok (.aload_n 0, 1) := by decide +kernel
theorem dX11_pointsOf_6 : decode cX11_pointsOf 6 = .ok (.getfield 54, 3) := by decide +kernel
theorem dX11_pointsOf_9 : decode cX11_pointsOf 9 = .ok (.iload_n 1, 1) := by decide +kernel
theorem dX11_pointsOf_10 : decode cX11_pointsOf 10 = .ok (.iaload, 1) := by decide +kernel
theorem dX11_pointsOf_11 : decode cX11_pointsOf 11 = .ok (.if_icmp .ge 43, 3) := by decide +kernel
theorem dX11_pointsOf_14 : decode cX11_pointsOf 14 = .ok (.iload_n 2, 1) := by decide +kernel
theorem dX11_pointsOf_15 : decode cX11_pointsOf 15 = .ok (.aload_n 0, 1) := by decide +kernel
theorem dX11_pointsOf_16 : decode cX11_pointsOf 16 = .ok (.getfield 75, 3) := by decide +kernel
theorem dX11_pointsOf_19 : decode cX11_pointsOf 19 = .ok (.iload_n 1, 1) := by decide +kernel
theorem dX11_pointsOf_20 : decode cX11_pointsOf 20 = .ok (.iaload, 1) := by decide +kernel
theorem dX11_pointsOf_21 : decode cX11_pointsOf 21 = .ok (.aload_n 0, 1) := by decide +kernel
theorem dX11_pointsOf_22 : decode cX11_pointsOf 22 = .ok (.getfield 57, 3) := by decide +kernel
theorem dX11_pointsOf_25 : decode cX11_pointsOf 25 = .ok (.bipush 6, 2) := by decide +kernel
theorem dX11_pointsOf_27 : decode cX11_pointsOf 27 = .ok (.iload_n 1, 1) := by decide +kernel
theorem dX11_pointsOf_28 : decode cX11_pointsOf 28 = .ok (.imul, 1) := by decide +kernel
theorem dX11_pointsOf_29 : decode cX11_pointsOf 29 = .ok (.iload_n 3, 1) := by decide +kernel
theorem dX11_pointsOf_30 : decode cX11_pointsOf 30 = .ok (.iadd, 1) := by decide +kernel
theorem dX11_pointsOf_31 : decode cX11_pointsOf 31 = .ok (.iaload, 1) := by decide +kernel
theorem dX11_pointsOf_32 : decode cX11_pointsOf 32 = .ok (.ishr, 1) := by decide +kernel
theorem dX11_pointsOf_33 : decode cX11_pointsOf 33 = .ok (.iconst 1, 1) := by decide +kernel
theorem dX11_pointsOf_34 : decode cX11_pointsOf 34 = .ok (.iand, 1) := by decide +kernel
theorem dX11_pointsOf_35 : decode cX11_pointsOf 35 = .ok (.ifCond .eq 10, 3) := by decide +kernel
theorem dX11_pointsOf_38 : decode cX11_pointsOf 38 = .ok (.bipush 6, 2) := by decide +kernel
theorem dX11_pointsOf_40 : decode cX11_pointsOf 40 = .ok (.iload_n 3, 1) := by decide +kernel
theorem dX11_pointsOf_41 : decode cX11_pointsOf 41 = .ok (.isub, 1) := by decide +kernel
theorem dX11_pointsOf_42 : decode cX11_pointsOf 42 = .ok (.goto 4, 3) := by decide +kernel
theorem dX11_pointsOf_45 : decode cX11_pointsOf 45 = .ok (.iconst 0, 1) := by decide +kernel
theorem dX11_pointsOf_46 : decode cX11_pointsOf 46 = .ok (.iadd, 1) := by decide +kernel
theorem dX11_pointsOf_47 : decode cX11_pointsOf 47 = .ok (.istore_n 2, 1) := by decide +kernel
theorem dX11_pointsOf_48 : decode cX11_pointsOf 48 = .ok (.iinc 3 1, 3) := by decide +kernel
theorem dX11_pointsOf_51 : decode cX11_pointsOf 51 = .ok (.goto (-47), 3) := by decide +kernel
theorem dX11_pointsOf_54 : decode cX11_pointsOf 54 = .ok (.iload_n 2, 1) := by decide +kernel
theorem dX11_pointsOf_55 : decode cX11_pointsOf 55 = .ok (.ireturn, 1) := by decide +kernel
set_option maxRecDepth 20000 in
theorem ggX11_person_X11_isPupil : GoodIn wsX11_person wsX11_isPupil := goodIn_r _ [13, 14, 15, 16, 12, 17, 28, 29, 30, 31, 32, 33, 34, 35, 36, 37, 38, 39, 40, 41, 42, 43, 44, 45, 46, 47, 48, 49, 50, 51, 52, 53, 54, 55, 56, 57, 58, 59, 60, 61, 62, 63, 64, 65, 66, 67, 68, 69, 70, 71, 72, 73, 74, 75, 76, 77, 78, 79, 80, 81, 82, 83, 84, 85, 86] (by decide +kernel) (by decide +kernel)
set_option maxRecDepth 20000 in
theorem gX11_person_X11_isPupil : GoodIn wsX11_person (wsV RX11 262 RX11 yX11_isPupil wsX11_isPupil) := goodIn_app (goodIn_of _ (by decide +kernel)) ggX11_person_X11_isPupil
set_option maxRecDepth 20000 in
theorem ggX11_person_X11_pointsOf : GoodIn wsX11_person wsX11_pointsOf := goodIn_r _ [21, 6, 5, 8, 28, 29, 30, 31, 32, 33, 34, 35, 36, 37, 38, 39, 40, 41, 42, 43, 44, 45, 46, 47, 48, 49, 50, 51, 52, 53, 54, 55, 56, 57, 58, 59, 60, 61, 62, 63, 64, 65, 66, 67, 68, 69, 70, 71, 72, 73, 74, 75, 76, 77, 78, 79, 80, 81, 82, 83, 84, 85, 86] (by decide +kernel) (by decide +kernel)
set_option maxRecDepth 20000 in
theorem gX11_person_X11_pointsOf : GoodIn wsX11_person (wsV RX11 316 RX11 yX11_pointsOf wsX11_pointsOf) := goodIn_app (goodIn_of _ (by decide +kernel)) ggX11_person_X11_pointsOf
set_option maxRecDepth 20000 in
theorem ggX11_person_X11_in : GoodIn wsX11_person wsX11_in := goodIn_r _ [17] (by decide +kernel) (by decide +kernel)
set_option maxRecDepth 20000 in
theorem gX11_person_X11_in : GoodIn wsX11_person (va_wsS RX11 193 yX11_in wsX11_in) := goodIn_app (goodIn_of _ (by decide +kernel)) ggX11_person_X11_in
set_option maxRecDepth 20000 in
theorem ggX11_person_X11_on : GoodIn wsX11_person wsX11_on := goodIn_r _ [25, 26, 5, 27, 28, 29, 30, 31, 32, 33, 34, 35, 36, 37, 38, 39, 40, 41, 42, 43, 44, 45, 46, 47, 48, 49, 50, 51, 52, 53, 54, 55, 56, 57, 58, 59, 60, 61, 62, 63, 64, 65, 66, 67, 68, 69, 70, 71, 72, 73, 74, 75, 76, 77, 78, 79, 80, 81, 82, 83, 84, 85, 86] (by decide +kernel) (by decide +kernel)
set_option maxRecDepth 20000 in
theorem gX11_person_X11_on : GoodIn wsX11_person (wsV RX11 301 RX11 yX11_on wsX11_on) := goodIn_app (goodIn_of _ (by decide +kernel)) ggX11_person_X11_on
theorem dX11_person_0 : decode cX11_person 0 = .ok (.aload_n 0, 1) := by decide +kernel
theorem dX11_person_1 : decode cX11_person 1 = .ok (.iconst 0, 1) := by decide +kernel
theorem dX11_person_2 : decode cX11_person 2 = .ok (.putfield 179, 3) := by decide +kernel
theorem dX11_person_5 : decode cX11_person 5 = .ok (.aload_n 0, 1) := by decide +kernel
theorem dX11_person_6 : decode cX11_person 6 = .ok (.iload_n 1, 1) := by decide +kernel
theorem dX11_person_7 : decode cX11_person 7 = .ok (.invokevirtual 262, 3) := by decide +kernel
theorem dX11_person_10 : decode cX11_person 10 = .ok (.ifCond .ne 5, 3) := by decide +kernel
theorem dX11_person_13 : decode cX11_person 13 = .ok (.iconst (-1), 1) := by decide +kernel
theorem dX11_person_14 : decode cX11_person 14 = .ok (.ireturn, 1) := by decide +kernel
theorem dX11_person_15 : decode cX11_person 15 = .ok (.iload_n 2, 1) := by decide +kernel
theorem dX11_person_16 : decode cX11_person 16 = .ok (.tableswitch 92 0 6 #[44, 51, 58, 65, 72, 79, 85], 44) := by decide +kernel
theorem dX11_person_60 : decode cX11_person 60 = .ok (.aload_n 0, 1) := by decide +kernel
theorem dX11_person_61 : decode cX11_person 61 = .ok (.getfield 45, 3) := by decide +kernel
theorem dX11_person_64 : decode cX11_person 64 = .ok (.iload_n 1, 1) := by decide +kernel
theorem dX11_person_65 : decode cX11_person 65 = .ok (.iaload, 1) := by decide +kernel
theorem dX11_person_66 : decode cX11_person 66 = .ok (.ireturn, 1) := by decide +kernel
theorem dX11_person_67 : decode cX11_person 67 = .ok (.aload_n 0, 1) := by decide +kernel
theorem dX11_person_68 : decode cX11_person 68 = .ok (.getfield 48, 3) := by decide +kernel
theorem dX11_person_71 : decode cX11_person 71 = .ok (.iload_n 1, 1) := by decide +kernel
theorem dX11_person_72 : decode cX11_person 72 = .ok (.iaload, 1) := by decide +kernel
theorem dX11_person_73 : decode cX11_person 73 = .ok (.ireturn, 1) := by decide +kernel
theorem dX11_person_74 : decode cX11_person 74 = .ok (.aload_n 0, 1) := by decide +kernel
theorem dX11_person_75 : decode cX11_person 75 = .ok (.getfield 51, 3) := by decide +kernel
theorem dX11_person_78 : decode cX11_person 78 = .ok (.iload_n 1, 1) := by decide +kernel
theorem dX11_person_79 : decode cX11_person 79 = .ok (.iaload, 1) := by decide +kernel
theorem dX11_person_80 : decode cX11_person 80 = .ok (.ireturn, 1) := by decide +kernel
theorem dX11_person_81 : decode cX11_person 81 = .ok (.aload_n 0, 1) := by decide +kernel
theorem dX11_person_82 : decode cX11_person 82 = .ok (.getfield 75, 3) := by decide +kernel
theorem dX11_person_85 : decode cX11_person 85 = .ok (.iload_n 1, 1) := by decide +kernel
theorem dX11_person_86 : decode cX11_person 86 = .ok (.iaload, 1) := by decide +kernel
theorem dX11_person_87 : decode cX11_person 87 = .ok (.ireturn, 1) := by decide +kernel
theorem dX11_person_88 : decode cX11_person 88 = .ok (.aload_n 0, 1) := by decide +kernel
theorem dX11_person_89 : decode cX11_person 89 = .ok (.getfield 54, 3) := by decide +kernel
theorem dX11_person_92 : decode cX11_person 92 = .ok (.iload_n 1, 1) := by decide +kernel
theorem dX11_person_93 : decode cX11_person 93 = .ok (.iaload, 1) := by decide +kernel
theorem dX11_person_94 : decode cX11_person 94 = .ok (.ireturn, 1) := by decide +kernel
theorem dX11_person_95 : decode cX11_person 95 = .ok (.aload_n 0, 1) := by decide +kernel
theorem dX11_person_96 : decode cX11_person 96 = .ok (.iload_n 1, 1) := by decide +kernel
theorem dX11_person_97 : decode cX11_person 97 = .ok (.invokevirtual 316, 3) := by decide +kernel
theorem dX11_person_100 : decode cX11_person 100 = .ok (.ireturn, 1) := by decide +kernel
theorem dX11_person_101 : decode cX11_person 101 = .ok (.aload_n 0, 1) := by decide +kernel
theorem dX11_person_102 : decode cX11_person 102 = .ok (.getfield 78, 3) := by decide +kernel
theorem dX11_person_105 : decode cX11_person 105 = .ok (.iload_n 1, 1) := by decide +kernel
theorem dX11_person_106 : decode cX11_person 106 = .ok (.iaload, 1) := by decide +kernel
theorem dX11_person_107 : decode cX11_person 107 = .ok (.ireturn, 1) := by decide +kernel
theorem dX11_person_108 : decode cX11_person 108 = .ok (.iload_n 2, 1) := by decide +kernel
theorem dX11_person_109 : decode cX11_person 109 = .ok (.bipush 10, 2) := by decide +kernel
theorem dX11_person_111 : decode cX11_person 111 = .ok (.bipush 9, 2) := by decide +kernel
theorem dX11_person_113 : decode cX11_person 113 = .ok (.aload_n 0, 1) := by decide +kernel
theorem dX11_person_114 : decode cX11_person 114 = .ok (.getfield 54, 3) := by decide +kernel
theorem dX11_person_117 : decode cX11_person 117 = .ok (.iload_n 1, 1) := by decide +kernel
theorem dX11_person_118 : decode cX11_person 118 = .ok (.iaload, 1) := by decide +kernel
theorem dX11_person_119 : decode cX11_person 119 = .ok (.iadd, 1) := by decide +kernel
theorem dX11_person_120 : decode cX11_person 120 = .ok (.invokestatic 193, 3) := by decide +kernel
theorem dX11_person_123 : decode cX11_person 123 = .ok (.ifCond .eq 18, 3) := by decide +kernel
theorem dX11_person_126 : decode cX11_person 126 = .ok (.aload_n 0, 1) := by decide +kernel
theorem dX11_person_127 : decode cX11_person 127 = .ok (.getfield 57, 3) := by decide +kernel
theorem dX11_person_130 : decode cX11_person 130 = .ok (.bipush 6, 2) := by decide +kernel
theorem dX11_person_132 : decode cX11_person 132 = .ok (.iload_n 1, 1) := by decide +kernel
theorem dX11_person_133 : decode cX11_person 133 = .ok (.imul, 1) := by decide +kernel
theorem dX11_person_134 : decode cX11_person 134 = .ok (.iload_n 2, 1) := by decide +kernel
theorem dX11_person_135 : decode cX11_person 135 = .ok (.iadd, 1) := by decide +kernel
theorem dX11_person_136 : decode cX11_person 136 = .ok (.bipush 10, 2) := by decide +kernel
theorem dX11_person_138 : decode cX11_person 138 = .ok (.isub, 1) := by decide +kernel
theorem dX11_person_139 : decode cX11_person 139 = .ok (.iaload, 1) := by decide +kernel
theorem dX11_person_140 : decode cX11_person 140 = .ok (.ireturn, 1) := by decide +kernel
theorem dX11_person_141 : decode cX11_person 141 = .ok (.iload_n 2, 1) := by decide +kernel
theorem dX11_person_142 : decode cX11_person 142 = .ok (.bipush 20, 2) := by decide +kernel
theorem dX11_person_144 : decode cX11_person 144 = .ok (.bipush 24, 2) := by decide +kernel
theorem dX11_person_146 : decode cX11_person 146 = .ok (.invokestatic 193, 3) := by decide +kernel
theorem dX11_person_149 : decode cX11_person 149 = .ok (.ifCond .eq 15, 3) := by decide +kernel
theorem dX11_person_152 : decode cX11_person 152 = .ok (.aload_n 0, 1) := by decide +kernel
theorem dX11_person_153 : decode cX11_person 153 = .ok (.iload_n 1, 1) := by decide +kernel
theorem dX11_person_154 : decode cX11_person 154 = .ok (.iload_n 2, 1) := by decide +kernel
theorem dX11_person_155 : decode cX11_person 155 = .ok (.bipush 20, 2) := by decide +kernel
theorem dX11_person_157 : decode cX11_person 157 = .ok (.isub, 1) := by decide +kernel
theorem dX11_person_158 : decode cX11_person 158 = .ok (.invokevirtual 301, 3) := by decide +kernel
theorem dX11_person_161 : decode cX11_person 161 = .ok (.goto 4, 3) := by decide +kernel
theorem dX11_person_164 : decode cX11_person 164 = .ok (.iconst (-1), 1) := by decide +kernel
theorem dX11_person_165 : decode cX11_person 165 = .ok (.ireturn, 1) := by decide +kernel
set_option maxRecDepth 20000 in
theorem ggX11_why_X11_isPupil : GoodIn wsX11_why wsX11_isPupil := goodIn_r _ [6, 7, 8, 9, 5, 10, 42, 43, 44, 45, 46, 47, 48, 49, 50, 51, 52, 53, 54, 55, 56, 57, 58, 59, 60, 61, 62, 63, 64, 65, 66, 67, 68, 69, 70, 71, 72, 73, 74, 75, 76, 77, 78, 79, 80, 81, 82, 83, 84, 85, 86, 87, 88, 89, 90, 91, 92, 93, 94, 95, 96, 97, 98, 99, 100] (by decide +kernel) (by decide +kernel)
set_option maxRecDepth 20000 in
theorem gX11_why_X11_isPupil : GoodIn wsX11_why (wsV RX11 262 RX11 yX11_isPupil wsX11_isPupil) := goodIn_app (goodIn_of _ (by decide +kernel)) ggX11_why_X11_isPupil
set_option maxRecDepth 20000 in
theorem ggX11_why_X11_isCourse : GoodIn wsX11_why wsX11_isCourse := goodIn_r _ [14, 15, 8, 9, 5, 10, 42, 43, 44, 45, 46, 47, 48, 49, 50, 51, 52, 53, 54, 55, 56, 57, 58, 59, 60, 61, 62, 63, 64, 65, 66, 67, 68, 69, 70, 71, 72, 73, 74, 75, 76, 77, 78, 79, 80, 81, 82, 83, 84, 85, 86, 87, 88, 89, 90, 91, 92, 93, 94, 95, 96, 97, 98, 99, 100] (by decide +kernel) (by decide +kernel)
set_option maxRecDepth 20000 in
theorem gX11_why_X11_isCourse : GoodIn wsX11_why (wsV RX11 265 RX11 yX11_isCourse wsX11_isCourse) := goodIn_app (goodIn_of _ (by decide +kernel)) ggX11_why_X11_isCourse
set_option maxRecDepth 20000 in
theorem ggX11_why_X11_reason : GoodIn wsX11_why wsX11_reason := goodIn_r _ [19, 20, 21, 22, 23, 24, 25, 26, 27, 5, 28, 29, 30, 31, 32, 33, 34, 15, 35, 36, 37, 38, 39, 40, 41, 7, 42, 43, 44, 45, 46, 47, 48, 49, 50, 51, 52, 53, 54, 55, 56, 57, 58, 59, 60, 61, 62, 63, 64, 65, 66, 67, 68, 69, 70, 71, 72, 73, 74, 75, 76, 77, 78, 79, 80, 81, 82, 83, 84, 85, 86, 87, 88, 89, 90, 91, 92, 93, 94, 95, 96, 97, 98, 99, 100] (by decide +kernel) (by decide +kernel)
set_option maxRecDepth 20000 in
theorem gX11_why_X11_reason : GoodIn wsX11_why (wsV RX11 307 RX11 yX11_reason wsX11_reason) := goodIn_app (goodIn_of _ (by decide +kernel)) ggX11_why_X11_reason
theorem dX11_why_0 : decode cX11_why 0 = .ok (.aload_n 0, 1) := by decide +kernel
theorem dX11_why_1 : decode cX11_why 1 = .ok (.iconst 0, 1) := by decide +kernel
theorem dX11_why_2 : decode cX11_why 2 = .ok (.putfield 179, 3) := by decide +kernel
theorem dX11_why_5 : decode cX11_why 5 = .ok (.aload_n 0, 1) := by decide +kernel
theorem dX11_why_6 : decode cX11_why 6 = .ok (.iload_n 1, 1) := by decide +kernel
theorem dX11_why_7 : decode cX11_why 7 = .ok (.invokevirtual 262, 3) := by decide +kernel
theorem dX11_why_10 : decode cX11_why 10 = .ok (.ifCond .eq 20, 3) := by decide +kernel
theorem dX11_why_13 : decode cX11_why 13 = .ok (.aload_n 0, 1) := by decide +kernel
theorem dX11_why_14 : decode cX11_why 14 = .ok (.iload_n 2, 1) := by decide +kernel
theorem dX11_why_15 : decode cX11_why 15 = .ok (.invokevirtual 265, 3) := by decide +kernel
theorem dX11_why_18 : decode cX11_why 18 = .ok (.ifCond .eq 12, 3) := by decide +kernel
theorem dX11_why_21 : decode cX11_why 21 = .ok (.aload_n 0, 1) := by decide +kernel
theorem dX11_why_22 : decode cX11_why 22 = .ok (.iload_n 1, 1) := by decide +kernel
theorem dX11_why_23 : decode cX11_why 23 = .ok (.iload_n 2, 1) := by decide +kernel
theorem dX11_why_24 : decode cX11_why 24 = .ok (.invokevirtual 307, 3) := by decide +kernel
theorem dX11_why_27 : decode cX11_why 27 = .ok (.goto 4, 3) := by decide +kernel
theorem dX11_why_30 : decode cX11_why 30 = .ok (.iconst (-1), 1) := by decide +kernel
theorem dX11_why_31 : decode cX11_why 31 = .ok (.ireturn, 1) := by decide +kernel
set_option maxRecDepth 20000 in
theorem ggX11_hours_X11_in : GoodIn wsX11_hours wsX11_in := goodIn_r _ [8] (by decide +kernel) (by decide +kernel)
set_option maxRecDepth 20000 in
theorem gX11_hours_X11_in : GoodIn wsX11_hours (va_wsS RX11 193 yX11_in wsX11_in) := goodIn_app (goodIn_of _ (by decide +kernel)) ggX11_hours_X11_in
theorem dX11_hours_0 : decode cX11_hours 0 = .ok (.aload_n 0, 1) := by decide +kernel
theorem dX11_hours_1 : decode cX11_hours 1 = .ok (.iconst 0, 1) := by decide +kernel
theorem dX11_hours_2 : decode cX11_hours 2 = .ok (.putfield 179, 3) := by decide +kernel
theorem dX11_hours_5 : decode cX11_hours 5 = .ok (.iload_n 1, 1) := by decide +kernel
theorem dX11_hours_6 : decode cX11_hours 6 = .ok (.ifCond .ne 23, 3) := by decide +kernel
theorem dX11_hours_9 : decode cX11_hours 9 = .ok (.iload_n 2, 1) := by decide +kernel
theorem dX11_hours_10 : decode cX11_hours 10 = .ok (.iconst 0, 1) := by decide +kernel
theorem dX11_hours_11 : decode cX11_hours 11 = .ok (.iconst 5, 1) := by decide +kernel
theorem dX11_hours_12 : decode cX11_hours 12 = .ok (.invokestatic 193, 3) := by decide +kernel
theorem dX11_hours_15 : decode cX11_hours 15 = .ok (.ifCond .eq 12, 3) := by decide +kernel
theorem dX11_hours_18 : decode cX11_hours 18 = .ok (.aload_n 0, 1) := by decide +kernel
theorem dX11_hours_19 : decode cX11_hours 19 = .ok (.getfield 81, 3) := by decide +kernel
theorem dX11_hours_22 : decode cX11_hours 22 = .ok (.iload_n 2, 1) := by decide +kernel
theorem dX11_hours_23 : decode cX11_hours 23 = .ok (.iaload, 1) := by decide +kernel
theorem dX11_hours_24 : decode cX11_hours 24 = .ok (.goto 4, 3) := by decide +kernel
theorem dX11_hours_27 : decode cX11_hours 27 = .ok (.iconst (-1), 1) := by decide +kernel
theorem dX11_hours_28 : decode cX11_hours 28 = .ok (.ireturn, 1) := by decide +kernel
theorem dX11_hours_29 : decode cX11_hours 29 = .ok (.iload_n 1, 1) := by decide +kernel
theorem dX11_hours_30 : decode cX11_hours 30 = .ok (.iconst 1, 1) := by decide +kernel
theorem dX11_hours_31 : decode cX11_hours 31 = .ok (.if_icmp .ne 28, 3) := by decide +kernel
theorem dX11_hours_34 : decode cX11_hours 34 = .ok (.iload_n 2, 1) := by decide +kernel
theorem dX11_hours_35 : decode cX11_hours 35 = .ok (.iconst 0, 1) := by decide +kernel
theorem dX11_hours_36 : decode cX11_hours 36 = .ok (.aload_n 0, 1) := by decide +kernel
theorem dX11_hours_37 : decode cX11_hours 37 = .ok (.getfield 17, 3) := by decide +kernel
theorem dX11_hours_40 : decode cX11_hours 40 = .ok (.iconst 0, 1) := by decide +kernel
theorem dX11_hours_41 : decode cX11_hours 41 = .ok (.iaload, 1) := by decide +kernel
theorem dX11_hours_42 : decode cX11_hours 42 = .ok (.iconst 1, 1) := by decide +kernel
theorem dX11_hours_43 : decode cX11_hours 43 = .ok (.isub, 1) := by decide +kernel
theorem dX11_hours_44 : decode cX11_hours 44 = .ok (.invokestatic 193, 3) := by decide +kernel
theorem dX11_hours_47 : decode cX11_hours 47 = .ok (.ifCond .eq 12, 3) := by decide +kernel
theorem dX11_hours_50 : decode cX11_hours 50 = .ok (.aload_n 0, 1) := by decide +kernel
theorem dX11_hours_51 : decode cX11_hours 51 = .ok (.getfield 84, 3) := by decide +kernel
theorem dX11_hours_54 : decode cX11_hours 54 = .ok (.iload_n 2, 1) := by decide +kernel
theorem dX11_hours_55 : decode cX11_hours 55 = .ok (.iaload, 1) := by decide +kernel
theorem dX11_hours_56 : decode cX11_hours 56 = .ok (.goto 4, 3) := by decide +kernel
theorem dX11_hours_59 : decode cX11_hours 59 = .ok (.iconst (-1), 1) := by decide +kernel
theorem dX11_hours_60 : decode cX11_hours 60 = .ok (.ireturn, 1) := by decide +kernel
theorem dX11_beginBill_0 : decode cX11_beginBill 0 = .ok (.aload_n 0, 1) := by decide +kernel
theorem dX11_beginBill_1 : decode cX11_beginBill 1 = .ok (.lconst 0, 1) := by decide +kernel
theorem dX11_beginBill_2 : decode cX11_beginBill 2 = .ok (.putfield 319, 3) := by decide +kernel
theorem dX11_beginBill_5 : decode cX11_beginBill 5 = .ok (.aload_n 0, 1) := by decide +kernel
theorem dX11_beginBill_6 : decode cX11_beginBill 6 = .ok (.iconst 0, 1) := by decide +kernel
theorem dX11_beginBill_7 : decode cX11_beginBill 7 = .ok (.putfield 323, 3) := by decide +kernel
theorem dX11_beginBill_10 : decode cX11_beginBill 10 = .ok (.iconst 0, 1) := by decide +kernel
theorem dX11_beginBill_11 : decode cX11_beginBill 11 = .ok (.istore_n 2, 1) := by decide +kernel
theorem dX11_beginBill_12 : decode cX11_beginBill 12 = .ok (.iload_n 2, 1) := by decide +kernel
theorem dX11_beginBill_13 : decode cX11_beginBill 13 = .ok (.aload_n 0, 1) := by decide +kernel
theorem dX11_beginBill_14 : decode cX11_beginBill 14 = .ok (.getfield 24, 3) := by decide +kernel
theorem dX11_beginBill_17 : decode cX11_beginBill 17 = .ok (.iconst 0, 1) := by decide +kernel
theorem dX11_beginBill_18 : decode cX11_beginBill 18 = .ok (.iaload, 1) := by decide +kernel
theorem dX11_beginBill_19 : decode cX11_beginBill 19 = .ok (.if_icmp .ge 42, 3) := by decide +kernel
theorem dX11_beginBill_22 : decode cX11_beginBill 22 = .ok (.aload_n 0, 1) := by decide +kernel
theorem dX11_beginBill_23 : decode cX11_beginBill 23 = .ok (.dup, 1) := by decide +kernel
theorem dX11_beginBill_24 : decode cX11_beginBill 24 = .ok (.getfield 319, 3) := by decide +kernel
theorem dX11_beginBill_27 : decode cX11_beginBill 27 = .ok (.aload_n 0, 1) := by decide +kernel
theorem dX11_beginBill_28 : decode cX11_beginBill 28 = .ok (.getfield 75, 3) := by decide +kernel
theorem dX11_beginBill_31 : decode cX11_beginBill 31 = .ok (.iload_n 1, 1) := by decide +kernel
theorem dX11_beginBill_32 : decode cX11_beginBill 32 = .ok (.iaload, 1) := by decide +kernel
theorem dX11_beginBill_33 : decode cX11_beginBill 33 = .ok (.iload_n 2, 1) := by decide +kernel
theorem dX11_beginBill_34 : decode cX11_beginBill 34 = .ok (.ishr, 1) := by decide +kernel
theorem dX11_beginBill_35 : decode cX11_beginBill 35 = .ok (.iconst 1, 1) := by decide +kernel
theorem dX11_beginBill_36 : decode cX11_beginBill 36 = .ok (.iand, 1) := by decide +kernel
theorem dX11_beginBill_37 : decode cX11_beginBill 37 = .ok (.ifCond .eq 13, 3) := by decide +kernel
theorem dX11_beginBill_40 : decode cX11_beginBill 40 = .ok (.aload_n 0, 1) := by decide +kernel
theorem dX11_beginBill_41 : decode cX11_beginBill 41 = .ok (.getfield 39, 3) := by decide +kernel
theorem dX11_beginBill_44 : decode cX11_beginBill 44 = .ok (.iload_n 2, 1) := by decide +kernel
theorem dX11_beginBill_45 : decode cX11_beginBill 45 = .ok (.iaload, 1) := by decide +kernel
theorem dX11_beginBill_46 : decode cX11_beginBill 46 = .ok (.i2l, 1) := by decide +kernel
theorem dX11_beginBill_47 : decode cX11_beginBill 47 = .ok (.goto 4, 3) := by decide +kernel
theorem dX11_beginBill_50 : decode cX11_beginBill 50 = .ok (.lconst 0, 1) := by decide +kernel
theorem dX11_beginBill_51 : decode cX11_beginBill 51 = .ok (.ladd, 1) := by decide +kernel
theorem dX11_beginBill_52 : decode cX11_beginBill 52 = .ok (.putfield 319, 3) := by decide +kernel
theorem dX11_beginBill_55 : decode cX11_beginBill 55 = .ok (.iinc 2 1, 3) := by decide +kernel
theorem dX11_beginBill_58 : decode cX11_beginBill 58 = .ok (.goto (-46), 3) := by decide +kernel
theorem dX11_beginBill_61 : decode cX11_beginBill 61 = .ok (.return_, 1) := by decide +kernel
set_option maxRecDepth 20000 in
theorem ggX11_holds_X11_tested : GoodIn wsX11_holds wsX11_tested := goodIn_r _ [9, 10, 11, 12, 13, 14, 15, 16, 17, 18, 8, 19, 20, 21, 22, 23, 24, 25, 26, 27, 28, 29, 30, 31, 32, 33, 34, 35, 36, 37, 38, 39, 40, 41, 42, 43, 44, 45, 46, 47, 48, 49, 50, 51, 52, 53, 54, 55, 56, 57, 58, 59, 60, 61, 62, 63, 64, 65, 66, 67, 68, 69, 70, 71, 72, 73, 74, 75, 76, 77, 78] (by decide +kernel) (by decide +kernel)
set_option maxRecDepth 20000 in
theorem gX11_holds_X11_tested : GoodIn wsX11_holds (wsV RX11 327 RX11 yX11_tested wsX11_tested) := goodIn_app (goodIn_of _ (by decide +kernel)) ggX11_holds_X11_tested
theorem dX11_holds_0 : decode cX11_holds 0 = .ok (.iconst 0, 1) := by decide +kernel
theorem dX11_holds_1 : decode cX11_holds 1 = .ok (.istore_n 3, 1) := by decide +kernel
theorem dX11_holds_2 : decode cX11_holds 2 = .ok (.iload_n 3, 1) := by decide +kernel
theorem dX11_holds_3 : decode cX11_holds 3 = .ok (.aload_n 0, 1) := by decide +kernel
theorem dX11_holds_4 : decode cX11_holds 4 = .ok (.getfield 90, 3) := by decide +kernel
theorem dX11_holds_7 : decode cX11_holds 7 = .ok (.iload_n 2, 1) := by decide +kernel
theorem dX11_holds_8 : decode cX11_holds 8 = .ok (.iaload, 1) := by decide +kernel
theorem dX11_holds_9 : decode cX11_holds 9 = .ok (.if_icmp .ge 118, 3) := by decide +kernel
theorem dX11_holds_12 : decode cX11_holds 12 = .ok (.iconst 4, 1) := by decide +kernel
theorem dX11_holds_13 : decode cX11_holds 13 = .ok (.iload_n 2, 1) := by decide +kernel
theorem dX11_holds_14 : decode cX11_holds 14 = .ok (.imul, 1) := by decide +kernel
theorem dX11_holds_15 : decode cX11_holds 15 = .ok (.iload_n 3, 1) := by decide +kernel
theorem dX11_holds_16 : decode cX11_holds 16 = .ok (.iadd, 1) := by decide +kernel
theorem dX11_holds_17 : decode cX11_holds 17 = .ok (.istore 4, 2) := by decide +kernel
theorem dX11_holds_19 : decode cX11_holds 19 = .ok (.aload_n 0, 1) := by decide +kernel
theorem dX11_holds_20 : decode cX11_holds 20 = .ok (.iload_n 1, 1) := by decide +kernel
theorem dX11_holds_21 : decode cX11_holds 21 = .ok (.aload_n 0, 1) := by decide +kernel
theorem dX11_holds_22 : decode cX11_holds 22 = .ok (.getfield 93, 3) := by decide +kernel
theorem dX11_holds_25 : decode cX11_holds 25 = .ok (.iload 4, 2) := by decide +kernel
theorem dX11_holds_27 : decode cX11_holds 27 = .ok (.iaload, 1) := by decide +kernel
theorem dX11_holds_28 : decode cX11_holds 28 = .ok (.invokevirtual 327, 3) := by decide +kernel
theorem dX11_holds_31 : decode cX11_holds 31 = .ok (.lstore 5, 2) := by decide +kernel
theorem dX11_holds_33 : decode cX11_holds 33 = .ok (.aload_n 0, 1) := by decide +kernel
theorem dX11_holds_34 : decode cX11_holds 34 = .ok (.getfield 99, 3) := by decide +kernel
theorem dX11_holds_37 : decode cX11_holds 37 = .ok (.iload 4, 2) := by decide +kernel
theorem dX11_holds_39 : decode cX11_holds 39 = .ok (.iaload, 1) := by decide +kernel
theorem dX11_holds_40 : decode cX11_holds 40 = .ok (.i2l, 1) := by decide +kernel
theorem dX11_holds_41 : decode cX11_holds 41 = .ok (.lstore 7, 2) := by decide +kernel
theorem dX11_holds_43 : decode cX11_holds 43 = .ok (.aload_n 0, 1) := by decide +kernel
theorem dX11_holds_44 : decode cX11_holds 44 = .ok (.getfield 96, 3) := by decide +kernel
theorem dX11_holds_47 : decode cX11_holds 47 = .ok (.iload 4, 2) := by decide +kernel
theorem dX11_holds_49 : decode cX11_holds 49 = .ok (.iaload, 1) := by decide +kernel
theorem dX11_holds_50 : decode cX11_holds 50 = .ok (.bipush 60, 2) := by decide +kernel
theorem dX11_holds_52 : decode cX11_holds 52 = .ok (.if_icmp .ne 19, 3) := by decide +kernel
theorem dX11_holds_55 : decode cX11_holds 55 = .ok (.lload 5, 2) := by decide +kernel
theorem dX11_holds_57 : decode cX11_holds 57 = .ok (.lload 7, 2) := by decide +kernel
theorem dX11_holds_59 : decode cX11_holds 59 = .ok (.lcmp, 1) := by decide +kernel
theorem dX11_holds_60 : decode cX11_holds 60 = .ok (.ifCond .ge 7, 3) := by decide +kernel
theorem dX11_holds_63 : decode cX11_holds 63 = .ok (.iconst 1, 1) := by decide +kernel
theorem dX11_holds_64 : decode cX11_holds 64 = .ok (.goto 48, 3) := by decide +kernel
theorem dX11_holds_67 : decode cX11_holds 67 = .ok (.iconst 0, 1) := by decide +kernel
theorem dX11_holds_68 : decode cX11_holds 68 = .ok (.goto 44, 3) := by decide +kernel
theorem dX11_holds_71 : decode cX11_holds 71 = .ok (.aload_n 0, 1) := by decide +kernel
theorem dX11_holds_72 : decode cX11_holds 72 = .ok (.getfield 96, 3) := by decide +kernel
theorem dX11_holds_75 : decode cX11_holds 75 = .ok (.iload 4, 2) := by decide +kernel
theorem dX11_holds_77 : decode cX11_holds 77 = .ok (.iaload, 1) := by decide +kernel
theorem dX11_holds_78 : decode cX11_holds 78 = .ok (.bipush 62, 2) := by decide +kernel
theorem dX11_holds_80 : decode cX11_holds 80 = .ok (.if_icmp .ne 19, 3) := by decide +kernel
theorem dX11_holds_83 : decode cX11_holds 83 = .ok (.lload 5, 2) := by decide +kernel
theorem dX11_holds_85 : decode cX11_holds 85 = .ok (.lload 7, 2) := by decide +kernel
theorem dX11_holds_87 : decode cX11_holds 87 = .ok (.lcmp, 1) := by decide +kernel
theorem dX11_holds_88 : decode cX11_holds 88 = .ok (.ifCond .le 7, 3) := by decide +kernel
theorem dX11_holds_91 : decode cX11_holds 91 = .ok (.iconst 1, 1) := by decide +kernel
theorem dX11_holds_92 : decode cX11_holds 92 = .ok (.goto 20, 3) := by decide +kernel
theorem dX11_holds_95 : decode cX11_holds 95 = .ok (.iconst 0, 1) := by decide +kernel
theorem dX11_holds_96 : decode cX11_holds 96 = .ok (.goto 16, 3) := by decide +kernel
theorem dX11_holds_99 : decode cX11_holds 99 = .ok (.lload 5, 2) := by decide +kernel
theorem dX11_holds_101 : decode cX11_holds 101 = .ok (.lload 7, 2) := by decide +kernel
theorem dX11_holds_103 : decode cX11_holds 103 = .ok (.lcmp, 1) := by decide +kernel
theorem dX11_holds_104 : decode cX11_holds 104 = .ok (.ifCond .ne 7, 3) := by decide +kernel
theorem dX11_holds_107 : decode cX11_holds 107 = .ok (.iconst 1, 1) := by decide +kernel
theorem dX11_holds_108 : decode cX11_holds 108 = .ok (.goto 4, 3) := by decide +kernel
theorem dX11_holds_111 : decode cX11_holds 111 = .ok (.iconst 0, 1) := by decide +kernel
theorem dX11_holds_112 : decode cX11_holds 112 = .ok (.istore 9, 2) := by decide +kernel
theorem dX11_holds_114 : decode cX11_holds 114 = .ok (.iload 9, 2) := by decide +kernel
theorem dX11_holds_116 : decode cX11_holds 116 = .ok (.ifCond .ne 5, 3) := by decide +kernel
theorem dX11_holds_119 : decode cX11_holds 119 = .ok (.iconst 0, 1) := by decide +kernel
theorem dX11_holds_120 : decode cX11_holds 120 = .ok (.ireturn, 1) := by decide +kernel
theorem dX11_holds_121 : decode cX11_holds 121 = .ok (.iinc 3 1, 3) := by decide +kernel
theorem dX11_holds_124 : decode cX11_holds 124 = .ok (.goto (-122), 3) := by decide +kernel
theorem dX11_holds_127 : decode cX11_holds 127 = .ok (.iconst 1, 1) := by decide +kernel
theorem dX11_holds_128 : decode cX11_holds 128 = .ok (.ireturn, 1) := by decide +kernel
set_option maxRecDepth 20000 in
theorem ggX11_tested_X11_ones : GoodIn wsX11_tested wsX11_ones := goodIn_r _ [11] (by decide +kernel) (by decide +kernel)
set_option maxRecDepth 20000 in
theorem gX11_tested_X11_ones : GoodIn wsX11_tested (va_wsS RX11 275 yX11_ones wsX11_ones) := goodIn_app (goodIn_of _ (by decide +kernel)) ggX11_tested_X11_ones
theorem dX11_tested_0 : decode cX11_tested 0 = .ok (.iload_n 2, 1) := by decide +kernel
theorem dX11_tested_1 : decode cX11_tested 1 = .ok (.tableswitch 103 2 6 #[35, 43, 51, 62, 67], 35) := by decide +kernel
theorem dX11_tested_36 : decode cX11_tested 36 = .ok (.aload_n 0, 1) := by decide +kernel
theorem dX11_tested_37 : decode cX11_tested 37 = .ok (.getfield 45, 3) := by decide +kernel
theorem dX11_tested_40 : decode cX11_tested 40 = .ok (.iload_n 1, 1) := by decide +kernel
theorem dX11_tested_41 : decode cX11_tested 41 = .ok (.iaload, 1) := by decide +kernel
theorem dX11_tested_42 : decode cX11_tested 42 = .ok (.i2l, 1) := by decide +kernel
theorem dX11_tested_43 : decode cX11_tested 43 = .ok (.lreturn, 1) := by decide +kernel
theorem dX11_tested_44 : decode cX11_tested 44 = .ok (.aload_n 0, 1) := by decide +kernel
theorem dX11_tested_45 : decode cX11_tested 45 = .ok (.getfield 48, 3) := by decide +kernel
theorem dX11_tested_48 : decode cX11_tested 48 = .ok (.iload_n 1, 1) := by decide +kernel
theorem dX11_tested_49 : decode cX11_tested 49 = .ok (.iaload, 1) := by decide +kernel
theorem dX11_tested_50 : decode cX11_tested 50 = .ok (.i2l, 1) := by decide +kernel
theorem dX11_tested_51 : decode cX11_tested 51 = .ok (.lreturn, 1) := by decide +kernel
theorem dX11_tested_52 : decode cX11_tested 52 = .ok (.aload_n 0, 1) := by decide +kernel
theorem dX11_tested_53 : decode cX11_tested 53 = .ok (.getfield 75, 3) := by decide +kernel
theorem dX11_tested_56 : decode cX11_tested 56 = .ok (.iload_n 1, 1) := by decide +kernel
theorem dX11_tested_57 : decode cX11_tested 57 = .ok (.iaload, 1) := by decide +kernel
theorem dX11_tested_58 : decode cX11_tested 58 = .ok (.invokestatic 275, 3) := by decide +kernel
theorem dX11_tested_61 : decode cX11_tested 61 = .ok (.i2l, 1) := by decide +kernel
theorem dX11_tested_62 : decode cX11_tested 62 = .ok (.lreturn, 1) := by decide +kernel
theorem dX11_tested_63 : decode cX11_tested 63 = .ok (.aload_n 0, 1) := by decide +kernel
theorem dX11_tested_64 : decode cX11_tested 64 = .ok (.getfield 319, 3) := by decide +kernel
theorem dX11_tested_67 : decode cX11_tested 67 = .ok (.lreturn, 1) := by decide +kernel
theorem dX11_tested_68 : decode cX11_tested 68 = .ok (.aload_n 0, 1) := by decide +kernel
theorem dX11_tested_69 : decode cX11_tested 69 = .ok (.getfield 54, 3) := by decide +kernel
theorem dX11_tested_72 : decode cX11_tested 72 = .ok (.iload_n 1, 1) := by decide +kernel
theorem dX11_tested_73 : decode cX11_tested 73 = .ok (.iaload, 1) := by decide +kernel
theorem dX11_tested_74 : decode cX11_tested 74 = .ok (.ifCond .le 28, 3) := by decide +kernel
theorem dX11_tested_77 : decode cX11_tested 77 = .ok (.aload_n 0, 1) := by decide +kernel
theorem dX11_tested_78 : decode cX11_tested 78 = .ok (.getfield 75, 3) := by decide +kernel
theorem dX11_tested_81 : decode cX11_tested 81 = .ok (.iload_n 1, 1) := by decide +kernel
theorem dX11_tested_82 : decode cX11_tested 82 = .ok (.iaload, 1) := by decide +kernel
theorem dX11_tested_83 : decode cX11_tested 83 = .ok (.aload_n 0, 1) := by decide +kernel
theorem dX11_tested_84 : decode cX11_tested 84 = .ok (.getfield 57, 3) := by decide +kernel
theorem dX11_tested_87 : decode cX11_tested 87 = .ok (.bipush 6, 2) := by decide +kernel
theorem dX11_tested_89 : decode cX11_tested 89 = .ok (.iload_n 1, 1) := by decide +kernel
theorem dX11_tested_90 : decode cX11_tested 90 = .ok (.imul, 1) := by decide +kernel
theorem dX11_tested_91 : decode cX11_tested 91 = .ok (.iaload, 1) := by decide +kernel
theorem dX11_tested_92 : decode cX11_tested 92 = .ok (.ishr, 1) := by decide +kernel
theorem dX11_tested_93 : decode cX11_tested 93 = .ok (.iconst 1, 1) := by decide +kernel
theorem dX11_tested_94 : decode cX11_tested 94 = .ok (.iand, 1) := by decide +kernel
theorem dX11_tested_95 : decode cX11_tested 95 = .ok (.ifCond .eq 7, 3) := by decide +kernel
theorem dX11_tested_98 : decode cX11_tested 98 = .ok (.lconst 1, 1) := by decide +kernel
theorem dX11_tested_99 : decode cX11_tested 99 = .ok (.goto 4, 3) := by decide +kernel
theorem dX11_tested_102 : decode cX11_tested 102 = .ok (.lconst 0, 1) := by decide +kernel
theorem dX11_tested_103 : decode cX11_tested 103 = .ok (.lreturn, 1) := by decide +kernel
theorem dX11_tested_104 : decode cX11_tested 104 = .ok (.aload_n 0, 1) := by decide +kernel
theorem dX11_tested_105 : decode cX11_tested 105 = .ok (.getfield 60, 3) := by decide +kernel
theorem dX11_tested_108 : decode cX11_tested 108 = .ok (.iconst 0, 1) := by decide +kernel
theorem dX11_tested_109 : decode cX11_tested 109 = .ok (.iaload, 1) := by decide +kernel
theorem dX11_tested_110 : decode cX11_tested 110 = .ok (.iconst (-1), 1) := by decide +kernel
theorem dX11_tested_111 : decode cX11_tested 111 = .ok (.if_icmp .ne 7, 3) := by decide +kernel
theorem dX11_tested_114 : decode cX11_tested 114 = .ok (.lconst 0, 1) := by decide +kernel
theorem dX11_tested_115 : decode cX11_tested 115 = .ok (.goto 10, 3) := by decide +kernel
theorem dX11_tested_118 : decode cX11_tested 118 = .ok (.aload_n 0, 1) := by decide +kernel
theorem dX11_tested_119 : decode cX11_tested 119 = .ok (.getfield 60, 3) := by decide +kernel
theorem dX11_tested_122 : decode cX11_tested 122 = .ok (.iconst 0, 1) := by decide +kernel
theorem dX11_tested_123 : decode cX11_tested 123 = .ok (.iaload, 1) := by decide +kernel
theorem dX11_tested_124 : decode cX11_tested 124 = .ok (.i2l, 1) := by decide +kernel
theorem dX11_tested_125 : decode cX11_tested 125 = .ok (.lreturn, 1) := by decide +kernel
set_option maxRecDepth 20000 in
theorem ggX11_bills_X11_holds : GoodIn wsX11_bills wsX11_holds := goodIn_r _ [11, 12, 13, 14, 15, 16, 17, 18, 10, 19, 20, 21, 22, 4, 23, 24, 25, 26, 27, 28, 29, 30, 31, 32, 33, 34, 35, 36, 37, 38, 39, 40, 41, 42, 43, 44, 45, 46, 47, 48, 49, 50, 51, 52, 53, 54, 55, 56, 57, 58, 59, 60, 61, 62, 63, 64, 65, 66, 67, 68, 69, 70, 71, 72, 73, 74, 75, 76, 77, 78, 79, 80, 81, 82, 83, 84, 85, 86, 87] (by decide +kernel) (by decide +kernel)
set_option maxRecDepth 20000 in
theorem gX11_bills_X11_holds : GoodIn wsX11_bills (wsV RX11 331 RX11 yX11_holds wsX11_holds) := goodIn_app (goodIn_of _ (by decide +kernel)) ggX11_bills_X11_holds
theorem dX11_bills_0 : decode cX11_bills 0 = .ok (.aload_n 0, 1) := by decide +kernel
theorem dX11_bills_1 : decode cX11_bills 1 = .ok (.getfield 323, 3) := by decide +kernel
theorem dX11_bills_4 : decode cX11_bills 4 = .ok (.ifCond .ne 12, 3) := by decide +kernel
theorem dX11_bills_7 : decode cX11_bills 7 = .ok (.aload_n 0, 1) := by decide +kernel
theorem dX11_bills_8 : decode cX11_bills 8 = .ok (.iload_n 1, 1) := by decide +kernel
theorem dX11_bills_9 : decode cX11_bills 9 = .ok (.iload_n 2, 1) := by decide +kernel
theorem dX11_bills_10 : decode cX11_bills 10 = .ok (.invokevirtual 331, 3) := by decide +kernel
theorem dX11_bills_13 : decode cX11_bills 13 = .ok (.ifCond .ne 4, 3) := by decide +kernel
theorem dX11_bills_16 : decode cX11_bills 16 = .ok (.return_, 1) := by decide +kernel
theorem dX11_bills_17 : decode cX11_bills 17 = .ok (.aload_n 0, 1) := by decide +kernel
theorem dX11_bills_18 : decode cX11_bills 18 = .ok (.getfield 105, 3) := by decide +kernel
theorem dX11_bills_21 : decode cX11_bills 21 = .ok (.iload_n 2, 1) := by decide +kernel
theorem dX11_bills_22 : decode cX11_bills 22 = .ok (.iaload, 1) := by decide +kernel
theorem dX11_bills_23 : decode cX11_bills 23 = .ok (.i2l, 1) := by decide +kernel
theorem dX11_bills_24 : decode cX11_bills 24 = .ok (.lstore_n 3, 1) := by decide +kernel
theorem dX11_bills_25 : decode cX11_bills 25 = .ok (.aload_n 0, 1) := by decide +kernel
theorem dX11_bills_26 : decode cX11_bills 26 = .ok (.getfield 102, 3) := by decide +kernel
theorem dX11_bills_29 : decode cX11_bills 29 = .ok (.iload_n 2, 1) := by decide +kernel
theorem dX11_bills_30 : decode cX11_bills 30 = .ok (.iaload, 1) := by decide +kernel
theorem dX11_bills_31 : decode cX11_bills 31 = .ok (.tableswitch 153 8 13 #[37, 50, 76, 97, 121, 145], 37) := by decide +kernel
theorem dX11_bills_68 : decode cX11_bills 68 = .ok (.aload_n 0, 1) := by decide +kernel
theorem dX11_bills_69 : decode cX11_bills 69 = .ok (.dup, 1) := by decide +kernel
theorem dX11_bills_70 : decode cX11_bills 70 = .ok (.getfield 319, 3) := by decide +kernel
theorem dX11_bills_73 : decode cX11_bills 73 = .ok (.lload_n 3, 1) := by decide +kernel
theorem dX11_bills_74 : decode cX11_bills 74 = .ok (.ladd, 1) := by decide +kernel
theorem dX11_bills_75 : decode cX11_bills 75 = .ok (.putfield 319, 3) := by decide +kernel
theorem dX11_bills_78 : decode cX11_bills 78 = .ok (.goto 111, 3) := by decide +kernel
theorem dX11_bills_81 : decode cX11_bills 81 = .ok (.aload_n 0, 1) := by decide +kernel
theorem dX11_bills_82 : decode cX11_bills 82 = .ok (.aload_n 0, 1) := by decide +kernel
theorem dX11_bills_83 : decode cX11_bills 83 = .ok (.getfield 319, 3) := by decide +kernel
theorem dX11_bills_86 : decode cX11_bills 86 = .ok (.lload_n 3, 1) := by decide +kernel
theorem dX11_bills_87 : decode cX11_bills 87 = .ok (.lcmp, 1) := by decide +kernel
theorem dX11_bills_88 : decode cX11_bills 88 = .ok (.ifCond .le 12, 3) := by decide +kernel
theorem dX11_bills_91 : decode cX11_bills 91 = .ok (.aload_n 0, 1) := by decide +kernel
theorem dX11_bills_92 : decode cX11_bills 92 = .ok (.getfield 319, 3) := by decide +kernel
theorem dX11_bills_95 : decode cX11_bills 95 = .ok (.lload_n 3, 1) := by decide +kernel
theorem dX11_bills_96 : decode cX11_bills 96 = .ok (.lsub, 1) := by decide +kernel
theorem dX11_bills_97 : decode cX11_bills 97 = .ok (.goto 4, 3) := by decide +kernel
theorem dX11_bills_100 : decode cX11_bills 100 = .ok (.lconst 0, 1) := by decide +kernel
theorem dX11_bills_101 : decode cX11_bills 101 = .ok (.putfield 319, 3) := by decide +kernel
theorem dX11_bills_104 : decode cX11_bills 104 = .ok (.goto 85, 3) := by decide +kernel
theorem dX11_bills_107 : decode cX11_bills 107 = .ok (.aload_n 0, 1) := by decide +kernel
theorem dX11_bills_108 : decode cX11_bills 108 = .ok (.aload_n 0, 1) := by decide +kernel
theorem dX11_bills_109 : decode cX11_bills 109 = .ok (.getfield 319, 3) := by decide +kernel
theorem dX11_bills_112 : decode cX11_bills 112 = .ok (.lload_n 3, 1) := by decide +kernel
theorem dX11_bills_113 : decode cX11_bills 113 = .ok (.lmul, 1) := by decide +kernel
theorem dX11_bills_114 : decode cX11_bills 114 = .ok (.aload_n 0, 1) := by decide +kernel
theorem dX11_bills_115 : decode cX11_bills 115 = .ok (.getfield 108, 3) := by decide +kernel
theorem dX11_bills_118 : decode cX11_bills 118 = .ok (.iload_n 2, 1) := by decide +kernel
theorem dX11_bills_119 : decode cX11_bills 119 = .ok (.iaload, 1) := by decide +kernel
theorem dX11_bills_120 : decode cX11_bills 120 = .ok (.i2l, 1) := by decide +kernel
theorem dX11_bills_121 : decode cX11_bills 121 = .ok (.ldiv, 1) := by decide +kernel
theorem dX11_bills_122 : decode cX11_bills 122 = .ok (.putfield 319, 3) := by decide +kernel
theorem dX11_bills_125 : decode cX11_bills 125 = .ok (.goto 64, 3) := by decide +kernel
theorem dX11_bills_128 : decode cX11_bills 128 = .ok (.aload_n 0, 1) := by decide +kernel
theorem dX11_bills_129 : decode cX11_bills 129 = .ok (.aload_n 0, 1) := by decide +kernel
theorem dX11_bills_130 : decode cX11_bills 130 = .ok (.getfield 319, 3) := by decide +kernel
theorem dX11_bills_133 : decode cX11_bills 133 = .ok (.lload_n 3, 1) := by decide +kernel
theorem dX11_bills_134 : decode cX11_bills 134 = .ok (.lcmp, 1) := by decide +kernel
theorem dX11_bills_135 : decode cX11_bills 135 = .ok (.ifCond .ge 7, 3) := by decide +kernel
theorem dX11_bills_138 : decode cX11_bills 138 = .ok (.lload_n 3, 1) := by decide +kernel
theorem dX11_bills_139 : decode cX11_bills 139 = .ok (.goto 7, 3) := by decide +kernel
theorem dX11_bills_142 : decode cX11_bills 142 = .ok (.aload_n 0, 1) := by decide +kernel
theorem dX11_bills_143 : decode cX11_bills 143 = .ok (.getfield 319, 3) := by decide +kernel
theorem dX11_bills_146 : decode cX11_bills 146 = .ok (.putfield 319, 3) := by decide +kernel
theorem dX11_bills_149 : decode cX11_bills 149 = .ok (.goto 40, 3) := by decide +kernel
theorem dX11_bills_152 : decode cX11_bills 152 = .ok (.aload_n 0, 1) := by decide +kernel
theorem dX11_bills_153 : decode cX11_bills 153 = .ok (.aload_n 0, 1) := by decide +kernel
theorem dX11_bills_154 : decode cX11_bills 154 = .ok (.getfield 319, 3) := by decide +kernel
theorem dX11_bills_157 : decode cX11_bills 157 = .ok (.lload_n 3, 1) := by decide +kernel
theorem dX11_bills_158 : decode cX11_bills 158 = .ok (.lcmp, 1) := by decide +kernel
theorem dX11_bills_159 : decode cX11_bills 159 = .ok (.ifCond .le 7, 3) := by decide +kernel
theorem dX11_bills_162 : decode cX11_bills 162 = .ok (.lload_n 3, 1) := by decide +kernel
theorem dX11_bills_163 : decode cX11_bills 163 = .ok (.goto 7, 3) := by decide +kernel
theorem dX11_bills_166 : decode cX11_bills 166 = .ok (.aload_n 0, 1) := by decide +kernel
theorem dX11_bills_167 : decode cX11_bills 167 = .ok (.getfield 319, 3) := by decide +kernel
theorem dX11_bills_170 : decode cX11_bills 170 = .ok (.putfield 319, 3) := by decide +kernel
theorem dX11_bills_173 : decode cX11_bills 173 = .ok (.goto 16, 3) := by decide +kernel
theorem dX11_bills_176 : decode cX11_bills 176 = .ok (.aload_n 0, 1) := by decide +kernel
theorem dX11_bills_177 : decode cX11_bills 177 = .ok (.lconst 0, 1) := by decide +kernel
theorem dX11_bills_178 : decode cX11_bills 178 = .ok (.putfield 319, 3) := by decide +kernel
theorem dX11_bills_181 : decode cX11_bills 181 = .ok (.goto 8, 3) := by decide +kernel
theorem dX11_bills_184 : decode cX11_bills 184 = .ok (.aload_n 0, 1) := by decide +kernel
theorem dX11_bills_185 : decode cX11_bills 185 = .ok (.iconst 1, 1) := by decide +kernel
theorem dX11_bills_186 : decode cX11_bills 186 = .ok (.putfield 323, 3) := by decide +kernel
theorem dX11_bills_189 : decode cX11_bills 189 = .ok (.aload_n 0, 1) := by decide +kernel
theorem dX11_bills_190 : decode cX11_bills 190 = .ok (.aload_n 0, 1) := by decide +kernel
theorem dX11_bills_191 : decode cX11_bills 191 = .ok (.getfield 319, 3) := by decide +kernel
theorem dX11_bills_194 : decode cX11_bills 194 = .ok (.ldc2_w 334, 3) := by decide +kernel
theorem dX11_bills_197 : decode cX11_bills 197 = .ok (.lcmp, 1) := by decide +kernel
theorem dX11_bills_198 : decode cX11_bills 198 = .ok (.ifCond .le 9, 3) := by decide +kernel
theorem dX11_bills_201 : decode cX11_bills 201 = .ok (.ldc2_w 334, 3) := by decide +kernel
theorem dX11_bills_204 : decode cX11_bills 204 = .ok (.goto 7, 3) := by decide +kernel
theorem dX11_bills_207 : decode cX11_bills 207 = .ok (.aload_n 0, 1) := by decide +kernel
theorem dX11_bills_208 : decode cX11_bills 208 = .ok (.getfield 319, 3) := by decide +kernel
theorem dX11_bills_211 : decode cX11_bills 211 = .ok (.putfield 319, 3) := by decide +kernel
theorem dX11_bills_214 : decode cX11_bills 214 = .ok (.return_, 1) := by decide +kernel
set_option maxRecDepth 20000 in
theorem ggX11_bill_X11_isPupil : GoodIn wsX11_bill wsX11_isPupil := goodIn_r _ [8, 9, 10, 11, 7, 12, 49, 50, 51, 52, 53, 54, 55, 56, 57, 58, 59, 60, 61, 62, 63, 64, 65, 66, 67, 68, 69, 70, 71, 72, 73, 74, 75, 76, 77, 78, 79, 80, 81, 82, 83, 84, 85, 86, 87, 88, 89, 90, 91, 92, 93, 94, 95, 96, 97, 98, 99, 100, 101, 102, 103, 104, 105, 106, 107] (by decide +kernel) (by decide +kernel)
set_option maxRecDepth 20000 in
theorem gX11_bill_X11_isPupil : GoodIn wsX11_bill (wsV RX11 262 RX11 yX11_isPupil wsX11_isPupil) := goodIn_app (goodIn_of _ (by decide +kernel)) ggX11_bill_X11_isPupil
set_option maxRecDepth 20000 in
theorem ggX11_bill_X11_beginBill : GoodIn wsX11_bill wsX11_beginBill := goodIn_r _ [16, 3, 17, 18, 19, 20, 49, 50, 51, 52, 53, 54, 55, 56, 57, 58, 59, 60, 61, 62, 63, 64, 65, 66, 67, 68, 69, 70, 71, 72, 73, 74, 75, 76, 77, 78, 79, 80, 81, 82, 83, 84, 85, 86, 87, 88, 89, 90, 91, 92, 93, 94, 95, 96, 97, 98, 99, 100, 101, 102, 103, 104, 105, 106, 107] (by decide +kernel) (by decide +kernel)
set_option maxRecDepth 20000 in
theorem gX11_bill_X11_beginBill : GoodIn wsX11_bill (wsV RX11 336 RX11 yX11_beginBill wsX11_beginBill) := goodIn_app (goodIn_of _ (by decide +kernel)) ggX11_bill_X11_beginBill
set_option maxRecDepth 20000 in
theorem ggX11_bill_X11_bills : GoodIn wsX11_bill wsX11_bills := goodIn_r _ [24, 17, 25, 26, 3, 27, 28, 29, 30, 31, 7, 32, 33, 34, 35, 36, 37, 38, 39, 40, 41, 42, 19, 43, 44, 45, 46, 47, 48, 49, 50, 51, 52, 53, 54, 55, 56, 57, 58, 59, 60, 61, 62, 63, 64, 65, 66, 67, 68, 69, 70, 71, 72, 73, 74, 75, 76, 77, 78, 79, 80, 81, 82, 83, 84, 85, 86, 87, 88, 89, 90, 91, 92, 93, 94, 95, 96, 97, 98, 99, 100, 101, 102, 103, 104, 105, 106, 107] (by decide +kernel) (by decide +kernel)
set_option maxRecDepth 20000 in
theorem gX11_bill_X11_bills : GoodIn wsX11_bill (wsV RX11 339 RX11 yX11_bills wsX11_bills) := goodIn_app (goodIn_of _ (by decide +kernel)) ggX11_bill_X11_bills
theorem dX11_bill_0 : decode cX11_bill 0 = .ok (.aload_n 0, 1) := by decide +kernel
theorem dX11_bill_1 : decode cX11_bill 1 = .ok (.iconst 0, 1) := by decide +kernel
theorem dX11_bill_2 : decode cX11_bill 2 = .ok (.putfield 179, 3) := by decide +kernel
theorem dX11_bill_5 : decode cX11_bill 5 = .ok (.aload_n 0, 1) := by decide +kernel
theorem dX11_bill_6 : decode cX11_bill 6 = .ok (.iload_n 1, 1) := by decide +kernel
theorem dX11_bill_7 : decode cX11_bill 7 = .ok (.invokevirtual 262, 3) := by decide +kernel
theorem dX11_bill_10 : decode cX11_bill 10 = .ok (.ifCond .ne 5, 3) := by decide +kernel
theorem dX11_bill_13 : decode cX11_bill 13 = .ok (.iconst (-1), 1) := by decide +kernel
theorem dX11_bill_14 : decode cX11_bill 14 = .ok (.ireturn, 1) := by decide +kernel
theorem dX11_bill_15 : decode cX11_bill 15 = .ok (.aload_n 0, 1) := by decide +kernel
theorem dX11_bill_16 : decode cX11_bill 16 = .ok (.iload_n 1, 1) := by decide +kernel
theorem dX11_bill_17 : decode cX11_bill 17 = .ok (.invokevirtual 336, 3) := by decide +kernel
theorem dX11_bill_20 : decode cX11_bill 20 = .ok (.iconst 0, 1) := by decide +kernel
theorem dX11_bill_21 : decode cX11_bill 21 = .ok (.istore_n 2, 1) := by decide +kernel
theorem dX11_bill_22 : decode cX11_bill 22 = .ok (.iload_n 2, 1) := by decide +kernel
theorem dX11_bill_23 : decode cX11_bill 23 = .ok (.aload_n 0, 1) := by decide +kernel
theorem dX11_bill_24 : decode cX11_bill 24 = .ok (.getfield 87, 3) := by decide +kernel
theorem dX11_bill_27 : decode cX11_bill 27 = .ok (.iconst 0, 1) := by decide +kernel
theorem dX11_bill_28 : decode cX11_bill 28 = .ok (.iaload, 1) := by decide +kernel
theorem dX11_bill_29 : decode cX11_bill 29 = .ok (.if_icmp .ge 15, 3) := by decide +kernel
theorem dX11_bill_32 : decode cX11_bill 32 = .ok (.aload_n 0, 1) := by decide +kernel
theorem dX11_bill_33 : decode cX11_bill 33 = .ok (.iload_n 1, 1) := by decide +kernel
theorem dX11_bill_34 : decode cX11_bill 34 = .ok (.iload_n 2, 1) := by decide +kernel
theorem dX11_bill_35 : decode cX11_bill 35 = .ok (.invokevirtual 339, 3) := by decide +kernel
theorem dX11_bill_38 : decode cX11_bill 38 = .ok (.iinc 2 1, 3) := by decide +kernel
theorem dX11_bill_41 : decode cX11_bill 41 = .ok (.goto (-19), 3) := by decide +kernel
theorem dX11_bill_44 : decode cX11_bill 44 = .ok (.aload_n 0, 1) := by decide +kernel
theorem dX11_bill_45 : decode cX11_bill 45 = .ok (.getfield 319, 3) := by decide +kernel
theorem dX11_bill_48 : decode cX11_bill 48 = .ok (.l2i, 1) := by decide +kernel
theorem dX11_bill_49 : decode cX11_bill 49 = .ok (.ireturn, 1) := by decide +kernel
set_option maxRecDepth 20000 in
theorem ggX11_line_X11_isPupil : GoodIn wsX11_line wsX11_isPupil := goodIn_r _ [9, 10, 11, 12, 8, 13, 50, 51, 52, 53, 54, 55, 56, 57, 58, 59, 60, 61, 62, 63, 64, 65, 66, 67, 68, 69, 70, 71, 72, 73, 74, 75, 76, 77, 78, 79, 80, 81, 82, 83, 84, 85, 86, 87, 88, 89, 90, 91, 92, 93, 94, 95, 96, 97, 98, 99, 100, 101, 102, 103, 104, 105, 106, 107, 108] (by decide +kernel) (by decide +kernel)
set_option maxRecDepth 20000 in
theorem gX11_line_X11_isPupil : GoodIn wsX11_line (wsV RX11 262 RX11 yX11_isPupil wsX11_isPupil) := goodIn_app (goodIn_of _ (by decide +kernel)) ggX11_line_X11_isPupil
set_option maxRecDepth 20000 in
theorem ggX11_line_X11_in : GoodIn wsX11_line wsX11_in := goodIn_r _ [13] (by decide +kernel) (by decide +kernel)
set_option maxRecDepth 20000 in
theorem gX11_line_X11_in : GoodIn wsX11_line (va_wsS RX11 193 yX11_in wsX11_in) := goodIn_app (goodIn_of _ (by decide +kernel)) ggX11_line_X11_in
set_option maxRecDepth 20000 in
theorem ggX11_line_X11_beginBill : GoodIn wsX11_line wsX11_beginBill := goodIn_r _ [17, 4, 18, 19, 20, 21, 50, 51, 52, 53, 54, 55, 56, 57, 58, 59, 60, 61, 62, 63, 64, 65, 66, 67, 68, 69, 70, 71, 72, 73, 74, 75, 76, 77, 78, 79, 80, 81, 82, 83, 84, 85, 86, 87, 88, 89, 90, 91, 92, 93, 94, 95, 96, 97, 98, 99, 100, 101, 102, 103, 104, 105, 106, 107, 108] (by decide +kernel) (by decide +kernel)
set_option maxRecDepth 20000 in
theorem gX11_line_X11_beginBill : GoodIn wsX11_line (wsV RX11 336 RX11 yX11_beginBill wsX11_beginBill) := goodIn_app (goodIn_of _ (by decide +kernel)) ggX11_line_X11_beginBill
set_option maxRecDepth 20000 in
theorem ggX11_line_X11_bills : GoodIn wsX11_line wsX11_bills := goodIn_r _ [25, 18, 26, 27, 4, 28, 29, 30, 31, 32, 8, 33, 34, 35, 36, 37, 38, 39, 40, 41, 42, 43, 20, 44, 45, 46, 47, 48, 49, 50, 51, 52, 53, 54, 55, 56, 57, 58, 59, 60, 61, 62, 63, 64, 65, 66, 67, 68, 69, 70, 71, 72, 73, 74, 75, 76, 77, 78, 79, 80, 81, 82, 83, 84, 85, 86, 87, 88, 89, 90, 91, 92, 93, 94, 95, 96, 97, 98, 99, 100, 101, 102, 103, 104, 105, 106, 107, 108] (by decide +kernel) (by decide +kernel)
set_option maxRecDepth 20000 in
theorem gX11_line_X11_bills : GoodIn wsX11_line (wsV RX11 339 RX11 yX11_bills wsX11_bills) := goodIn_app (goodIn_of _ (by decide +kernel)) ggX11_line_X11_bills
theorem dX11_line_0 : decode cX11_line 0 = .ok (.aload_n 0, 1) := by decide +kernel
theorem dX11_line_1 : decode cX11_line 1 = .ok (.iconst 0, 1) := by decide +kernel
theorem dX11_line_2 : decode cX11_line 2 = .ok (.putfield 179, 3) := by decide +kernel
theorem dX11_line_5 : decode cX11_line 5 = .ok (.aload_n 0, 1) := by decide +kernel
theorem dX11_line_6 : decode cX11_line 6 = .ok (.iload_n 1, 1) := by decide +kernel
theorem dX11_line_7 : decode cX11_line 7 = .ok (.invokevirtual 262, 3) := by decide +kernel
theorem dX11_line_10 : decode cX11_line 10 = .ok (.ifCond .eq 19, 3) := by decide +kernel
theorem dX11_line_13 : decode cX11_line 13 = .ok (.iload_n 2, 1) := by decide +kernel
theorem dX11_line_14 : decode cX11_line 14 = .ok (.iconst 0, 1) := by decide +kernel
theorem dX11_line_15 : decode cX11_line 15 = .ok (.aload_n 0, 1) := by decide +kernel
theorem dX11_line_16 : decode cX11_line 16 = .ok (.getfield 87, 3) := by decide +kernel
theorem dX11_line_19 : decode cX11_line 19 = .ok (.iconst 0, 1) := by decide +kernel
theorem dX11_line_20 : decode cX11_line 20 = .ok (.iaload, 1) := by decide +kernel
theorem dX11_line_21 : decode cX11_line 21 = .ok (.iconst 1, 1) := by decide +kernel
theorem dX11_line_22 : decode cX11_line 22 = .ok (.isub, 1) := by decide +kernel
theorem dX11_line_23 : decode cX11_line 23 = .ok (.invokestatic 193, 3) := by decide +kernel
theorem dX11_line_26 : decode cX11_line 26 = .ok (.ifCond .ne 7, 3) := by decide +kernel
theorem dX11_line_29 : decode cX11_line 29 = .ok (.ldc_w 342, 3) := by decide +kernel
theorem dX11_line_32 : decode cX11_line 32 = .ok (.ireturn, 1) := by decide +kernel
theorem dX11_line_33 : decode cX11_line 33 = .ok (.aload_n 0, 1) := by decide +kernel
theorem dX11_line_34 : decode cX11_line 34 = .ok (.iload_n 1, 1) := by decide +kernel
theorem dX11_line_35 : decode cX11_line 35 = .ok (.invokevirtual 336, 3) := by decide +kernel
theorem dX11_line_38 : decode cX11_line 38 = .ok (.aload_n 0, 1) := by decide +kernel
theorem dX11_line_39 : decode cX11_line 39 = .ok (.getfield 319, 3) := by decide +kernel
theorem dX11_line_42 : decode cX11_line 42 = .ok (.lstore_n 3, 1) := by decide +kernel
theorem dX11_line_43 : decode cX11_line 43 = .ok (.iconst 0, 1) := by decide +kernel
theorem dX11_line_44 : decode cX11_line 44 = .ok (.istore 5, 2) := by decide +kernel
theorem dX11_line_46 : decode cX11_line 46 = .ok (.iload 5, 2) := by decide +kernel
theorem dX11_line_48 : decode cX11_line 48 = .ok (.iload_n 2, 1) := by decide +kernel
theorem dX11_line_49 : decode cX11_line 49 = .ok (.if_icmp .gt 21, 3) := by decide +kernel
theorem dX11_line_52 : decode cX11_line 52 = .ok (.aload_n 0, 1) := by decide +kernel
theorem dX11_line_53 : decode cX11_line 53 = .ok (.getfield 319, 3) := by decide +kernel
theorem dX11_line_56 : decode cX11_line 56 = .ok (.lstore_n 3, 1) := by decide +kernel
theorem dX11_line_57 : decode cX11_line 57 = .ok (.aload_n 0, 1) := by decide +kernel
theorem dX11_line_58 : decode cX11_line 58 = .ok (.iload_n 1, 1) := by decide +kernel
theorem dX11_line_59 : decode cX11_line 59 = .ok (.iload 5, 2) := by decide +kernel
theorem dX11_line_61 : decode cX11_line 61 = .ok (.invokevirtual 339, 3) := by decide +kernel
theorem dX11_line_64 : decode cX11_line 64 = .ok (.iinc 5 1, 3) := by decide +kernel
theorem dX11_line_67 : decode cX11_line 67 = .ok (.goto (-21), 3) := by decide +kernel
theorem dX11_line_70 : decode cX11_line 70 = .ok (.aload_n 0, 1) := by decide +kernel
theorem dX11_line_71 : decode cX11_line 71 = .ok (.getfield 319, 3) := by decide +kernel
theorem dX11_line_74 : decode cX11_line 74 = .ok (.lload_n 3, 1) := by decide +kernel
theorem dX11_line_75 : decode cX11_line 75 = .ok (.lsub, 1) := by decide +kernel
theorem dX11_line_76 : decode cX11_line 76 = .ok (.l2i, 1) := by decide +kernel
theorem dX11_line_77 : decode cX11_line 77 = .ok (.ireturn, 1) := by decide +kernel
set_option maxRecDepth 20000 in
theorem ggX11_count_X11_ones : GoodIn wsX11_count wsX11_ones := goodIn_r _ [13] (by decide +kernel) (by decide +kernel)
set_option maxRecDepth 20000 in
theorem gX11_count_X11_ones : GoodIn wsX11_count (va_wsS RX11 275 yX11_ones wsX11_ones) := goodIn_app (goodIn_of _ (by decide +kernel)) ggX11_count_X11_ones
set_option maxRecDepth 20000 in
theorem ggX11_count_X11_pointsOf : GoodIn wsX11_count wsX11_pointsOf := goodIn_r _ [17, 18, 6, 19, 20, 21, 22, 23, 24, 25, 26, 27, 28, 29, 30, 31, 32, 33, 34, 35, 36, 37, 38, 39, 40, 41, 42, 43, 44, 45, 46, 47, 48, 49, 50, 51, 52, 53, 54, 55, 56, 57, 58, 59, 60, 61, 62, 63, 64, 65, 66, 67, 68, 69, 70, 71, 72, 73, 74, 75, 76, 77, 78] (by decide +kernel) (by decide +kernel)
set_option maxRecDepth 20000 in
theorem gX11_count_X11_pointsOf : GoodIn wsX11_count (wsV RX11 316 RX11 yX11_pointsOf wsX11_pointsOf) := goodIn_app (goodIn_of _ (by decide +kernel)) ggX11_count_X11_pointsOf
theorem dX11_count_0 : decode cX11_count 0 = .ok (.aload_n 0, 1) := by decide +kernel
theorem dX11_count_1 : decode cX11_count 1 = .ok (.iconst 0, 1) := by decide +kernel
theorem dX11_count_2 : decode cX11_count 2 = .ok (.putfield 179, 3) := by decide +kernel
theorem dX11_count_5 : decode cX11_count 5 = .ok (.iconst 0, 1) := by decide +kernel
theorem dX11_count_6 : decode cX11_count 6 = .ok (.istore_n 2, 1) := by decide +kernel
theorem dX11_count_7 : decode cX11_count 7 = .ok (.iload_n 1, 1) := by decide +kernel
theorem dX11_count_8 : decode cX11_count 8 = .ok (.tableswitch 186 0 8 #[52, 59, 66, 73, 83, 115, 143, 150, 157], 52) := by decide +kernel
theorem dX11_count_60 : decode cX11_count 60 = .ok (.aload_n 0, 1) := by decide +kernel
theorem dX11_count_61 : decode cX11_count 61 = .ok (.getfield 17, 3) := by decide +kernel
theorem dX11_count_64 : decode cX11_count 64 = .ok (.iconst 0, 1) := by decide +kernel
theorem dX11_count_65 : decode cX11_count 65 = .ok (.iaload, 1) := by decide +kernel
theorem dX11_count_66 : decode cX11_count 66 = .ok (.ireturn, 1) := by decide +kernel
theorem dX11_count_67 : decode cX11_count 67 = .ok (.aload_n 0, 1) := by decide +kernel
theorem dX11_count_68 : decode cX11_count 68 = .ok (.getfield 24, 3) := by decide +kernel
theorem dX11_count_71 : decode cX11_count 71 = .ok (.iconst 0, 1) := by decide +kernel
theorem dX11_count_72 : decode cX11_count 72 = .ok (.iaload, 1) := by decide +kernel
theorem dX11_count_73 : decode cX11_count 73 = .ok (.ireturn, 1) := by decide +kernel
theorem dX11_count_74 : decode cX11_count 74 = .ok (.aload_n 0, 1) := by decide +kernel
theorem dX11_count_75 : decode cX11_count 75 = .ok (.getfield 42, 3) := by decide +kernel
theorem dX11_count_78 : decode cX11_count 78 = .ok (.iconst 0, 1) := by decide +kernel
theorem dX11_count_79 : decode cX11_count 79 = .ok (.iaload, 1) := by decide +kernel
theorem dX11_count_80 : decode cX11_count 80 = .ok (.ireturn, 1) := by decide +kernel
theorem dX11_count_81 : decode cX11_count 81 = .ok (.aload_n 0, 1) := by decide +kernel
theorem dX11_count_82 : decode cX11_count 82 = .ok (.getfield 63, 3) := by decide +kernel
theorem dX11_count_85 : decode cX11_count 85 = .ok (.iconst 0, 1) := by decide +kernel
theorem dX11_count_86 : decode cX11_count 86 = .ok (.iaload, 1) := by decide +kernel
theorem dX11_count_87 : decode cX11_count 87 = .ok (.invokestatic 275, 3) := by decide +kernel
theorem dX11_count_90 : decode cX11_count 90 = .ok (.ireturn, 1) := by decide +kernel
theorem dX11_count_91 : decode cX11_count 91 = .ok (.iconst 0, 1) := by decide +kernel
theorem dX11_count_92 : decode cX11_count 92 = .ok (.istore_n 3, 1) := by decide +kernel
theorem dX11_count_93 : decode cX11_count 93 = .ok (.iload_n 3, 1) := by decide +kernel
theorem dX11_count_94 : decode cX11_count 94 = .ok (.aload_n 0, 1) := by decide +kernel
theorem dX11_count_95 : decode cX11_count 95 = .ok (.getfield 42, 3) := by decide +kernel
theorem dX11_count_98 : decode cX11_count 98 = .ok (.iconst 0, 1) := by decide +kernel
theorem dX11_count_99 : decode cX11_count 99 = .ok (.iaload, 1) := by decide +kernel
theorem dX11_count_100 : decode cX11_count 100 = .ok (.if_icmp .ge 21, 3) := by decide +kernel
theorem dX11_count_103 : decode cX11_count 103 = .ok (.iload_n 2, 1) := by decide +kernel
theorem dX11_count_104 : decode cX11_count 104 = .ok (.aload_n 0, 1) := by decide +kernel
theorem dX11_count_105 : decode cX11_count 105 = .ok (.getfield 75, 3) := by decide +kernel
theorem dX11_count_108 : decode cX11_count 108 = .ok (.iload_n 3, 1) := by decide +kernel
theorem dX11_count_109 : decode cX11_count 109 = .ok (.iaload, 1) := by decide +kernel
theorem dX11_count_110 : decode cX11_count 110 = .ok (.invokestatic 275, 3) := by decide +kernel
theorem dX11_count_113 : decode cX11_count 113 = .ok (.iadd, 1) := by decide +kernel
theorem dX11_count_114 : decode cX11_count 114 = .ok (.istore_n 2, 1) := by decide +kernel
theorem dX11_count_115 : decode cX11_count 115 = .ok (.iinc 3 1, 3) := by decide +kernel
theorem dX11_count_118 : decode cX11_count 118 = .ok (.goto (-25), 3) := by decide +kernel
theorem dX11_count_121 : decode cX11_count 121 = .ok (.iload_n 2, 1) := by decide +kernel
theorem dX11_count_122 : decode cX11_count 122 = .ok (.ireturn, 1) := by decide +kernel
theorem dX11_count_123 : decode cX11_count 123 = .ok (.iconst 0, 1) := by decide +kernel
theorem dX11_count_124 : decode cX11_count 124 = .ok (.istore_n 3, 1) := by decide +kernel
theorem dX11_count_125 : decode cX11_count 125 = .ok (.iload_n 3, 1) := by decide +kernel
theorem dX11_count_126 : decode cX11_count 126 = .ok (.aload_n 0, 1) := by decide +kernel
theorem dX11_count_127 : decode cX11_count 127 = .ok (.getfield 42, 3) := by decide +kernel
theorem dX11_count_130 : decode cX11_count 130 = .ok (.iconst 0, 1) := by decide +kernel
theorem dX11_count_131 : decode cX11_count 131 = .ok (.iaload, 1) := by decide +kernel
theorem dX11_count_132 : decode cX11_count 132 = .ok (.if_icmp .ge 17, 3) := by decide +kernel
theorem dX11_count_135 : decode cX11_count 135 = .ok (.iload_n 2, 1) := by decide +kernel
theorem dX11_count_136 : decode cX11_count 136 = .ok (.aload_n 0, 1) := by decide +kernel
theorem dX11_count_137 : decode cX11_count 137 = .ok (.iload_n 3, 1) := by decide +kernel
theorem dX11_count_138 : decode cX11_count 138 = .ok (.invokevirtual 316, 3) := by decide +kernel
theorem dX11_count_141 : decode cX11_count 141 = .ok (.iadd, 1) := by decide +kernel
theorem dX11_count_142 : decode cX11_count 142 = .ok (.istore_n 2, 1) := by decide +kernel
theorem dX11_count_143 : decode cX11_count 143 = .ok (.iinc 3 1, 3) := by decide +kernel
theorem dX11_count_146 : decode cX11_count 146 = .ok (.goto (-21), 3) := by decide +kernel
theorem dX11_count_149 : decode cX11_count 149 = .ok (.iload_n 2, 1) := by decide +kernel
theorem dX11_count_150 : decode cX11_count 150 = .ok (.ireturn, 1) := by decide +kernel
theorem dX11_count_151 : decode cX11_count 151 = .ok (.aload_n 0, 1) := by decide +kernel
theorem dX11_count_152 : decode cX11_count 152 = .ok (.getfield 60, 3) := by decide +kernel
theorem dX11_count_155 : decode cX11_count 155 = .ok (.iconst 0, 1) := by decide +kernel
theorem dX11_count_156 : decode cX11_count 156 = .ok (.iaload, 1) := by decide +kernel
theorem dX11_count_157 : decode cX11_count 157 = .ok (.ireturn, 1) := by decide +kernel
theorem dX11_count_158 : decode cX11_count 158 = .ok (.aload_n 0, 1) := by decide +kernel
theorem dX11_count_159 : decode cX11_count 159 = .ok (.getfield 87, 3) := by decide +kernel
theorem dX11_count_162 : decode cX11_count 162 = .ok (.iconst 0, 1) := by decide +kernel
theorem dX11_count_163 : decode cX11_count 163 = .ok (.iaload, 1) := by decide +kernel
theorem dX11_count_164 : decode cX11_count 164 = .ok (.ireturn, 1) := by decide +kernel
theorem dX11_count_165 : decode cX11_count 165 = .ok (.iconst 0, 1) := by decide +kernel
theorem dX11_count_166 : decode cX11_count 166 = .ok (.istore_n 3, 1) := by decide +kernel
theorem dX11_count_167 : decode cX11_count 167 = .ok (.iload_n 3, 1) := by decide +kernel
theorem dX11_count_168 : decode cX11_count 168 = .ok (.aload_n 0, 1) := by decide +kernel
theorem dX11_count_169 : decode cX11_count 169 = .ok (.getfield 42, 3) := by decide +kernel
theorem dX11_count_172 : decode cX11_count 172 = .ok (.iconst 0, 1) := by decide +kernel
theorem dX11_count_173 : decode cX11_count 173 = .ok (.iaload, 1) := by decide +kernel
theorem dX11_count_174 : decode cX11_count 174 = .ok (.if_icmp .ge 18, 3) := by decide +kernel
theorem dX11_count_177 : decode cX11_count 177 = .ok (.iload_n 2, 1) := by decide +kernel
theorem dX11_count_178 : decode cX11_count 178 = .ok (.aload_n 0, 1) := by decide +kernel
theorem dX11_count_179 : decode cX11_count 179 = .ok (.getfield 78, 3) := by decide +kernel
theorem dX11_count_182 : decode cX11_count 182 = .ok (.iload_n 3, 1) := by decide +kernel
theorem dX11_count_183 : decode cX11_count 183 = .ok (.iaload, 1) := by decide +kernel
theorem dX11_count_184 : decode cX11_count 184 = .ok (.iadd, 1) := by decide +kernel
theorem dX11_count_185 : decode cX11_count 185 = .ok (.istore_n 2, 1) := by decide +kernel
theorem dX11_count_186 : decode cX11_count 186 = .ok (.iinc 3 1, 3) := by decide +kernel
theorem dX11_count_189 : decode cX11_count 189 = .ok (.goto (-22), 3) := by decide +kernel
theorem dX11_count_192 : decode cX11_count 192 = .ok (.iload_n 2, 1) := by decide +kernel
theorem dX11_count_193 : decode cX11_count 193 = .ok (.ireturn, 1) := by decide +kernel
theorem dX11_count_194 : decode cX11_count 194 = .ok (.iconst (-1), 1) := by decide +kernel
theorem dX11_count_195 : decode cX11_count 195 = .ok (.ireturn, 1) := by decide +kernel
set_option maxRecDepth 20000 in
theorem ggX11_waits_X11_isCourse : GoodIn wsX11_waits wsX11_isCourse := goodIn_r _ [7, 8, 9, 10, 6, 11, 38, 39, 40, 41, 42, 43, 44, 45, 46, 47, 48, 49, 50, 51, 52, 53, 54, 55, 56, 57, 58, 59, 60, 61, 62, 63, 64, 65, 66, 67, 68, 69, 70, 71, 72, 73, 74, 75, 76, 77, 78, 79, 80, 81, 82, 83, 84, 85, 86, 87, 88, 89, 90, 91, 92, 93, 94, 95, 96] (by decide +kernel) (by decide +kernel)
set_option maxRecDepth 20000 in
theorem gX11_waits_X11_isCourse : GoodIn wsX11_waits (wsV RX11 265 RX11 yX11_isCourse wsX11_isCourse) := goodIn_app (goodIn_of _ (by decide +kernel)) ggX11_waits_X11_isCourse
set_option maxRecDepth 20000 in
theorem ggX11_waits_X11_reason : GoodIn wsX11_waits wsX11_reason := goodIn_r _ [15, 16, 17, 18, 19, 20, 21, 22, 23, 6, 24, 25, 26, 27, 28, 29, 30, 8, 31, 32, 33, 34, 35, 36, 37, 2, 38, 39, 40, 41, 42, 43, 44, 45, 46, 47, 48, 49, 50, 51, 52, 53, 54, 55, 56, 57, 58, 59, 60, 61, 62, 63, 64, 65, 66, 67, 68, 69, 70, 71, 72, 73, 74, 75, 76, 77, 78, 79, 80, 81, 82, 83, 84, 85, 86, 87, 88, 89, 90, 91, 92, 93, 94, 95, 96] (by decide +kernel) (by decide +kernel)
set_option maxRecDepth 20000 in
theorem gX11_waits_X11_reason : GoodIn wsX11_waits (wsV RX11 307 RX11 yX11_reason wsX11_reason) := goodIn_app (goodIn_of _ (by decide +kernel)) ggX11_waits_X11_reason
theorem dX11_waits_0 : decode cX11_waits 0 = .ok (.aload_n 0, 1) := by decide +kernel
theorem dX11_waits_1 : decode cX11_waits 1 = .ok (.iconst 0, 1) := by decide +kernel
theorem dX11_waits_2 : decode cX11_waits 2 = .ok (.putfield 179, 3) := by decide +kernel
theorem dX11_waits_5 : decode cX11_waits 5 = .ok (.iload_n 2, 1) := by decide +kernel
theorem dX11_waits_6 : decode cX11_waits 6 = .ok (.istore_n 3, 1) := by decide +kernel
theorem dX11_waits_7 : decode cX11_waits 7 = .ok (.iconst 0, 1) := by decide +kernel
theorem dX11_waits_8 : decode cX11_waits 8 = .ok (.istore 4, 2) := by decide +kernel
theorem dX11_waits_10 : decode cX11_waits 10 = .ok (.iload 4, 2) := by decide +kernel
theorem dX11_waits_12 : decode cX11_waits 12 = .ok (.aload_n 0, 1) := by decide +kernel
theorem dX11_waits_13 : decode cX11_waits 13 = .ok (.getfield 42, 3) := by decide +kernel
theorem dX11_waits_16 : decode cX11_waits 16 = .ok (.iconst 0, 1) := by decide +kernel
theorem dX11_waits_17 : decode cX11_waits 17 = .ok (.iaload, 1) := by decide +kernel
theorem dX11_waits_18 : decode cX11_waits 18 = .ok (.if_icmp .ge 45, 3) := by decide +kernel
theorem dX11_waits_21 : decode cX11_waits 21 = .ok (.aload_n 0, 1) := by decide +kernel
theorem dX11_waits_22 : decode cX11_waits 22 = .ok (.iload_n 1, 1) := by decide +kernel
theorem dX11_waits_23 : decode cX11_waits 23 = .ok (.invokevirtual 265, 3) := by decide +kernel
theorem dX11_waits_26 : decode cX11_waits 26 = .ok (.ifCond .eq 37, 3) := by decide +kernel
theorem dX11_waits_29 : decode cX11_waits 29 = .ok (.iload_n 3, 1) := by decide +kernel
theorem dX11_waits_30 : decode cX11_waits 30 = .ok (.ifCond .lt 33, 3) := by decide +kernel
theorem dX11_waits_33 : decode cX11_waits 33 = .ok (.aload_n 0, 1) := by decide +kernel
theorem dX11_waits_34 : decode cX11_waits 34 = .ok (.iload 4, 2) := by decide +kernel
theorem dX11_waits_36 : decode cX11_waits 36 = .ok (.iload_n 1, 1) := by decide +kernel
theorem dX11_waits_37 : decode cX11_waits 37 = .ok (.invokevirtual 307, 3) := by decide +kernel
theorem dX11_waits_40 : decode cX11_waits 40 = .ok (.iconst 5, 1) := by decide +kernel
theorem dX11_waits_41 : decode cX11_waits 41 = .ok (.if_icmp .eq 6, 3) := by decide +kernel
theorem dX11_waits_44 : decode cX11_waits 44 = .ok (.goto 13, 3) := by decide +kernel
theorem dX11_waits_47 : decode cX11_waits 47 = .ok (.iload_n 3, 1) := by decide +kernel
theorem dX11_waits_48 : decode cX11_waits 48 = .ok (.ifCond .ne 6, 3) := by decide +kernel
theorem dX11_waits_51 : decode cX11_waits 51 = .ok (.iload 4, 2) := by decide +kernel
theorem dX11_waits_53 : decode cX11_waits 53 = .ok (.ireturn, 1) := by decide +kernel
theorem dX11_waits_54 : decode cX11_waits 54 = .ok (.iinc 3 (-1), 3) := by decide +kernel
theorem dX11_waits_57 : decode cX11_waits 57 = .ok (.iinc 4 1, 3) := by decide +kernel
theorem dX11_waits_60 : decode cX11_waits 60 = .ok (.goto (-50), 3) := by decide +kernel
theorem dX11_waits_63 : decode cX11_waits 63 = .ok (.iconst (-1), 1) := by decide +kernel
theorem dX11_waits_64 : decode cX11_waits 64 = .ok (.ireturn, 1) := by decide +kernel
set_option maxRecDepth 20000 in
theorem ggX11_image_X11_in : GoodIn wsX11_image wsX11_in := goodIn_r _ [6] (by decide +kernel) (by decide +kernel)
set_option maxRecDepth 20000 in
theorem gX11_image_X11_in : GoodIn wsX11_image (va_wsS RX11 193 yX11_in wsX11_in) := goodIn_app (goodIn_of _ (by decide +kernel)) ggX11_image_X11_in
set_option maxRecDepth 20000 in
theorem ggX11_image_X11_copy : GoodIn wsX11_image wsX11_copy := goodIn_r _ [10, 11, 12, 13, 14, 15, 16, 17, 18, 19, 20, 21, 22, 23, 24, 25, 26, 27, 28, 29, 30, 31, 32, 33, 34, 35, 36, 37, 38, 39, 40, 41, 42, 43, 5, 44, 45, 46, 47, 48, 49, 50, 51, 52, 53, 54, 55, 56, 57, 58, 59, 60, 61, 62, 63, 64, 65, 66, 67, 68, 69, 70, 71, 72, 73, 74, 75, 76, 77, 78, 79, 80, 81, 82, 83, 84, 85, 86, 87, 88, 89, 90, 91, 92, 93, 94, 95, 96, 97, 98, 99, 100, 101, 102, 103] (by decide +kernel) (by decide +kernel)
set_option maxRecDepth 20000 in
theorem gX11_image_X11_copy : GoodIn wsX11_image (wsV RX11 343 RX11 yX11_copy wsX11_copy) := goodIn_app (goodIn_of _ (by decide +kernel)) ggX11_image_X11_copy
theorem dX11_image_0 : decode cX11_image 0 = .ok (.aload_n 0, 1) := by decide +kernel
theorem dX11_image_1 : decode cX11_image 1 = .ok (.iconst 0, 1) := by decide +kernel
theorem dX11_image_2 : decode cX11_image 2 = .ok (.putfield 179, 3) := by decide +kernel
theorem dX11_image_5 : decode cX11_image 5 = .ok (.iload_n 1, 1) := by decide +kernel
theorem dX11_image_6 : decode cX11_image 6 = .ok (.iconst 0, 1) := by decide +kernel
theorem dX11_image_7 : decode cX11_image 7 = .ok (.iconst 2, 1) := by decide +kernel
theorem dX11_image_8 : decode cX11_image 8 = .ok (.invokestatic 193, 3) := by decide +kernel
theorem dX11_image_11 : decode cX11_image 11 = .ok (.ifCond .ne 5, 3) := by decide +kernel
theorem dX11_image_14 : decode cX11_image 14 = .ok (.iconst 0, 1) := by decide +kernel
theorem dX11_image_15 : decode cX11_image 15 = .ok (.ireturn, 1) := by decide +kernel
theorem dX11_image_16 : decode cX11_image 16 = .ok (.aload_n 0, 1) := by decide +kernel
theorem dX11_image_17 : decode cX11_image 17 = .ok (.iconst 0, 1) := by decide +kernel
theorem dX11_image_18 : decode cX11_image 18 = .ok (.iload_n 1, 1) := by decide +kernel
theorem dX11_image_19 : decode cX11_image 19 = .ok (.iconst 1, 1) := by decide +kernel
theorem dX11_image_20 : decode cX11_image 20 = .ok (.iadd, 1) := by decide +kernel
theorem dX11_image_21 : decode cX11_image 21 = .ok (.invokevirtual 343, 3) := by decide +kernel
theorem dX11_image_24 : decode cX11_image 24 = .ok (.aload_n 0, 1) := by decide +kernel
theorem dX11_image_25 : decode cX11_image 25 = .ok (.getfield 145, 3) := by decide +kernel
theorem dX11_image_28 : decode cX11_image 28 = .ok (.iload_n 1, 1) := by decide +kernel
theorem dX11_image_29 : decode cX11_image 29 = .ok (.iconst 1, 1) := by decide +kernel
theorem dX11_image_30 : decode cX11_image 30 = .ok (.bastore, 1) := by decide +kernel
theorem dX11_image_31 : decode cX11_image 31 = .ok (.iconst 1, 1) := by decide +kernel
theorem dX11_image_32 : decode cX11_image 32 = .ok (.ireturn, 1) := by decide +kernel
set_option maxRecDepth 20000 in
theorem ggX11_again_X11_in : GoodIn wsX11_again wsX11_in := goodIn_r _ [6] (by decide +kernel) (by decide +kernel)
set_option maxRecDepth 20000 in
theorem gX11_again_X11_in : GoodIn wsX11_again (va_wsS RX11 193 yX11_in wsX11_in) := goodIn_app (goodIn_of _ (by decide +kernel)) ggX11_again_X11_in
set_option maxRecDepth 20000 in
theorem ggX11_again_X11_copy : GoodIn wsX11_again wsX11_copy := goodIn_r _ [10, 11, 12, 13, 14, 15, 16, 17, 18, 19, 20, 21, 22, 23, 24, 25, 26, 27, 28, 29, 30, 31, 32, 33, 34, 35, 36, 37, 38, 39, 40, 41, 42, 43, 5, 44, 45, 46, 47, 48, 49, 50, 51, 52, 53, 54, 55, 56, 57, 58, 59, 60, 61, 62, 63, 64, 65, 66, 67, 68, 69, 70, 71, 72, 73, 74, 75, 76, 77, 78, 79, 80, 81, 82, 83, 84, 85, 86, 87, 88, 89, 90, 91, 92, 93, 94, 95, 96, 97, 98, 99, 100, 101, 102, 103] (by decide +kernel) (by decide +kernel)
set_option maxRecDepth 20000 in
theorem gX11_again_X11_copy : GoodIn wsX11_again (wsV RX11 343 RX11 yX11_copy wsX11_copy) := goodIn_app (goodIn_of _ (by decide +kernel)) ggX11_again_X11_copy
theorem dX11_again_0 : decode cX11_again 0 = .ok (.aload_n 0, 1) := by decide +kernel
theorem dX11_again_1 : decode cX11_again 1 = .ok (.iconst 0, 1) := by decide +kernel
theorem dX11_again_2 : decode cX11_again 2 = .ok (.putfield 179, 3) := by decide +kernel
theorem dX11_again_5 : decode cX11_again 5 = .ok (.iload_n 1, 1) := by decide +kernel
theorem dX11_again_6 : decode cX11_again 6 = .ok (.iconst 0, 1) := by decide +kernel
theorem dX11_again_7 : decode cX11_again 7 = .ok (.iconst 2, 1) := by decide +kernel
theorem dX11_again_8 : decode cX11_again 8 = .ok (.invokestatic 193, 3) := by decide +kernel
theorem dX11_again_11 : decode cX11_again 11 = .ok (.ifCond .eq 12, 3) := by decide +kernel
theorem dX11_again_14 : decode cX11_again 14 = .ok (.aload_n 0, 1) := by decide +kernel
theorem dX11_again_15 : decode cX11_again 15 = .ok (.getfield 145, 3) := by decide +kernel
theorem dX11_again_18 : decode cX11_again 18 = .ok (.iload_n 1, 1) := by decide +kernel
theorem dX11_again_19 : decode cX11_again 19 = .ok (.baload, 1) := by decide +kernel
theorem dX11_again_20 : decode cX11_again 20 = .ok (.ifCond .ne 5, 3) := by decide +kernel
theorem dX11_again_23 : decode cX11_again 23 = .ok (.iconst 0, 1) := by decide +kernel
theorem dX11_again_24 : decode cX11_again 24 = .ok (.ireturn, 1) := by decide +kernel
theorem dX11_again_25 : decode cX11_again 25 = .ok (.aload_n 0, 1) := by decide +kernel
theorem dX11_again_26 : decode cX11_again 26 = .ok (.iload_n 1, 1) := by decide +kernel
theorem dX11_again_27 : decode cX11_again 27 = .ok (.iconst 1, 1) := by decide +kernel
theorem dX11_again_28 : decode cX11_again 28 = .ok (.iadd, 1) := by decide +kernel
theorem dX11_again_29 : decode cX11_again 29 = .ok (.iconst 0, 1) := by decide +kernel
theorem dX11_again_30 : decode cX11_again 30 = .ok (.invokevirtual 343, 3) := by decide +kernel
theorem dX11_again_33 : decode cX11_again 33 = .ok (.iconst 1, 1) := by decide +kernel
theorem dX11_again_34 : decode cX11_again 34 = .ok (.ireturn, 1) := by decide +kernel
theorem dJ6_bitCount_0f7a4_0 : decode cJ6_bitCount_0f7a4 0 = .ok (.iload_n 0, 1) := by decide +kernel
theorem dJ6_bitCount_0f7a4_1 : decode cJ6_bitCount_0f7a4 1 = .ok (.iload_n 0, 1) := by decide +kernel
theorem dJ6_bitCount_0f7a4_2 : decode cJ6_bitCount_0f7a4 2 = .ok (.iconst 1, 1) := by decide +kernel
theorem dJ6_bitCount_0f7a4_3 : decode cJ6_bitCount_0f7a4 3 = .ok (.iushr, 1) := by decide +kernel
theorem dJ6_bitCount_0f7a4_4 : decode cJ6_bitCount_0f7a4 4 = .ok (.ldc_w 265, 3) := by decide +kernel
theorem dJ6_bitCount_0f7a4_7 : decode cJ6_bitCount_0f7a4 7 = .ok (.iand, 1) := by decide +kernel
theorem dJ6_bitCount_0f7a4_8 : decode cJ6_bitCount_0f7a4 8 = .ok (.isub, 1) := by decide +kernel
theorem dJ6_bitCount_0f7a4_9 : decode cJ6_bitCount_0f7a4 9 = .ok (.istore_n 0, 1) := by decide +kernel
theorem dJ6_bitCount_0f7a4_10 : decode cJ6_bitCount_0f7a4 10 = .ok (.iload_n 0, 1) := by decide +kernel
theorem dJ6_bitCount_0f7a4_11 : decode cJ6_bitCount_0f7a4 11 = .ok (.ldc_w 266, 3) := by decide +kernel
theorem dJ6_bitCount_0f7a4_14 : decode cJ6_bitCount_0f7a4 14 = .ok (.iand, 1) := by decide +kernel
theorem dJ6_bitCount_0f7a4_15 : decode cJ6_bitCount_0f7a4 15 = .ok (.iload_n 0, 1) := by decide +kernel
theorem dJ6_bitCount_0f7a4_16 : decode cJ6_bitCount_0f7a4 16 = .ok (.iconst 2, 1) := by decide +kernel
theorem dJ6_bitCount_0f7a4_17 : decode cJ6_bitCount_0f7a4 17 = .ok (.iushr, 1) := by decide +kernel
theorem dJ6_bitCount_0f7a4_18 : decode cJ6_bitCount_0f7a4 18 = .ok (.ldc_w 266, 3) := by decide +kernel
theorem dJ6_bitCount_0f7a4_21 : decode cJ6_bitCount_0f7a4 21 = .ok (.iand, 1) := by decide +kernel
theorem dJ6_bitCount_0f7a4_22 : decode cJ6_bitCount_0f7a4 22 = .ok (.iadd, 1) := by decide +kernel
theorem dJ6_bitCount_0f7a4_23 : decode cJ6_bitCount_0f7a4 23 = .ok (.istore_n 0, 1) := by decide +kernel
theorem dJ6_bitCount_0f7a4_24 : decode cJ6_bitCount_0f7a4 24 = .ok (.iload_n 0, 1) := by decide +kernel
theorem dJ6_bitCount_0f7a4_25 : decode cJ6_bitCount_0f7a4 25 = .ok (.iload_n 0, 1) := by decide +kernel
theorem dJ6_bitCount_0f7a4_26 : decode cJ6_bitCount_0f7a4 26 = .ok (.iconst 4, 1) := by decide +kernel
theorem dJ6_bitCount_0f7a4_27 : decode cJ6_bitCount_0f7a4 27 = .ok (.iushr, 1) := by decide +kernel
theorem dJ6_bitCount_0f7a4_28 : decode cJ6_bitCount_0f7a4 28 = .ok (.iadd, 1) := by decide +kernel
theorem dJ6_bitCount_0f7a4_29 : decode cJ6_bitCount_0f7a4 29 = .ok (.ldc_w 267, 3) := by decide +kernel
theorem dJ6_bitCount_0f7a4_32 : decode cJ6_bitCount_0f7a4 32 = .ok (.iand, 1) := by decide +kernel
theorem dJ6_bitCount_0f7a4_33 : decode cJ6_bitCount_0f7a4 33 = .ok (.istore_n 0, 1) := by decide +kernel
theorem dJ6_bitCount_0f7a4_34 : decode cJ6_bitCount_0f7a4 34 = .ok (.iload_n 0, 1) := by decide +kernel
theorem dJ6_bitCount_0f7a4_35 : decode cJ6_bitCount_0f7a4 35 = .ok (.iload_n 0, 1) := by decide +kernel
theorem dJ6_bitCount_0f7a4_36 : decode cJ6_bitCount_0f7a4 36 = .ok (.bipush 8, 2) := by decide +kernel
theorem dJ6_bitCount_0f7a4_38 : decode cJ6_bitCount_0f7a4 38 = .ok (.iushr, 1) := by decide +kernel
theorem dJ6_bitCount_0f7a4_39 : decode cJ6_bitCount_0f7a4 39 = .ok (.iadd, 1) := by decide +kernel
theorem dJ6_bitCount_0f7a4_40 : decode cJ6_bitCount_0f7a4 40 = .ok (.istore_n 0, 1) := by decide +kernel
theorem dJ6_bitCount_0f7a4_41 : decode cJ6_bitCount_0f7a4 41 = .ok (.iload_n 0, 1) := by decide +kernel
theorem dJ6_bitCount_0f7a4_42 : decode cJ6_bitCount_0f7a4 42 = .ok (.iload_n 0, 1) := by decide +kernel
theorem dJ6_bitCount_0f7a4_43 : decode cJ6_bitCount_0f7a4 43 = .ok (.bipush 16, 2) := by decide +kernel
theorem dJ6_bitCount_0f7a4_45 : decode cJ6_bitCount_0f7a4 45 = .ok (.iushr, 1) := by decide +kernel
theorem dJ6_bitCount_0f7a4_46 : decode cJ6_bitCount_0f7a4 46 = .ok (.iadd, 1) := by decide +kernel
theorem dJ6_bitCount_0f7a4_47 : decode cJ6_bitCount_0f7a4 47 = .ok (.istore_n 0, 1) := by decide +kernel
theorem dJ6_bitCount_0f7a4_48 : decode cJ6_bitCount_0f7a4 48 = .ok (.iload_n 0, 1) := by decide +kernel
theorem dJ6_bitCount_0f7a4_49 : decode cJ6_bitCount_0f7a4 49 = .ok (.bipush 63, 2) := by decide +kernel
theorem dJ6_bitCount_0f7a4_51 : decode cJ6_bitCount_0f7a4 51 = .ok (.iand, 1) := by decide +kernel
theorem dJ6_bitCount_0f7a4_52 : decode cJ6_bitCount_0f7a4 52 = .ok (.ireturn, 1) := by decide +kernel
theorem dJ9_max_f86c9_0 : decode cJ9_max_f86c9 0 = .ok (.lload_n 0, 1) := by decide +kernel
theorem dJ9_max_f86c9_1 : decode cJ9_max_f86c9 1 = .ok (.lload_n 2, 1) := by decide +kernel
theorem dJ9_max_f86c9_2 : decode cJ9_max_f86c9 2 = .ok (.lcmp, 1) := by decide +kernel
theorem dJ9_max_f86c9_3 : decode cJ9_max_f86c9 3 = .ok (.ifCond .lt 7, 3) := by decide +kernel
theorem dJ9_max_f86c9_6 : decode cJ9_max_f86c9 6 = .ok (.lload_n 0, 1) := by decide +kernel
theorem dJ9_max_f86c9_7 : decode cJ9_max_f86c9 7 = .ok (.goto 4, 3) := by decide +kernel
theorem dJ9_max_f86c9_10 : decode cJ9_max_f86c9 10 = .ok (.lload_n 2, 1) := by decide +kernel
theorem dJ9_max_f86c9_11 : decode cJ9_max_f86c9 11 = .ok (.lreturn, 1) := by decide +kernel
theorem dJ9_min_7cf53_0 : decode cJ9_min_7cf53 0 = .ok (.iload_n 0, 1) := by decide +kernel
theorem dJ9_min_7cf53_1 : decode cJ9_min_7cf53 1 = .ok (.iload_n 1, 1) := by decide +kernel
theorem dJ9_min_7cf53_2 : decode cJ9_min_7cf53 2 = .ok (.if_icmp .gt 7, 3) := by decide +kernel
theorem dJ9_min_7cf53_5 : decode cJ9_min_7cf53 5 = .ok (.iload_n 0, 1) := by decide +kernel
theorem dJ9_min_7cf53_6 : decode cJ9_min_7cf53 6 = .ok (.goto 4, 3) := by decide +kernel
theorem dJ9_min_7cf53_9 : decode cJ9_min_7cf53 9 = .ok (.iload_n 1, 1) := by decide +kernel
theorem dJ9_min_7cf53_10 : decode cJ9_min_7cf53 10 = .ok (.ireturn, 1) := by decide +kernel
theorem dJ9_min_f86c9_0 : decode cJ9_min_f86c9 0 = .ok (.lload_n 0, 1) := by decide +kernel
theorem dJ9_min_f86c9_1 : decode cJ9_min_f86c9 1 = .ok (.lload_n 2, 1) := by decide +kernel
theorem dJ9_min_f86c9_2 : decode cJ9_min_f86c9 2 = .ok (.lcmp, 1) := by decide +kernel
theorem dJ9_min_f86c9_3 : decode cJ9_min_f86c9 3 = .ok (.ifCond .gt 7, 3) := by decide +kernel
theorem dJ9_min_f86c9_6 : decode cJ9_min_f86c9 6 = .ok (.lload_n 0, 1) := by decide +kernel
theorem dJ9_min_f86c9_7 : decode cJ9_min_f86c9 7 = .ok (.goto 4, 3) := by decide +kernel
theorem dJ9_min_f86c9_10 : decode cJ9_min_f86c9 10 = .ok (.lload_n 2, 1) := by decide +kernel
theorem dJ9_min_f86c9_11 : decode cJ9_min_f86c9 11 = .ok (.lreturn, 1) := by decide +kernel
set_option maxRecDepth 20000 in
theorem ggJ0_length_8abf5_J0_coder_7d493 : GoodIn wsJ0_length_8abf5 wsJ0_coder_7d493 := goodIn_r _ [6, 7, 8] (by decide +kernel) (by decide +kernel)
set_option maxRecDepth 20000 in
theorem gJ0_length_8abf5_J0_coder_7d493 : GoodIn wsJ0_length_8abf5 (wsV RJ0 335 RJ0 yJ0_coder_7d493 wsJ0_coder_7d493) := goodIn_app (goodIn_of _ (by decide +kernel)) ggJ0_length_8abf5_J0_coder_7d493
theorem dJ0_length_8abf5_0 : decode cJ0_length_8abf5 0 = .ok (.aload_n 0, 1) := by decide +kernel
theorem dJ0_length_8abf5_1 : decode cJ0_length_8abf5 1 = .ok (.getfield 9, 3) := by decide +kernel
theorem dJ0_length_8abf5_4 : decode cJ0_length_8abf5 4 = .ok (.arraylength, 1) := by decide +kernel
theorem dJ0_length_8abf5_5 : decode cJ0_length_8abf5 5 = .ok (.aload_n 0, 1) := by decide +kernel
theorem dJ0_length_8abf5_6 : decode cJ0_length_8abf5 6 = .ok (.invokevirtual 335, 3) := by decide +kernel
theorem dJ0_length_8abf5_9 : decode cJ0_length_8abf5 9 = .ok (.ishr, 1) := by decide +kernel
theorem dJ0_length_8abf5_10 : decode cJ0_length_8abf5 10 = .ok (.ireturn, 1) := by decide +kernel
set_option maxRecDepth 20000 in
theorem ggJ0_charAt_5068e_J0_isLatin1_aae02 : GoodIn wsJ0_charAt_5068e wsJ0_isLatin1_aae02 := goodIn_r _ [6, 7, 8] (by decide +kernel) (by decide +kernel)
set_option maxRecDepth 20000 in
theorem gJ0_charAt_5068e_J0_isLatin1_aae02 : GoodIn wsJ0_charAt_5068e (wsV RJ0 492 RJ0 yJ0_isLatin1_aae02 wsJ0_isLatin1_aae02) := goodIn_app (goodIn_of _ (by decide +kernel)) ggJ0_charAt_5068e_J0_isLatin1_aae02
set_option maxRecDepth 20000 in
theorem ggJ0_charAt_5068e_J1_charAt_3b067 : GoodIn wsJ0_charAt_5068e wsJ1_charAt_3b067 := goodIn_r _ [12, 13, 14, 5, 15, 16, 17, 18, 19, 20] (by decide +kernel) (by decide +kernel)
set_option maxRecDepth 20000 in
theorem gJ0_charAt_5068e_J1_charAt_3b067 : GoodIn wsJ0_charAt_5068e (va_wsS RJ0 495 yJ1_charAt_3b067 wsJ1_charAt_3b067) := goodIn_app (goodIn_of _ (by decide +kernel)) ggJ0_charAt_5068e_J1_charAt_3b067
set_option maxRecDepth 20000 in
theorem ggJ0_charAt_5068e_J2_charAt_3b067 : GoodIn wsJ0_charAt_5068e wsJ2_charAt_3b067 := goodIn_r _ [24, 25, 26, 23, 27, 28, 29, 30, 31, 14, 5, 15, 16, 17, 18, 19, 20, 32, 33, 34, 35, 36, 37] (by decide +kernel) (by decide +kernel)
set_option maxRecDepth 20000 in
theorem gJ0_charAt_5068e_J2_charAt_3b067 : GoodIn wsJ0_charAt_5068e (va_wsS RJ0 498 yJ2_charAt_3b067 wsJ2_charAt_3b067) := goodIn_app (goodIn_of _ (by decide +kernel)) ggJ0_charAt_5068e_J2_charAt_3b067
theorem dJ0_charAt_5068e_0 : decode cJ0_charAt_5068e 0 = .ok (.aload_n 0, 1) := by decide +kernel
theorem dJ0_charAt_5068e_1 : decode cJ0_charAt_5068e 1 = .ok (.invokevirtual 492, 3) := by decide +kernel
theorem dJ0_charAt_5068e_4 : decode cJ0_charAt_5068e 4 = .ok (.ifCond .eq 12, 3) := by decide +kernel
theorem dJ0_charAt_5068e_7 : decode cJ0_charAt_5068e 7 = .ok (.aload_n 0, 1) := by decide +kernel
theorem dJ0_charAt_5068e_8 : decode cJ0_charAt_5068e 8 = .ok (.getfield 9, 3) := by decide +kernel
theorem dJ0_charAt_5068e_11 : decode cJ0_charAt_5068e 11 = .ok (.iload_n 1, 1) := by decide +kernel
theorem dJ0_charAt_5068e_12 : decode cJ0_charAt_5068e 12 = .ok (.invokestatic 495, 3) := by decide +kernel
theorem dJ0_charAt_5068e_15 : decode cJ0_charAt_5068e 15 = .ok (.ireturn, 1) := by decide +kernel
theorem dJ0_charAt_5068e_16 : decode cJ0_charAt_5068e 16 = .ok (.aload_n 0, 1) := by decide +kernel
theorem dJ0_charAt_5068e_17 : decode cJ0_charAt_5068e 17 = .ok (.getfield 9, 3) := by decide +kernel
theorem dJ0_charAt_5068e_20 : decode cJ0_charAt_5068e 20 = .ok (.iload_n 1, 1) := by decide +kernel
theorem dJ0_charAt_5068e_21 : decode cJ0_charAt_5068e 21 = .ok (.invokestatic 498, 3) := by decide +kernel
theorem dJ0_charAt_5068e_24 : decode cJ0_charAt_5068e 24 = .ok (.ireturn, 1) := by decide +kernel
theorem dJ0_coder_7d493_0 : decode cJ0_coder_7d493 0 = .ok (.getstatic 38, 3) := by decide +kernel
theorem dJ0_coder_7d493_3 : decode cJ0_coder_7d493 3 = .ok (.ifCond .eq 10, 3) := by decide +kernel
theorem dJ0_coder_7d493_6 : decode cJ0_coder_7d493 6 = .ok (.aload_n 0, 1) := by decide +kernel
theorem dJ0_coder_7d493_7 : decode cJ0_coder_7d493 7 = .ok (.getfield 15, 3) := by decide +kernel
theorem dJ0_coder_7d493_10 : decode cJ0_coder_7d493 10 = .ok (.goto 4, 3) := by decide +kernel
theorem dJ0_coder_7d493_13 : decode cJ0_coder_7d493 13 = .ok (.iconst 1, 1) := by decide +kernel
theorem dJ0_coder_7d493_14 : decode cJ0_coder_7d493 14 = .ok (.ireturn, 1) := by decide +kernel
theorem dJ0_isLatin1_aae02_0 : decode cJ0_isLatin1_aae02 0 = .ok (.getstatic 38, 3) := by decide +kernel
theorem dJ0_isLatin1_aae02_3 : decode cJ0_isLatin1_aae02 3 = .ok (.ifCond .eq 14, 3) := by decide +kernel
theorem dJ0_isLatin1_aae02_6 : decode cJ0_isLatin1_aae02 6 = .ok (.aload_n 0, 1) := by decide +kernel
theorem dJ0_isLatin1_aae02_7 : decode cJ0_isLatin1_aae02 7 = .ok (.getfield 15, 3) := by decide +kernel
theorem dJ0_isLatin1_aae02_10 : decode cJ0_isLatin1_aae02 10 = .ok (.ifCond .ne 7, 3) := by decide +kernel
theorem dJ0_isLatin1_aae02_13 : decode cJ0_isLatin1_aae02 13 = .ok (.iconst 1, 1) := by decide +kernel
theorem dJ0_isLatin1_aae02_14 : decode cJ0_isLatin1_aae02 14 = .ok (.goto 4, 3) := by decide +kernel
theorem dJ0_isLatin1_aae02_17 : decode cJ0_isLatin1_aae02 17 = .ok (.iconst 0, 1) := by decide +kernel
theorem dJ0_isLatin1_aae02_18 : decode cJ0_isLatin1_aae02 18 = .ok (.ireturn, 1) := by decide +kernel
set_option maxRecDepth 20000 in
theorem ggJ0_checkIndex_df160_J3_checkIndex_8e157 : GoodIn wsJ0_checkIndex_df160 wsJ3_checkIndex_8e157 := goodIn_r _ [5] (by decide +kernel) (by decide +kernel)
set_option maxRecDepth 20000 in
theorem gJ0_checkIndex_df160_J3_checkIndex_8e157 : GoodIn wsJ0_checkIndex_df160 (va_wsS RJ0 1059 yJ3_checkIndex_8e157 wsJ3_checkIndex_8e157) := goodIn_app (goodIn_of _ (by decide +kernel)) ggJ0_checkIndex_df160_J3_checkIndex_8e157
theorem dJ0_checkIndex_df160_0 : decode cJ0_checkIndex_df160 0 = .ok (.iload_n 0, 1) := by decide +kernel
theorem dJ0_checkIndex_df160_1 : decode cJ0_checkIndex_df160 1 = .ok (.iload_n 1, 1) := by decide +kernel
theorem dJ0_checkIndex_df160_2 : decode cJ0_checkIndex_df160 2 = .ok (.getstatic 1053, 3) := by decide +kernel
theorem dJ0_checkIndex_df160_5 : decode cJ0_checkIndex_df160 5 = .ok (.invokestatic 1059, 3) := by decide +kernel
theorem dJ0_checkIndex_df160_8 : decode cJ0_checkIndex_df160 8 = .ok (.pop, 1) := by decide +kernel
theorem dJ0_checkIndex_df160_9 : decode cJ0_checkIndex_df160 9 = .ok (.return_, 1) := by decide +kernel
set_option maxRecDepth 20000 in
theorem ggJ1_charAt_3b067_J0_checkIndex_df160 : GoodIn wsJ1_charAt_3b067 wsJ0_checkIndex_df160 := goodIn_r _ [4, 5, 6, 7, 8, 9] (by decide +kernel) (by decide +kernel)
set_option maxRecDepth 20000 in
theorem gJ1_charAt_3b067_J0_checkIndex_df160 : GoodIn wsJ1_charAt_3b067 (va_wsS RJ1 9 yJ0_checkIndex_df160 wsJ0_checkIndex_df160) := goodIn_app (goodIn_of _ (by decide +kernel)) ggJ1_charAt_3b067_J0_checkIndex_df160
theorem dJ1_charAt_3b067_0 : decode cJ1_charAt_3b067 0 = .ok (.iload_n 1, 1) := by decide +kernel
theorem dJ1_charAt_3b067_1 : decode cJ1_charAt_3b067 1 = .ok (.aload_n 0, 1) := by decide +kernel
theorem dJ1_charAt_3b067_2 : decode cJ1_charAt_3b067 2 = .ok (.arraylength, 1) := by decide +kernel
theorem dJ1_charAt_3b067_3 : decode cJ1_charAt_3b067 3 = .ok (.invokestatic 9, 3) := by decide +kernel
theorem dJ1_charAt_3b067_6 : decode cJ1_charAt_3b067 6 = .ok (.aload_n 0, 1) := by decide +kernel
theorem dJ1_charAt_3b067_7 : decode cJ1_charAt_3b067 7 = .ok (.iload_n 1, 1) := by decide +kernel
theorem dJ1_charAt_3b067_8 : decode cJ1_charAt_3b067 8 = .ok (.baload, 1) := by decide +kernel
theorem dJ1_charAt_3b067_9 : decode cJ1_charAt_3b067 9 = .ok (.sipush 255, 3) := by decide +kernel
theorem dJ1_charAt_3b067_12 : decode cJ1_charAt_3b067 12 = .ok (.iand, 1) := by decide +kernel
theorem dJ1_charAt_3b067_13 : decode cJ1_charAt_3b067 13 = .ok (.i2c, 1) := by decide +kernel
theorem dJ1_charAt_3b067_14 : decode cJ1_charAt_3b067 14 = .ok (.ireturn, 1) := by decide +kernel
set_option maxRecDepth 20000 in
theorem ggJ2_getChar_3b067_J2_length_9d52b : GoodIn wsJ2_getChar_3b067 wsJ2_length_9d52b := goodIn_r _ [7] (by decide +kernel) (by decide +kernel)
set_option maxRecDepth 20000 in
theorem gJ2_getChar_3b067_J2_length_9d52b : GoodIn wsJ2_getChar_3b067 (va_wsS RJ2 48 yJ2_length_9d52b wsJ2_length_9d52b) := goodIn_app (goodIn_of _ (by decide +kernel)) ggJ2_getChar_3b067_J2_length_9d52b
theorem dJ2_getChar_3b067_0 : decode cJ2_getChar_3b067 0 = .ok (.getstatic 44, 3) := by decide +kernel
theorem dJ2_getChar_3b067_3 : decode cJ2_getChar_3b067 3 = .ok (.ifCond .ne 25, 3) := by decide +kernel
theorem dJ2_getChar_3b067_6 : decode cJ2_getChar_3b067 6 = .ok (.iload_n 1, 1) := by decide +kernel
theorem dJ2_getChar_3b067_7 : decode cJ2_getChar_3b067 7 = .ok (.ifCond .lt 11, 3) := by decide +kernel
theorem dJ2_getChar_3b067_10 : decode cJ2_getChar_3b067 10 = .ok (.iload_n 1, 1) := by decide +kernel
theorem dJ2_getChar_3b067_11 : decode cJ2_getChar_3b067 11 = .ok (.aload_n 0, 1) := by decide +kernel
theorem dJ2_getChar_3b067_12 : decode cJ2_getChar_3b067 12 = .ok (.invokestatic 48, 3) := by decide +kernel
theorem dJ2_getChar_3b067_15 : decode cJ2_getChar_3b067 15 = .ok (.if_icmp .lt 13, 3) := by decide +kernel
theorem dJ2_getChar_3b067_18 : decode cJ2_getChar_3b067 18 = .ok (.new 52, 3) := by decide +kernel
theorem dJ2_getChar_3b067_21 : decode cJ2_getChar_3b067 21 = .ok (.dup, 1) := by decide +kernel
theorem dJ2_getChar_3b067_22 : decode cJ2_getChar_3b067 22 = .ok (.ldc 54, 2) := by decide +kernel
theorem dJ2_getChar_3b067_24 : decode cJ2_getChar_3b067 24 = .ok (.invokespecial 56, 3) := by decide +kernel
theorem dJ2_getChar_3b067_27 : decode cJ2_getChar_3b067 27 = .ok (.athrow, 1) := by decide +kernel
theorem dJ2_getChar_3b067_28 : decode cJ2_getChar_3b067 28 = .ok (.iload_n 1, 1) := by decide +kernel
theorem dJ2_getChar_3b067_29 : decode cJ2_getChar_3b067 29 = .ok (.iconst 1, 1) := by decide +kernel
theorem dJ2_getChar_3b067_30 : decode cJ2_getChar_3b067 30 = .ok (.ishl, 1) := by decide +kernel
theorem dJ2_getChar_3b067_31 : decode cJ2_getChar_3b067 31 = .ok (.istore_n 1, 1) := by decide +kernel
theorem dJ2_getChar_3b067_32 : decode cJ2_getChar_3b067 32 = .ok (.aload_n 0, 1) := by decide +kernel
theorem dJ2_getChar_3b067_33 : decode cJ2_getChar_3b067 33 = .ok (.iload_n 1, 1) := by decide +kernel
theorem dJ2_getChar_3b067_34 : decode cJ2_getChar_3b067 34 = .ok (.iinc 1 1, 3) := by decide +kernel
theorem dJ2_getChar_3b067_37 : decode cJ2_getChar_3b067 37 = .ok (.baload, 1) := by decide +kernel
theorem dJ2_getChar_3b067_38 : decode cJ2_getChar_3b067 38 = .ok (.sipush 255, 3) := by decide +kernel
theorem dJ2_getChar_3b067_41 : decode cJ2_getChar_3b067 41 = .ok (.iand, 1) := by decide +kernel
theorem dJ2_getChar_3b067_42 : decode cJ2_getChar_3b067 42 = .ok (.getstatic 59, 3) := by decide +kernel
theorem dJ2_getChar_3b067_45 : decode cJ2_getChar_3b067 45 = .ok (.ishl, 1) := by decide +kernel
theorem dJ2_getChar_3b067_46 : decode cJ2_getChar_3b067 46 = .ok (.aload_n 0, 1) := by decide +kernel
theorem dJ2_getChar_3b067_47 : decode cJ2_getChar_3b067 47 = .ok (.iload_n 1, 1) := by decide +kernel
theorem dJ2_getChar_3b067_48 : decode cJ2_getChar_3b067 48 = .ok (.baload, 1) := by decide +kernel
theorem dJ2_getChar_3b067_49 : decode cJ2_getChar_3b067 49 = .ok (.sipush 255, 3) := by decide +kernel
theorem dJ2_getChar_3b067_52 : decode cJ2_getChar_3b067 52 = .ok (.iand, 1) := by decide +kernel
theorem dJ2_getChar_3b067_53 : decode cJ2_getChar_3b067 53 = .ok (.getstatic 63, 3) := by decide +kernel
theorem dJ2_getChar_3b067_56 : decode cJ2_getChar_3b067 56 = .ok (.ishl, 1) := by decide +kernel
theorem dJ2_getChar_3b067_57 : decode cJ2_getChar_3b067 57 = .ok (.ior, 1) := by decide +kernel
theorem dJ2_getChar_3b067_58 : decode cJ2_getChar_3b067 58 = .ok (.i2c, 1) := by decide +kernel
theorem dJ2_getChar_3b067_59 : decode cJ2_getChar_3b067 59 = .ok (.ireturn, 1) := by decide +kernel
theorem dJ2_length_9d52b_0 : decode cJ2_length_9d52b 0 = .ok (.aload_n 0, 1) := by decide +kernel
theorem dJ2_length_9d52b_1 : decode cJ2_length_9d52b 1 = .ok (.arraylength, 1) := by decide +kernel
theorem dJ2_length_9d52b_2 : decode cJ2_length_9d52b 2 = .ok (.iconst 1, 1) := by decide +kernel
theorem dJ2_length_9d52b_3 : decode cJ2_length_9d52b 3 = .ok (.ishr, 1) := by decide +kernel
theorem dJ2_length_9d52b_4 : decode cJ2_length_9d52b 4 = .ok (.ireturn, 1) := by decide +kernel
set_option maxRecDepth 20000 in
theorem ggJ2_charAt_3b067_J2_checkIndex_2214a : GoodIn wsJ2_charAt_3b067 wsJ2_checkIndex_2214a := goodIn_r _ [4, 5, 6, 3, 7, 8, 9, 10, 11, 12, 13, 14, 15, 16] (by decide +kernel) (by decide +kernel)
set_option maxRecDepth 20000 in
theorem gJ2_charAt_3b067_J2_checkIndex_2214a : GoodIn wsJ2_charAt_3b067 (va_wsS RJ2 67 yJ2_checkIndex_2214a wsJ2_checkIndex_2214a) := goodIn_app (goodIn_of _ (by decide +kernel)) ggJ2_charAt_3b067_J2_checkIndex_2214a
set_option maxRecDepth 20000 in
theorem ggJ2_charAt_3b067_J2_getChar_3b067 : GoodIn wsJ2_charAt_3b067 wsJ2_getChar_3b067 := goodIn_r _ [19, 20, 21, 22, 5, 6, 3, 7] (by decide +kernel) (by decide +kernel)
set_option maxRecDepth 20000 in
theorem gJ2_charAt_3b067_J2_getChar_3b067 : GoodIn wsJ2_charAt_3b067 (va_wsS RJ2 71 yJ2_getChar_3b067 wsJ2_getChar_3b067) := goodIn_app (goodIn_of _ (by decide +kernel)) ggJ2_charAt_3b067_J2_getChar_3b067
theorem dJ2_charAt_3b067_0 : decode cJ2_charAt_3b067 0 = .ok (.iload_n 1, 1) := by decide +kernel
theorem dJ2_charAt_3b067_1 : decode cJ2_charAt_3b067 1 = .ok (.aload_n 0, 1) := by decide +kernel
theorem dJ2_charAt_3b067_2 : decode cJ2_charAt_3b067 2 = .ok (.invokestatic 67, 3) := by decide +kernel
theorem dJ2_charAt_3b067_5 : decode cJ2_charAt_3b067 5 = .ok (.aload_n 0, 1) := by decide +kernel
theorem dJ2_charAt_3b067_6 : decode cJ2_charAt_3b067 6 = .ok (.iload_n 1, 1) := by decide +kernel
theorem dJ2_charAt_3b067_7 : decode cJ2_charAt_3b067 7 = .ok (.invokestatic 71, 3) := by decide +kernel
theorem dJ2_charAt_3b067_10 : decode cJ2_charAt_3b067 10 = .ok (.ireturn, 1) := by decide +kernel
set_option maxRecDepth 20000 in
theorem ggJ2_checkIndex_2214a_J2_length_9d52b : GoodIn wsJ2_checkIndex_2214a wsJ2_length_9d52b := goodIn_r _ [4] (by decide +kernel) (by decide +kernel)
set_option maxRecDepth 20000 in
theorem gJ2_checkIndex_2214a_J2_length_9d52b : GoodIn wsJ2_checkIndex_2214a (va_wsS RJ2 48 yJ2_length_9d52b wsJ2_length_9d52b) := goodIn_app (goodIn_of _ (by decide +kernel)) ggJ2_checkIndex_2214a_J2_length_9d52b
set_option maxRecDepth 20000 in
theorem ggJ2_checkIndex_2214a_J0_checkIndex_df160 : GoodIn wsJ2_checkIndex_2214a wsJ0_checkIndex_df160 := goodIn_r _ [8, 9, 10, 11, 12, 13] (by decide +kernel) (by decide +kernel)
set_option maxRecDepth 20000 in
theorem gJ2_checkIndex_2214a_J0_checkIndex_df160 : GoodIn wsJ2_checkIndex_2214a (va_wsS RJ2 414 yJ0_checkIndex_df160 wsJ0_checkIndex_df160) := goodIn_app (goodIn_of _ (by decide +kernel)) ggJ2_checkIndex_2214a_J0_checkIndex_df160
theorem dJ2_checkIndex_2214a_0 : decode cJ2_checkIndex_2214a 0 = .ok (.iload_n 0, 1) := by decide +kernel
theorem dJ2_checkIndex_2214a_1 : decode cJ2_checkIndex_2214a 1 = .ok (.aload_n 1, 1) := by decide +kernel
theorem dJ2_checkIndex_2214a_2 : decode cJ2_checkIndex_2214a 2 = .ok (.invokestatic 48, 3) := by decide +kernel
theorem dJ2_checkIndex_2214a_5 : decode cJ2_checkIndex_2214a 5 = .ok (.invokestatic 414, 3) := by decide +kernel
theorem dJ2_checkIndex_2214a_8 : decode cJ2_checkIndex_2214a 8 = .ok (.return_, 1) := by decide +kernel
theorem dJ7_fill_53178_0 : decode cJ7_fill_53178 0 = .ok (.iconst 0, 1) := by decide +kernel
theorem dJ7_fill_53178_1 : decode cJ7_fill_53178 1 = .ok (.istore_n 2, 1) := by decide +kernel
theorem dJ7_fill_53178_2 : decode cJ7_fill_53178 2 = .ok (.aload_n 0, 1) := by decide +kernel
theorem dJ7_fill_53178_3 : decode cJ7_fill_53178 3 = .ok (.arraylength, 1) := by decide +kernel
theorem dJ7_fill_53178_4 : decode cJ7_fill_53178 4 = .ok (.istore_n 3, 1) := by decide +kernel
theorem dJ7_fill_53178_5 : decode cJ7_fill_53178 5 = .ok (.iload_n 2, 1) := by decide +kernel
theorem dJ7_fill_53178_6 : decode cJ7_fill_53178 6 = .ok (.iload_n 3, 1) := by decide +kernel
theorem dJ7_fill_53178_7 : decode cJ7_fill_53178 7 = .ok (.if_icmp .ge 13, 3) := by decide +kernel
theorem dJ7_fill_53178_10 : decode cJ7_fill_53178 10 = .ok (.aload_n 0, 1) := by decide +kernel
theorem dJ7_fill_53178_11 : decode cJ7_fill_53178 11 = .ok (.iload_n 2, 1) := by decide +kernel
theorem dJ7_fill_53178_12 : decode cJ7_fill_53178 12 = .ok (.iload_n 1, 1) := by decide +kernel
theorem dJ7_fill_53178_13 : decode cJ7_fill_53178 13 = .ok (.iastore, 1) := by decide +kernel
theorem dJ7_fill_53178_14 : decode cJ7_fill_53178 14 = .ok (.iinc 2 1, 3) := by decide +kernel
theorem dJ7_fill_53178_17 : decode cJ7_fill_53178 17 = .ok (.goto (-12), 3) := by decide +kernel
theorem dJ7_fill_53178_20 : decode cJ7_fill_53178 20 = .ok (.return_, 1) := by decide +kernel
theorem dJ3_checkIndex_8e157_0 : decode cJ3_checkIndex_8e157 0 = .ok (.iload_n 0, 1) := by decide +kernel
theorem dJ3_checkIndex_8e157_1 : decode cJ3_checkIndex_8e157 1 = .ok (.ifCond .lt 8, 3) := by decide +kernel
theorem dJ3_checkIndex_8e157_4 : decode cJ3_checkIndex_8e157 4 = .ok (.iload_n 0, 1) := by decide +kernel
theorem dJ3_checkIndex_8e157_5 : decode cJ3_checkIndex_8e157 5 = .ok (.iload_n 1, 1) := by decide +kernel
theorem dJ3_checkIndex_8e157_6 : decode cJ3_checkIndex_8e157 6 = .ok (.if_icmp .lt 10, 3) := by decide +kernel
theorem dJ3_checkIndex_8e157_9 : decode cJ3_checkIndex_8e157 9 = .ok (.aload_n 2, 1) := by decide +kernel
theorem dJ3_checkIndex_8e157_10 : decode cJ3_checkIndex_8e157 10 = .ok (.iload_n 0, 1) := by decide +kernel
theorem dJ3_checkIndex_8e157_11 : decode cJ3_checkIndex_8e157 11 = .ok (.iload_n 1, 1) := by decide +kernel
theorem dJ3_checkIndex_8e157_12 : decode cJ3_checkIndex_8e157 12 = .ok (.invokestatic 95, 3) := by decide +kernel
theorem dJ3_checkIndex_8e157_15 : decode cJ3_checkIndex_8e157 15 = .ok (.athrow, 1) := by decide +kernel
theorem dJ3_checkIndex_8e157_16 : decode cJ3_checkIndex_8e157 16 = .ok (.iload_n 0, 1) := by decide +kernel
theorem dJ3_checkIndex_8e157_17 : decode cJ3_checkIndex_8e157 17 = .ok (.ireturn, 1) := by decide +kernel
