theorem dX11_room_67 : decode cX11_room 67 = .ok (.ireturn, 1) := by decide +kernel
set_option maxRecDepth 20000 in
theorem ggX11_course_X11_in : GoodIn wsX11_course wsX11_in := goodIn_r _ [15] (by decide +kernel) (by decide +kernel)
set_option maxRecDepth 20000 in
theorem gX11_course_X11_in : GoodIn wsX11_course (va_wsS RX11 193 yX11_in wsX11_in) := goodIn_app (goodIn_of _ (by decide +kernel)) ggX11_course_X11_in
theorem dX11_course_0 : decode cX11_course 0 = .ok (.aload_n 0, 1) := by decide +kernel
theorem dX11_course_1 : decode cX11_course 1 = .ok (.iconst 0, 1) := by decide +kernel
theorem dX11_course_2 : decode cX11_course 2 = .ok (.putfield 179, 3) := by decide +kernel
theorem dX11_course_5 : decode cX11_course 5 = .ok (.aload_n 0, 1) := by decide +kernel
theorem dX11_course_6 : decode cX11_course 6 = .ok (.getfield 60, 3) := by decide +kernel
theorem dX11_course_9 : decode cX11_course 9 = .ok (.iconst 0, 1) := by decide +kernel
theorem dX11_course_10 : decode cX11_course 10 = .ok (.iaload, 1) := by decide +kernel
theorem dX11_course_11 : decode cX11_course 11 = .ok (.iconst (-1), 1) := by decide +kernel
theorem dX11_course_12 : decode cX11_course 12 = .ok (.if_icmp .ne 65, 3) := by decide +kernel
theorem dX11_course_15 : decode cX11_course 15 = .ok (.aload_n 0, 1) := by decide +kernel
theorem dX11_course_16 : decode cX11_course 16 = .ok (.getfield 24, 3) := by decide +kernel
theorem dX11_course_19 : decode cX11_course 19 = .ok (.iconst 0, 1) := by decide +kernel
theorem dX11_course_20 : decode cX11_course 20 = .ok (.iaload, 1) := by decide +kernel
theorem dX11_course_21 : decode cX11_course 21 = .ok (.bipush 10, 2) := by decide +kernel
theorem dX11_course_23 : decode cX11_course 23 = .ok (.if_icmp .eq 54, 3) := by decide +kernel
theorem dX11_course_26 : decode cX11_course 26 = .ok (.iload_n 1, 1) := by decide +kernel
theorem dX11_course_27 : decode cX11_course 27 = .ok (.iconst 0, 1) := by decide +kernel
theorem dX11_course_28 : decode cX11_course 28 = .ok (.iconst 4, 1) := by decide +kernel
theorem dX11_course_29 : decode cX11_course 29 = .ok (.invokestatic 193, 3) := by decide +kernel
theorem dX11_course_32 : decode cX11_course 32 = .ok (.ifCond .eq 45, 3) := by decide +kernel
theorem dX11_course_35 : decode cX11_course 35 = .ok (.iload_n 2, 1) := by decide +kernel
theorem dX11_course_36 : decode cX11_course 36 = .ok (.iconst 0, 1) := by decide +kernel
theorem dX11_course_37 : decode cX11_course 37 = .ok (.iconst 5, 1) := by decide +kernel
theorem dX11_course_38 : decode cX11_course 38 = .ok (.invokestatic 193, 3) := by decide +kernel
theorem dX11_course_41 : decode cX11_course 41 = .ok (.ifCond .eq 36, 3) := by decide +kernel
theorem dX11_course_44 : decode cX11_course 44 = .ok (.iload_n 3, 1) := by decide +kernel
theorem dX11_course_45 : decode cX11_course 45 = .ok (.iconst 1, 1) := by decide +kernel
theorem dX11_course_46 : decode cX11_course 46 = .ok (.iload 4, 2) := by decide +kernel
theorem dX11_course_48 : decode cX11_course 48 = .ok (.invokestatic 193, 3) := by decide +kernel
theorem dX11_course_51 : decode cX11_course 51 = .ok (.ifCond .eq 26, 3) := by decide +kernel
theorem dX11_course_54 : decode cX11_course 54 = .ok (.iload 4, 2) := by decide +kernel
theorem dX11_course_56 : decode cX11_course 56 = .ok (.iconst 1, 1) := by decide +kernel
theorem dX11_course_57 : decode cX11_course 57 = .ok (.bipush 40, 2) := by decide +kernel
theorem dX11_course_59 : decode cX11_course 59 = .ok (.invokestatic 193, 3) := by decide +kernel
theorem dX11_course_62 : decode cX11_course 62 = .ok (.ifCond .eq 15, 3) := by decide +kernel
theorem dX11_course_65 : decode cX11_course 65 = .ok (.iload 5, 2) := by decide +kernel
theorem dX11_course_67 : decode cX11_course 67 = .ok (.iconst 0, 1) := by decide +kernel
theorem dX11_course_68 : decode cX11_course 68 = .ok (.sipush 1000, 3) := by decide +kernel
theorem dX11_course_71 : decode cX11_course 71 = .ok (.invokestatic 193, 3) := by decide +kernel
theorem dX11_course_74 : decode cX11_course 74 = .ok (.ifCond .ne 5, 3) := by decide +kernel
theorem dX11_course_77 : decode cX11_course 77 = .ok (.iconst (-1), 1) := by decide +kernel
theorem dX11_course_78 : decode cX11_course 78 = .ok (.ireturn, 1) := by decide +kernel
theorem dX11_course_79 : decode cX11_course 79 = .ok (.aload_n 0, 1) := by decide +kernel
theorem dX11_course_80 : decode cX11_course 80 = .ok (.getfield 24, 3) := by decide +kernel
theorem dX11_course_83 : decode cX11_course 83 = .ok (.iconst 0, 1) := by decide +kernel
theorem dX11_course_84 : decode cX11_course 84 = .ok (.iaload, 1) := by decide +kernel
theorem dX11_course_85 : decode cX11_course 85 = .ok (.istore 6, 2) := by decide +kernel
theorem dX11_course_87 : decode cX11_course 87 = .ok (.aload_n 0, 1) := by decide +kernel
theorem dX11_course_88 : decode cX11_course 88 = .ok (.getfield 24, 3) := by decide +kernel
theorem dX11_course_91 : decode cX11_course 91 = .ok (.iconst 0, 1) := by decide +kernel
theorem dX11_course_92 : decode cX11_course 92 = .ok (.dup2, 1) := by decide +kernel
theorem dX11_course_93 : decode cX11_course 93 = .ok (.iaload, 1) := by decide +kernel
theorem dX11_course_94 : decode cX11_course 94 = .ok (.iconst 1, 1) := by decide +kernel
theorem dX11_course_95 : decode cX11_course 95 = .ok (.iadd, 1) := by decide +kernel
theorem dX11_course_96 : decode cX11_course 96 = .ok (.iastore, 1) := by decide +kernel
theorem dX11_course_97 : decode cX11_course 97 = .ok (.aload_n 0, 1) := by decide +kernel
theorem dX11_course_98 : decode cX11_course 98 = .ok (.getfield 27, 3) := by decide +kernel
theorem dX11_course_101 : decode cX11_course 101 = .ok (.iload 6, 2) := by decide +kernel
theorem dX11_course_103 : decode cX11_course 103 = .ok (.iload_n 1, 1) := by decide +kernel
theorem dX11_course_104 : decode cX11_course 104 = .ok (.iastore, 1) := by decide +kernel
theorem dX11_course_105 : decode cX11_course 105 = .ok (.aload_n 0, 1) := by decide +kernel
theorem dX11_course_106 : decode cX11_course 106 = .ok (.getfield 30, 3) := by decide +kernel
theorem dX11_course_109 : decode cX11_course 109 = .ok (.iload 6, 2) := by decide +kernel
theorem dX11_course_111 : decode cX11_course 111 = .ok (.iload_n 2, 1) := by decide +kernel
theorem dX11_course_112 : decode cX11_course 112 = .ok (.iastore, 1) := by decide +kernel
theorem dX11_course_113 : decode cX11_course 113 = .ok (.aload_n 0, 1) := by decide +kernel
theorem dX11_course_114 : decode cX11_course 114 = .ok (.getfield 33, 3) := by decide +kernel
theorem dX11_course_117 : decode cX11_course 117 = .ok (.iload 6, 2) := by decide +kernel
theorem dX11_course_119 : decode cX11_course 119 = .ok (.iload_n 3, 1) := by decide +kernel
theorem dX11_course_120 : decode cX11_course 120 = .ok (.iastore, 1) := by decide +kernel
theorem dX11_course_121 : decode cX11_course 121 = .ok (.aload_n 0, 1) := by decide +kernel
theorem dX11_course_122 : decode cX11_course 122 = .ok (.getfield 36, 3) := by decide +kernel
theorem dX11_course_125 : decode cX11_course 125 = .ok (.iload 6, 2) := by decide +kernel
theorem dX11_course_127 : decode cX11_course 127 = .ok (.iload 4, 2) := by decide +kernel
theorem dX11_course_129 : decode cX11_course 129 = .ok (.iastore, 1) := by decide +kernel
theorem dX11_course_130 : decode cX11_course 130 = .ok (.aload_n 0, 1) := by decide +kernel
theorem dX11_course_131 : decode cX11_course 131 = .ok (.getfield 39, 3) := by decide +kernel
theorem dX11_course_134 : decode cX11_course 134 = .ok (.iload 6, 2) := by decide +kernel
theorem dX11_course_136 : decode cX11_course 136 = .ok (.iload 5, 2) := by decide +kernel
theorem dX11_course_138 : decode cX11_course 138 = .ok (.iastore, 1) := by decide +kernel
theorem dX11_course_139 : decode cX11_course 139 = .ok (.aload_n 0, 1) := by decide +kernel
theorem dX11_course_140 : decode cX11_course 140 = .ok (.getfield 66, 3) := by decide +kernel
theorem dX11_course_143 : decode cX11_course 143 = .ok (.iload 6, 2) := by decide +kernel
theorem dX11_course_145 : decode cX11_course 145 = .ok (.iconst (-1), 1) := by decide +kernel
theorem dX11_course_146 : decode cX11_course 146 = .ok (.iastore, 1) := by decide +kernel
theorem dX11_course_147 : decode cX11_course 147 = .ok (.aload_n 0, 1) := by decide +kernel
theorem dX11_course_148 : decode cX11_course 148 = .ok (.getfield 69, 3) := by decide +kernel
theorem dX11_course_151 : decode cX11_course 151 = .ok (.iload 6, 2) := by decide +kernel
theorem dX11_course_153 : decode cX11_course 153 = .ok (.iconst 0, 1) := by decide +kernel
theorem dX11_course_154 : decode cX11_course 154 = .ok (.iastore, 1) := by decide +kernel
theorem dX11_course_155 : decode cX11_course 155 = .ok (.aload_n 0, 1) := by decide +kernel
theorem dX11_course_156 : decode cX11_course 156 = .ok (.getfield 72, 3) := by decide +kernel
theorem dX11_course_159 : decode cX11_course 159 = .ok (.iload 6, 2) := by decide +kernel
theorem dX11_course_161 : decode cX11_course 161 = .ok (.iconst 0, 1) := by decide +kernel
theorem dX11_course_162 : decode cX11_course 162 = .ok (.iastore, 1) := by decide +kernel
theorem dX11_course_163 : decode cX11_course 163 = .ok (.iload 6, 2) := by decide +kernel
theorem dX11_course_165 : decode cX11_course 165 = .ok (.ireturn, 1) := by decide +kernel
set_option maxRecDepth 20000 in
theorem ggX11_pupil_X11_in : GoodIn wsX11_pupil wsX11_in := goodIn_r _ [13] (by decide +kernel) (by decide +kernel)
set_option maxRecDepth 20000 in
theorem gX11_pupil_X11_in : GoodIn wsX11_pupil (va_wsS RX11 193 yX11_in wsX11_in) := goodIn_app (goodIn_of _ (by decide +kernel)) ggX11_pupil_X11_in
theorem dX11_pupil_0 : decode cX11_pupil 0 = .ok (.aload_n 0, 1) := by decide +kernel
theorem dX11_pupil_1 : decode cX11_pupil 1 = .ok (.iconst 0, 1) := by decide +kernel
theorem dX11_pupil_2 : decode cX11_pupil 2 = .ok (.putfield 179, 3) := by decide +kernel
theorem dX11_pupil_5 : decode cX11_pupil 5 = .ok (.aload_n 0, 1) := by decide +kernel
theorem dX11_pupil_6 : decode cX11_pupil 6 = .ok (.getfield 60, 3) := by decide +kernel
theorem dX11_pupil_9 : decode cX11_pupil 9 = .ok (.iconst 0, 1) := by decide +kernel
theorem dX11_pupil_10 : decode cX11_pupil 10 = .ok (.iaload, 1) := by decide +kernel
theorem dX11_pupil_11 : decode cX11_pupil 11 = .ok (.iconst (-1), 1) := by decide +kernel
theorem dX11_pupil_12 : decode cX11_pupil 12 = .ok (.if_icmp .ne 42, 3) := by decide +kernel
theorem dX11_pupil_15 : decode cX11_pupil 15 = .ok (.aload_n 0, 1) := by decide +kernel
theorem dX11_pupil_16 : decode cX11_pupil 16 = .ok (.getfield 42, 3) := by decide +kernel
theorem dX11_pupil_19 : decode cX11_pupil 19 = .ok (.iconst 0, 1) := by decide +kernel
theorem dX11_pupil_20 : decode cX11_pupil 20 = .ok (.iaload, 1) := by decide +kernel
theorem dX11_pupil_21 : decode cX11_pupil 21 = .ok (.bipush 30, 2) := by decide +kernel
theorem dX11_pupil_23 : decode cX11_pupil 23 = .ok (.if_icmp .eq 31, 3) := by decide +kernel
theorem dX11_pupil_26 : decode cX11_pupil 26 = .ok (.iload_n 1, 1) := by decide +kernel
theorem dX11_pupil_27 : decode cX11_pupil 27 = .ok (.iconst 0, 1) := by decide +kernel
theorem dX11_pupil_28 : decode cX11_pupil 28 = .ok (.bipush 120, 2) := by decide +kernel
theorem dX11_pupil_30 : decode cX11_pupil 30 = .ok (.invokestatic 193, 3) := by decide +kernel
theorem dX11_pupil_33 : decode cX11_pupil 33 = .ok (.ifCond .eq 21, 3) := by decide +kernel
theorem dX11_pupil_36 : decode cX11_pupil 36 = .ok (.iload_n 2, 1) := by decide +kernel
theorem dX11_pupil_37 : decode cX11_pupil 37 = .ok (.iconst 0, 1) := by decide +kernel
theorem dX11_pupil_38 : decode cX11_pupil 38 = .ok (.iconst 2, 1) := by decide +kernel
theorem dX11_pupil_39 : decode cX11_pupil 39 = .ok (.invokestatic 193, 3) := by decide +kernel
theorem dX11_pupil_42 : decode cX11_pupil 42 = .ok (.ifCond .eq 12, 3) := by decide +kernel
theorem dX11_pupil_45 : decode cX11_pupil 45 = .ok (.iload_n 3, 1) := by decide +kernel
theorem dX11_pupil_46 : decode cX11_pupil 46 = .ok (.iconst 1, 1) := by decide +kernel
theorem dX11_pupil_47 : decode cX11_pupil 47 = .ok (.iconst 3, 1) := by decide +kernel
theorem dX11_pupil_48 : decode cX11_pupil 48 = .ok (.invokestatic 193, 3) := by decide +kernel
theorem dX11_pupil_51 : decode cX11_pupil 51 = .ok (.ifCond .ne 5, 3) := by decide +kernel
theorem dX11_pupil_54 : decode cX11_pupil 54 = .ok (.iconst (-1), 1) := by decide +kernel
theorem dX11_pupil_55 : decode cX11_pupil 55 = .ok (.ireturn, 1) := by decide +kernel
theorem dX11_pupil_56 : decode cX11_pupil 56 = .ok (.aload_n 0, 1) := by decide +kernel
theorem dX11_pupil_57 : decode cX11_pupil 57 = .ok (.getfield 42, 3) := by decide +kernel
theorem dX11_pupil_60 : decode cX11_pupil 60 = .ok (.iconst 0, 1) := by decide +kernel
theorem dX11_pupil_61 : decode cX11_pupil 61 = .ok (.iaload, 1) := by decide +kernel
theorem dX11_pupil_62 : decode cX11_pupil 62 = .ok (.istore 4, 2) := by decide +kernel
theorem dX11_pupil_64 : decode cX11_pupil 64 = .ok (.aload_n 0, 1) := by decide +kernel
theorem dX11_pupil_65 : decode cX11_pupil 65 = .ok (.getfield 42, 3) := by decide +kernel
theorem dX11_pupil_68 : decode cX11_pupil 68 = .ok (.iconst 0, 1) := by decide +kernel
theorem dX11_pupil_69 : decode cX11_pupil 69 = .ok (.dup2, 1) := by decide +kernel
theorem dX11_pupil_70 : decode cX11_pupil 70 = .ok (.iaload, 1) := by decide +kernel
theorem dX11_pupil_71 : decode cX11_pupil 71 = .ok (.iconst 1, 1) := by decide +kernel
theorem dX11_pupil_72 : decode cX11_pupil 72 = .ok (.iadd, 1) := by decide +kernel
theorem dX11_pupil_73 : decode cX11_pupil 73 = .ok (.iastore, 1) := by decide +kernel
theorem dX11_pupil_74 : decode cX11_pupil 74 = .ok (.aload_n 0, 1) := by decide +kernel
theorem dX11_pupil_75 : decode cX11_pupil 75 = .ok (.getfield 45, 3) := by decide +kernel
theorem dX11_pupil_78 : decode cX11_pupil 78 = .ok (.iload 4, 2) := by decide +kernel
theorem dX11_pupil_80 : decode cX11_pupil 80 = .ok (.iload_n 1, 1) := by decide +kernel
theorem dX11_pupil_81 : decode cX11_pupil 81 = .ok (.iastore, 1) := by decide +kernel
theorem dX11_pupil_82 : decode cX11_pupil 82 = .ok (.aload_n 0, 1) := by decide +kernel
theorem dX11_pupil_83 : decode cX11_pupil 83 = .ok (.getfield 48, 3) := by decide +kernel
theorem dX11_pupil_86 : decode cX11_pupil 86 = .ok (.iload 4, 2) := by decide +kernel
theorem dX11_pupil_88 : decode cX11_pupil 88 = .ok (.iload_n 2, 1) := by decide +kernel
theorem dX11_pupil_89 : decode cX11_pupil 89 = .ok (.iastore, 1) := by decide +kernel
theorem dX11_pupil_90 : decode cX11_pupil 90 = .ok (.aload_n 0, 1) := by decide +kernel
theorem dX11_pupil_91 : decode cX11_pupil 91 = .ok (.getfield 51, 3) := by decide +kernel
theorem dX11_pupil_94 : decode cX11_pupil 94 = .ok (.iload 4, 2) := by decide +kernel
theorem dX11_pupil_96 : decode cX11_pupil 96 = .ok (.iload_n 3, 1) := by decide +kernel
theorem dX11_pupil_97 : decode cX11_pupil 97 = .ok (.iastore, 1) := by decide +kernel
theorem dX11_pupil_98 : decode cX11_pupil 98 = .ok (.aload_n 0, 1) := by decide +kernel
theorem dX11_pupil_99 : decode cX11_pupil 99 = .ok (.getfield 54, 3) := by decide +kernel
theorem dX11_pupil_102 : decode cX11_pupil 102 = .ok (.iload 4, 2) := by decide +kernel
theorem dX11_pupil_104 : decode cX11_pupil 104 = .ok (.iconst 0, 1) := by decide +kernel
theorem dX11_pupil_105 : decode cX11_pupil 105 = .ok (.iastore, 1) := by decide +kernel
theorem dX11_pupil_106 : decode cX11_pupil 106 = .ok (.aload_n 0, 1) := by decide +kernel
theorem dX11_pupil_107 : decode cX11_pupil 107 = .ok (.getfield 75, 3) := by decide +kernel
theorem dX11_pupil_110 : decode cX11_pupil 110 = .ok (.iload 4, 2) := by decide +kernel
theorem dX11_pupil_112 : decode cX11_pupil 112 = .ok (.iconst 0, 1) := by decide +kernel
theorem dX11_pupil_113 : decode cX11_pupil 113 = .ok (.iastore, 1) := by decide +kernel
theorem dX11_pupil_114 : decode cX11_pupil 114 = .ok (.aload_n 0, 1) := by decide +kernel
theorem dX11_pupil_115 : decode cX11_pupil 115 = .ok (.getfield 78, 3) := by decide +kernel
theorem dX11_pupil_118 : decode cX11_pupil 118 = .ok (.iload 4, 2) := by decide +kernel
theorem dX11_pupil_120 : decode cX11_pupil 120 = .ok (.iconst 0, 1) := by decide +kernel
theorem dX11_pupil_121 : decode cX11_pupil 121 = .ok (.iastore, 1) := by decide +kernel
theorem dX11_pupil_122 : decode cX11_pupil 122 = .ok (.iload 4, 2) := by decide +kernel
theorem dX11_pupil_124 : decode cX11_pupil 124 = .ok (.ireturn, 1) := by decide +kernel
set_option maxRecDepth 20000 in
theorem ggX11_isPupil_X11_in : GoodIn wsX11_isPupil wsX11_in := goodIn_r _ [5] (by decide +kernel) (by decide +kernel)
set_option maxRecDepth 20000 in
theorem gX11_isPupil_X11_in : GoodIn wsX11_isPupil (va_wsS RX11 193 yX11_in wsX11_in) := goodIn_app (goodIn_of _ (by decide +kernel)) ggX11_isPupil_X11_in
theorem dX11_isPupil_0 : decode cX11_isPupil 0 = .ok (.iload_n 1, 1) := by decide +kernel
theorem dX11_isPupil_1 : decode cX11_isPupil 1 = .ok (.iconst 0, 1) := by decide +kernel
theorem dX11_isPupil_2 : decode cX11_isPupil 2 = .ok (.aload_n 0, 1) := by decide +kernel
theorem dX11_isPupil_3 : decode cX11_isPupil 3 = .ok (.getfield 42, 3) := by decide +kernel
theorem dX11_isPupil_6 : decode cX11_isPupil 6 = .ok (.iconst 0, 1) := by decide +kernel
theorem dX11_isPupil_7 : decode cX11_isPupil 7 = .ok (.iaload, 1) := by decide +kernel
theorem dX11_isPupil_8 : decode cX11_isPupil 8 = .ok (.iconst 1, 1) := by decide +kernel
theorem dX11_isPupil_9 : decode cX11_isPupil 9 = .ok (.isub, 1) := by decide +kernel
theorem dX11_isPupil_10 : decode cX11_isPupil 10 = .ok (.invokestatic 193, 3) := by decide +kernel
theorem dX11_isPupil_13 : decode cX11_isPupil 13 = .ok (.ireturn, 1) := by decide +kernel
set_option maxRecDepth 20000 in
theorem ggX11_isCourse_X11_in : GoodIn wsX11_isCourse wsX11_in := goodIn_r _ [5] (by decide +kernel) (by decide +kernel)
set_option maxRecDepth 20000 in
theorem gX11_isCourse_X11_in : GoodIn wsX11_isCourse (va_wsS RX11 193 yX11_in wsX11_in) := goodIn_app (goodIn_of _ (by decide +kernel)) ggX11_isCourse_X11_in
theorem dX11_isCourse_0 : decode cX11_isCourse 0 = .ok (.iload_n 1, 1) := by decide +kernel
theorem dX11_isCourse_1 : decode cX11_isCourse 1 = .ok (.iconst 0, 1) := by decide +kernel
theorem dX11_isCourse_2 : decode cX11_isCourse 2 = .ok (.aload_n 0, 1) := by decide +kernel
theorem dX11_isCourse_3 : decode cX11_isCourse 3 = .ok (.getfield 24, 3) := by decide +kernel
theorem dX11_isCourse_6 : decode cX11_isCourse 6 = .ok (.iconst 0, 1) := by decide +kernel
theorem dX11_isCourse_7 : decode cX11_isCourse 7 = .ok (.iaload, 1) := by decide +kernel
theorem dX11_isCourse_8 : decode cX11_isCourse 8 = .ok (.iconst 1, 1) := by decide +kernel
theorem dX11_isCourse_9 : decode cX11_isCourse 9 = .ok (.isub, 1) := by decide +kernel
theorem dX11_isCourse_10 : decode cX11_isCourse 10 = .ok (.invokestatic 193, 3) := by decide +kernel
theorem dX11_isCourse_13 : decode cX11_isCourse 13 = .ok (.ireturn, 1) := by decide +kernel
theorem dX11_rank_0 : decode cX11_rank 0 = .ok (.iconst 0, 1) := by decide +kernel
theorem dX11_rank_1 : decode cX11_rank 1 = .ok (.istore_n 3, 1) := by decide +kernel
theorem dX11_rank_2 : decode cX11_rank 2 = .ok (.iload_n 3, 1) := by decide +kernel
theorem dX11_rank_3 : decode cX11_rank 3 = .ok (.aload_n 0, 1) := by decide +kernel
theorem dX11_rank_4 : decode cX11_rank 4 = .ok (.getfield 54, 3) := by decide +kernel
theorem dX11_rank_7 : decode cX11_rank 7 = .ok (.iload_n 1, 1) := by decide +kernel
theorem dX11_rank_8 : decode cX11_rank 8 = .ok (.iaload, 1) := by decide +kernel
theorem dX11_rank_9 : decode cX11_rank 9 = .ok (.if_icmp .ge 26, 3) := by decide +kernel
theorem dX11_rank_12 : decode cX11_rank 12 = .ok (.aload_n 0, 1) := by decide +kernel
theorem dX11_rank_13 : decode cX11_rank 13 = .ok (.getfield 57, 3) := by decide +kernel
theorem dX11_rank_16 : decode cX11_rank 16 = .ok (.bipush 6, 2) := by decide +kernel
theorem dX11_rank_18 : decode cX11_rank 18 = .ok (.iload_n 1, 1) := by decide +kernel
theorem dX11_rank_19 : decode cX11_rank 19 = .ok (.imul, 1) := by decide +kernel
theorem dX11_rank_20 : decode cX11_rank 20 = .ok (.iload_n 3, 1) := by decide +kernel
theorem dX11_rank_21 : decode cX11_rank 21 = .ok (.iadd, 1) := by decide +kernel
theorem dX11_rank_22 : decode cX11_rank 22 = .ok (.iaload, 1) := by decide +kernel
theorem dX11_rank_23 : decode cX11_rank 23 = .ok (.iload_n 2, 1) := by decide +kernel
theorem dX11_rank_24 : decode cX11_rank 24 = .ok (.if_icmp .ne 5, 3) := by decide +kernel
theorem dX11_rank_27 : decode cX11_rank 27 = .ok (.iload_n 3, 1) := by decide +kernel
theorem dX11_rank_28 : decode cX11_rank 28 = .ok (.ireturn, 1) := by decide +kernel
theorem dX11_rank_29 : decode cX11_rank 29 = .ok (.iinc 3 1, 3) := by decide +kernel
theorem dX11_rank_32 : decode cX11_rank 32 = .ok (.goto (-30), 3) := by decide +kernel
theorem dX11_rank_35 : decode cX11_rank 35 = .ok (.iconst (-1), 1) := by decide +kernel
theorem dX11_rank_36 : decode cX11_rank 36 = .ok (.ireturn, 1) := by decide +kernel
set_option maxRecDepth 20000 in
theorem ggX11_wish_X11_isPupil : GoodIn wsX11_wish wsX11_isPupil := goodIn_r _ [8, 9, 10, 11, 7, 12, 52, 53, 54, 55, 56, 57, 58, 59, 60, 61, 62, 63, 64, 65, 66, 67, 68, 69, 70, 71, 72, 73, 74, 75, 76, 77, 78, 79, 80, 81, 82, 83, 84, 85, 86, 87, 88, 89, 90, 91, 92, 93, 94, 95, 96, 97, 98, 99, 100, 101, 102, 103, 104, 105, 106, 107, 108, 109, 110] (by decide +kernel) (by decide +kernel)
set_option maxRecDepth 20000 in
theorem gX11_wish_X11_isPupil : GoodIn wsX11_wish (wsV RX11 262 RX11 yX11_isPupil wsX11_isPupil) := goodIn_app (goodIn_of _ (by decide +kernel)) ggX11_wish_X11_isPupil
set_option maxRecDepth 20000 in
theorem ggX11_wish_X11_isCourse : GoodIn wsX11_wish wsX11_isCourse := goodIn_r _ [16, 17, 10, 11, 7, 12, 52, 53, 54, 55, 56, 57, 58, 59, 60, 61, 62, 63, 64, 65, 66, 67, 68, 69, 70, 71, 72, 73, 74, 75, 76, 77, 78, 79, 80, 81, 82, 83, 84, 85, 86, 87, 88, 89, 90, 91, 92, 93, 94, 95, 96, 97, 98, 99, 100, 101, 102, 103, 104, 105, 106, 107, 108, 109, 110] (by decide +kernel) (by decide +kernel)
set_option maxRecDepth 20000 in
theorem gX11_wish_X11_isCourse : GoodIn wsX11_wish (wsV RX11 265 RX11 yX11_isCourse wsX11_isCourse) := goodIn_app (goodIn_of _ (by decide +kernel)) ggX11_wish_X11_isCourse
set_option maxRecDepth 20000 in
theorem ggX11_wish_X11_rank : GoodIn wsX11_wish wsX11_rank := goodIn_r _ [21, 2, 3, 52, 53, 54, 55, 56, 57, 58, 59, 60, 61, 62, 63, 64, 65, 66, 67, 68, 69, 70, 71, 72, 73, 74, 75, 76, 77, 78, 79, 80, 81, 82, 83, 84, 85, 86, 87, 88, 89, 90, 91, 92, 93, 94, 95, 96, 97, 98, 99, 100, 101, 102, 103, 104, 105, 106, 107, 108, 109, 110] (by decide +kernel) (by decide +kernel)
set_option maxRecDepth 20000 in
theorem gX11_wish_X11_rank : GoodIn wsX11_wish (wsV RX11 268 RX11 yX11_rank wsX11_rank) := goodIn_app (goodIn_of _ (by decide +kernel)) ggX11_wish_X11_rank
set_option maxRecDepth 20000 in
theorem ggX11_wish_X11_moveUp : GoodIn wsX11_wish wsX11_moveUp := goodIn_r _ [25, 26, 27, 28, 29, 7, 30, 9, 2, 3, 31, 32, 33, 34, 35, 36, 37, 38, 39, 40, 18, 19, 20, 21, 41, 42, 43, 44, 17, 45, 46, 47, 48, 49, 50, 51, 52, 53, 54, 55, 56, 57, 58, 59, 60, 61, 62, 63, 64, 65, 66, 67, 68, 69, 70, 71, 72, 73, 74, 75, 76, 77, 78, 79, 80, 81, 82, 83, 84, 85, 86, 87, 88, 89, 90, 91, 92, 93, 94, 95, 96, 97, 98, 99, 100, 101, 102, 103, 104, 105, 106, 107, 108, 109, 110] (by decide +kernel) (by decide +kernel)
set_option maxRecDepth 20000 in
theorem gX11_wish_X11_moveUp : GoodIn wsX11_wish (wsV RX11 272 RX11 yX11_moveUp wsX11_moveUp) := goodIn_app (goodIn_of _ (by decide +kernel)) ggX11_wish_X11_moveUp
theorem dX11_wish_0 : decode cX11_wish 0 = .ok (.aload_n 0, 1) := by decide +kernel
theorem dX11_wish_1 : decode cX11_wish 1 = .ok (.iconst 0, 1) := by decide +kernel
theorem dX11_wish_2 : decode cX11_wish 2 = .ok (.putfield 179, 3) := by decide +kernel
theorem dX11_wish_5 : decode cX11_wish 5 = .ok (.aload_n 0, 1) := by decide +kernel
theorem dX11_wish_6 : decode cX11_wish 6 = .ok (.iload_n 1, 1) := by decide +kernel
theorem dX11_wish_7 : decode cX11_wish 7 = .ok (.invokevirtual 262, 3) := by decide +kernel
theorem dX11_wish_10 : decode cX11_wish 10 = .ok (.ifCond .eq 32, 3) := by decide +kernel
theorem dX11_wish_13 : decode cX11_wish 13 = .ok (.aload_n 0, 1) := by decide +kernel
theorem dX11_wish_14 : decode cX11_wish 14 = .ok (.iload_n 2, 1) := by decide +kernel
theorem dX11_wish_15 : decode cX11_wish 15 = .ok (.invokevirtual 265, 3) := by decide +kernel
theorem dX11_wish_18 : decode cX11_wish 18 = .ok (.ifCond .eq 24, 3) := by decide +kernel
theorem dX11_wish_21 : decode cX11_wish 21 = .ok (.aload_n 0, 1) := by decide +kernel
theorem dX11_wish_22 : decode cX11_wish 22 = .ok (.getfield 54, 3) := by decide +kernel
theorem dX11_wish_25 : decode cX11_wish 25 = .ok (.iload_n 1, 1) := by decide +kernel
theorem dX11_wish_26 : decode cX11_wish 26 = .ok (.iaload, 1) := by decide +kernel
theorem dX11_wish_27 : decode cX11_wish 27 = .ok (.bipush 6, 2) := by decide +kernel
theorem dX11_wish_29 : decode cX11_wish 29 = .ok (.if_icmp .eq 13, 3) := by decide +kernel
theorem dX11_wish_32 : decode cX11_wish 32 = .ok (.aload_n 0, 1) := by decide +kernel
theorem dX11_wish_33 : decode cX11_wish 33 = .ok (.iload_n 1, 1) := by decide +kernel
theorem dX11_wish_34 : decode cX11_wish 34 = .ok (.iload_n 2, 1) := by decide +kernel
theorem dX11_wish_35 : decode cX11_wish 35 = .ok (.invokevirtual 268, 3) := by decide +kernel
theorem dX11_wish_38 : decode cX11_wish 38 = .ok (.iconst (-1), 1) := by decide +kernel
theorem dX11_wish_39 : decode cX11_wish 39 = .ok (.if_icmp .eq 5, 3) := by decide +kernel
theorem dX11_wish_42 : decode cX11_wish 42 = .ok (.iconst (-1), 1) := by decide +kernel
theorem dX11_wish_43 : decode cX11_wish 43 = .ok (.ireturn, 1) := by decide +kernel
theorem dX11_wish_44 : decode cX11_wish 44 = .ok (.aload_n 0, 1) := by decide +kernel
theorem dX11_wish_45 : decode cX11_wish 45 = .ok (.getfield 57, 3) := by decide +kernel
theorem dX11_wish_48 : decode cX11_wish 48 = .ok (.bipush 6, 2) := by decide +kernel
theorem dX11_wish_50 : decode cX11_wish 50 = .ok (.iload_n 1, 1) := by decide +kernel
theorem dX11_wish_51 : decode cX11_wish 51 = .ok (.imul, 1) := by decide +kernel
theorem dX11_wish_52 : decode cX11_wish 52 = .ok (.aload_n 0, 1) := by decide +kernel
theorem dX11_wish_53 : decode cX11_wish 53 = .ok (.getfield 54, 3) := by decide +kernel
theorem dX11_wish_56 : decode cX11_wish 56 = .ok (.iload_n 1, 1) := by decide +kernel
theorem dX11_wish_57 : decode cX11_wish 57 = .ok (.iaload, 1) := by decide +kernel
theorem dX11_wish_58 : decode cX11_wish 58 = .ok (.iadd, 1) := by decide +kernel
theorem dX11_wish_59 : decode cX11_wish 59 = .ok (.iload_n 2, 1) := by decide +kernel
theorem dX11_wish_60 : decode cX11_wish 60 = .ok (.iastore, 1) := by decide +kernel
theorem dX11_wish_61 : decode cX11_wish 61 = .ok (.aload_n 0, 1) := by decide +kernel
theorem dX11_wish_62 : decode cX11_wish 62 = .ok (.getfield 54, 3) := by decide +kernel
theorem dX11_wish_65 : decode cX11_wish 65 = .ok (.iload_n 1, 1) := by decide +kernel
theorem dX11_wish_66 : decode cX11_wish 66 = .ok (.dup2, 1) := by decide +kernel
theorem dX11_wish_67 : decode cX11_wish 67 = .ok (.iaload, 1) := by decide +kernel
theorem dX11_wish_68 : decode cX11_wish 68 = .ok (.iconst 1, 1) := by decide +kernel
theorem dX11_wish_69 : decode cX11_wish 69 = .ok (.iadd, 1) := by decide +kernel
theorem dX11_wish_70 : decode cX11_wish 70 = .ok (.iastore, 1) := by decide +kernel
theorem dX11_wish_71 : decode cX11_wish 71 = .ok (.aload_n 0, 1) := by decide +kernel
theorem dX11_wish_72 : decode cX11_wish 72 = .ok (.invokevirtual 272, 3) := by decide +kernel
theorem dX11_wish_75 : decode cX11_wish 75 = .ok (.aload_n 0, 1) := by decide +kernel
theorem dX11_wish_76 : decode cX11_wish 76 = .ok (.getfield 54, 3) := by decide +kernel
theorem dX11_wish_79 : decode cX11_wish 79 = .ok (.iload_n 1, 1) := by decide +kernel
theorem dX11_wish_80 : decode cX11_wish 80 = .ok (.iaload, 1) := by decide +kernel
theorem dX11_wish_81 : decode cX11_wish 81 = .ok (.iconst 1, 1) := by decide +kernel
theorem dX11_wish_82 : decode cX11_wish 82 = .ok (.isub, 1) := by decide +kernel
theorem dX11_wish_83 : decode cX11_wish 83 = .ok (.ireturn, 1) := by decide +kernel
theorem dX11_ones_0 : decode cX11_ones 0 = .ok (.iconst 0, 1) := by decide +kernel
theorem dX11_ones_1 : decode cX11_ones 1 = .ok (.istore_n 1, 1) := by decide +kernel
theorem dX11_ones_2 : decode cX11_ones 2 = .ok (.iload_n 0, 1) := by decide +kernel
theorem dX11_ones_3 : decode cX11_ones 3 = .ok (.istore_n 2, 1) := by decide +kernel
theorem dX11_ones_4 : decode cX11_ones 4 = .ok (.iload_n 2, 1) := by decide +kernel
theorem dX11_ones_5 : decode cX11_ones 5 = .ok (.ifCond .eq 15, 3) := by decide +kernel
theorem dX11_ones_8 : decode cX11_ones 8 = .ok (.iinc 1 1, 3) := by decide +kernel
theorem dX11_ones_11 : decode cX11_ones 11 = .ok (.iload_n 2, 1) := by decide +kernel
theorem dX11_ones_12 : decode cX11_ones 12 = .ok (.iload_n 2, 1) := by decide +kernel
theorem dX11_ones_13 : decode cX11_ones 13 = .ok (.iconst 1, 1) := by decide +kernel
theorem dX11_ones_14 : decode cX11_ones 14 = .ok (.isub, 1) := by decide +kernel
theorem dX11_ones_15 : decode cX11_ones 15 = .ok (.iand, 1) := by decide +kernel
theorem dX11_ones_16 : decode cX11_ones 16 = .ok (.istore_n 2, 1) := by decide +kernel
theorem dX11_ones_17 : decode cX11_ones 17 = .ok (.goto (-13), 3) := by decide +kernel
theorem dX11_ones_20 : decode cX11_ones 20 = .ok (.iload_n 1, 1) := by decide +kernel
theorem dX11_ones_21 : decode cX11_ones 21 = .ok (.ireturn, 1) := by decide +kernel
set_option maxRecDepth 20000 in
theorem ggX11_can_X11_ones : GoodIn wsX11_can wsX11_ones := goodIn_r _ [8] (by decide +kernel) (by decide +kernel)
set_option maxRecDepth 20000 in
theorem gX11_can_X11_ones : GoodIn wsX11_can (va_wsS RX11 275 yX11_ones wsX11_ones) := goodIn_app (goodIn_of _ (by decide +kernel)) ggX11_can_X11_ones
set_option maxRecDepth 20000 in
theorem ggX11_can_X11_getsRoom : GoodIn wsX11_can wsX11_getsRoom := goodIn_r _ [12, 1, 2, 13, 4, 14, 15, 16, 17, 18, 19, 20, 21, 22, 23, 24, 25, 26, 27, 28, 29, 30, 31, 32, 33, 34, 35, 36, 37, 38, 39, 40, 41, 42, 43, 44, 45, 46, 47, 48, 49, 50, 51, 52, 53, 54, 55, 56, 57, 58, 59, 60, 61, 62, 63, 64, 65, 66, 67, 68, 69, 70, 71, 72, 73, 74, 75, 76] (by decide +kernel) (by decide +kernel)
set_option maxRecDepth 20000 in
theorem gX11_can_X11_getsRoom : GoodIn wsX11_can (wsV RX11 279 RX11 yX11_getsRoom wsX11_getsRoom) := goodIn_app (goodIn_of _ (by decide +kernel)) ggX11_can_X11_getsRoom
theorem dX11_can_0 : decode cX11_can 0 = .ok (.iload_n 1, 1) := by decide +kernel
theorem dX11_can_1 : decode cX11_can 1 = .ok (.ifCond .lt 14, 3) := by decide +kernel
theorem dX11_can_4 : decode cX11_can 4 = .ok (.iload_n 1, 1) := by decide +kernel
theorem dX11_can_5 : decode cX11_can 5 = .ok (.aload_n 0, 1) := by decide +kernel
theorem dX11_can_6 : decode cX11_can 6 = .ok (.getfield 24, 3) := by decide +kernel
theorem dX11_can_9 : decode cX11_can 9 = .ok (.iconst 0, 1) := by decide +kernel
theorem dX11_can_10 : decode cX11_can 10 = .ok (.iaload, 1) := by decide +kernel
theorem dX11_can_11 : decode cX11_can 11 = .ok (.ishr, 1) := by decide +kernel
theorem dX11_can_12 : decode cX11_can 12 = .ok (.ifCond .eq 5, 3) := by decide +kernel
theorem dX11_can_15 : decode cX11_can 15 = .ok (.iconst 0, 1) := by decide +kernel
theorem dX11_can_16 : decode cX11_can 16 = .ok (.ireturn, 1) := by decide +kernel
theorem dX11_can_17 : decode cX11_can 17 = .ok (.iconst 0, 1) := by decide +kernel
theorem dX11_can_18 : decode cX11_can 18 = .ok (.istore_n 2, 1) := by decide +kernel
theorem dX11_can_19 : decode cX11_can 19 = .ok (.iload_n 2, 1) := by decide +kernel
theorem dX11_can_20 : decode cX11_can 20 = .ok (.iconst 5, 1) := by decide +kernel
theorem dX11_can_21 : decode cX11_can 21 = .ok (.if_icmp .ge 94, 3) := by decide +kernel
theorem dX11_can_24 : decode cX11_can 24 = .ok (.iconst 0, 1) := by decide +kernel
theorem dX11_can_25 : decode cX11_can 25 = .ok (.istore_n 3, 1) := by decide +kernel
theorem dX11_can_26 : decode cX11_can 26 = .ok (.iconst 0, 1) := by decide +kernel
theorem dX11_can_27 : decode cX11_can 27 = .ok (.istore 4, 2) := by decide +kernel
theorem dX11_can_29 : decode cX11_can 29 = .ok (.iload 4, 2) := by decide +kernel
theorem dX11_can_31 : decode cX11_can 31 = .ok (.aload_n 0, 1) := by decide +kernel
theorem dX11_can_32 : decode cX11_can 32 = .ok (.getfield 24, 3) := by decide +kernel
theorem dX11_can_35 : decode cX11_can 35 = .ok (.iconst 0, 1) := by decide +kernel
theorem dX11_can_36 : decode cX11_can 36 = .ok (.iaload, 1) := by decide +kernel
theorem dX11_can_37 : decode cX11_can 37 = .ok (.if_icmp .ge 57, 3) := by decide +kernel
theorem dX11_can_40 : decode cX11_can 40 = .ok (.iload_n 1, 1) := by decide +kernel
theorem dX11_can_41 : decode cX11_can 41 = .ok (.iload 4, 2) := by decide +kernel
theorem dX11_can_43 : decode cX11_can 43 = .ok (.ishr, 1) := by decide +kernel
theorem dX11_can_44 : decode cX11_can 44 = .ok (.iconst 1, 1) := by decide +kernel
theorem dX11_can_45 : decode cX11_can 45 = .ok (.iand, 1) := by decide +kernel
theorem dX11_can_46 : decode cX11_can 46 = .ok (.ifCond .eq 42, 3) := by decide +kernel
theorem dX11_can_49 : decode cX11_can 49 = .ok (.aload_n 0, 1) := by decide +kernel
theorem dX11_can_50 : decode cX11_can 50 = .ok (.getfield 27, 3) := by decide +kernel
theorem dX11_can_53 : decode cX11_can 53 = .ok (.iload 4, 2) := by decide +kernel
theorem dX11_can_55 : decode cX11_can 55 = .ok (.iaload, 1) := by decide +kernel
theorem dX11_can_56 : decode cX11_can 56 = .ok (.iload_n 2, 1) := by decide +kernel
theorem dX11_can_57 : decode cX11_can 57 = .ok (.if_icmp .ne 31, 3) := by decide +kernel
theorem dX11_can_60 : decode cX11_can 60 = .ok (.iload_n 3, 1) := by decide +kernel
theorem dX11_can_61 : decode cX11_can 61 = .ok (.aload_n 0, 1) := by decide +kernel
theorem dX11_can_62 : decode cX11_can 62 = .ok (.getfield 30, 3) := by decide +kernel
theorem dX11_can_65 : decode cX11_can 65 = .ok (.iload 4, 2) := by decide +kernel
theorem dX11_can_67 : decode cX11_can 67 = .ok (.iaload, 1) := by decide +kernel
theorem dX11_can_68 : decode cX11_can 68 = .ok (.ishr, 1) := by decide +kernel
theorem dX11_can_69 : decode cX11_can 69 = .ok (.iconst 1, 1) := by decide +kernel
theorem dX11_can_70 : decode cX11_can 70 = .ok (.iand, 1) := by decide +kernel
theorem dX11_can_71 : decode cX11_can 71 = .ok (.ifCond .eq 5, 3) := by decide +kernel
theorem dX11_can_74 : decode cX11_can 74 = .ok (.iconst 0, 1) := by decide +kernel
theorem dX11_can_75 : decode cX11_can 75 = .ok (.ireturn, 1) := by decide +kernel
theorem dX11_can_76 : decode cX11_can 76 = .ok (.iload_n 3, 1) := by decide +kernel
theorem dX11_can_77 : decode cX11_can 77 = .ok (.iconst 1, 1) := by decide +kernel
theorem dX11_can_78 : decode cX11_can 78 = .ok (.aload_n 0, 1) := by decide +kernel
theorem dX11_can_79 : decode cX11_can 79 = .ok (.getfield 30, 3) := by decide +kernel
theorem dX11_can_82 : decode cX11_can 82 = .ok (.iload 4, 2) := by decide +kernel
theorem dX11_can_84 : decode cX11_can 84 = .ok (.iaload, 1) := by decide +kernel
theorem dX11_can_85 : decode cX11_can 85 = .ok (.ishl, 1) := by decide +kernel
theorem dX11_can_86 : decode cX11_can 86 = .ok (.ior, 1) := by decide +kernel
theorem dX11_can_87 : decode cX11_can 87 = .ok (.istore_n 3, 1) := by decide +kernel
theorem dX11_can_88 : decode cX11_can 88 = .ok (.iinc 4 1, 3) := by decide +kernel
theorem dX11_can_91 : decode cX11_can 91 = .ok (.goto (-62), 3) := by decide +kernel
theorem dX11_can_94 : decode cX11_can 94 = .ok (.iload_n 3, 1) := by decide +kernel
theorem dX11_can_95 : decode cX11_can 95 = .ok (.invokestatic 275, 3) := by decide +kernel
theorem dX11_can_98 : decode cX11_can 98 = .ok (.aload_n 0, 1) := by decide +kernel
theorem dX11_can_99 : decode cX11_can 99 = .ok (.getfield 17, 3) := by decide +kernel
theorem dX11_can_102 : decode cX11_can 102 = .ok (.iconst 0, 1) := by decide +kernel
theorem dX11_can_103 : decode cX11_can 103 = .ok (.iaload, 1) := by decide +kernel
theorem dX11_can_104 : decode cX11_can 104 = .ok (.if_icmp .le 5, 3) := by decide +kernel
theorem dX11_can_107 : decode cX11_can 107 = .ok (.iconst 0, 1) := by decide +kernel
theorem dX11_can_108 : decode cX11_can 108 = .ok (.ireturn, 1) := by decide +kernel
theorem dX11_can_109 : decode cX11_can 109 = .ok (.iinc 2 1, 3) := by decide +kernel
theorem dX11_can_112 : decode cX11_can 112 = .ok (.goto (-93), 3) := by decide +kernel
theorem dX11_can_115 : decode cX11_can 115 = .ok (.iconst 0, 1) := by decide +kernel
theorem dX11_can_116 : decode cX11_can 116 = .ok (.istore_n 2, 1) := by decide +kernel
theorem dX11_can_117 : decode cX11_can 117 = .ok (.iload_n 2, 1) := by decide +kernel
theorem dX11_can_118 : decode cX11_can 118 = .ok (.aload_n 0, 1) := by decide +kernel
theorem dX11_can_119 : decode cX11_can 119 = .ok (.getfield 24, 3) := by decide +kernel
theorem dX11_can_122 : decode cX11_can 122 = .ok (.iconst 0, 1) := by decide +kernel
theorem dX11_can_123 : decode cX11_can 123 = .ok (.iaload, 1) := by decide +kernel
theorem dX11_can_124 : decode cX11_can 124 = .ok (.if_icmp .ge 28, 3) := by decide +kernel
theorem dX11_can_127 : decode cX11_can 127 = .ok (.iload_n 1, 1) := by decide +kernel
theorem dX11_can_128 : decode cX11_can 128 = .ok (.iload_n 2, 1) := by decide +kernel
theorem dX11_can_129 : decode cX11_can 129 = .ok (.ishr, 1) := by decide +kernel
theorem dX11_can_130 : decode cX11_can 130 = .ok (.iconst 1, 1) := by decide +kernel
theorem dX11_can_131 : decode cX11_can 131 = .ok (.iand, 1) := by decide +kernel
theorem dX11_can_132 : decode cX11_can 132 = .ok (.ifCond .eq 14, 3) := by decide +kernel
theorem dX11_can_135 : decode cX11_can 135 = .ok (.aload_n 0, 1) := by decide +kernel
theorem dX11_can_136 : decode cX11_can 136 = .ok (.iload_n 1, 1) := by decide +kernel
theorem dX11_can_137 : decode cX11_can 137 = .ok (.iload_n 2, 1) := by decide +kernel
theorem dX11_can_138 : decode cX11_can 138 = .ok (.invokevirtual 279, 3) := by decide +kernel
theorem dX11_can_141 : decode cX11_can 141 = .ok (.ifCond .ne 5, 3) := by decide +kernel
theorem dX11_can_144 : decode cX11_can 144 = .ok (.iconst 0, 1) := by decide +kernel
theorem dX11_can_145 : decode cX11_can 145 = .ok (.ireturn, 1) := by decide +kernel
theorem dX11_can_146 : decode cX11_can 146 = .ok (.iinc 2 1, 3) := by decide +kernel
theorem dX11_can_149 : decode cX11_can 149 = .ok (.goto (-32), 3) := by decide +kernel
theorem dX11_can_152 : decode cX11_can 152 = .ok (.iconst 1, 1) := by decide +kernel
theorem dX11_can_153 : decode cX11_can 153 = .ok (.ireturn, 1) := by decide +kernel
theorem dX11_getsRoom_0 : decode cX11_getsRoom 0 = .ok (.iconst 0, 1) := by decide +kernel
theorem dX11_getsRoom_1 : decode cX11_getsRoom 1 = .ok (.istore_n 3, 1) := by decide +kernel
theorem dX11_getsRoom_2 : decode cX11_getsRoom 2 = .ok (.iconst 0, 1) := by decide +kernel
theorem dX11_getsRoom_3 : decode cX11_getsRoom 3 = .ok (.istore 4, 2) := by decide +kernel
theorem dX11_getsRoom_5 : decode cX11_getsRoom 5 = .ok (.iload 4, 2) := by decide +kernel
theorem dX11_getsRoom_7 : decode cX11_getsRoom 7 = .ok (.aload_n 0, 1) := by decide +kernel
theorem dX11_getsRoom_8 : decode cX11_getsRoom 8 = .ok (.getfield 24, 3) := by decide +kernel
theorem dX11_getsRoom_11 : decode cX11_getsRoom 11 = .ok (.iconst 0, 1) := by decide +kernel
theorem dX11_getsRoom_12 : decode cX11_getsRoom 12 = .ok (.iaload, 1) := by decide +kernel
theorem dX11_getsRoom_13 : decode cX11_getsRoom 13 = .ok (.if_icmp .ge 92, 3) := by decide +kernel
theorem dX11_getsRoom_16 : decode cX11_getsRoom 16 = .ok (.iload_n 1, 1) := by decide +kernel
theorem dX11_getsRoom_17 : decode cX11_getsRoom 17 = .ok (.iload 4, 2) := by decide +kernel
theorem dX11_getsRoom_19 : decode cX11_getsRoom 19 = .ok (.ishr, 1) := by decide +kernel
theorem dX11_getsRoom_20 : decode cX11_getsRoom 20 = .ok (.iconst 1, 1) := by decide +kernel
theorem dX11_getsRoom_21 : decode cX11_getsRoom 21 = .ok (.iand, 1) := by decide +kernel
theorem dX11_getsRoom_22 : decode cX11_getsRoom 22 = .ok (.ifCond .eq 61, 3) := by decide +kernel
theorem dX11_getsRoom_25 : decode cX11_getsRoom 25 = .ok (.aload_n 0, 1) := by decide +kernel
theorem dX11_getsRoom_26 : decode cX11_getsRoom 26 = .ok (.getfield 27, 3) := by decide +kernel
theorem dX11_getsRoom_29 : decode cX11_getsRoom 29 = .ok (.iload 4, 2) := by decide +kernel
theorem dX11_getsRoom_31 : decode cX11_getsRoom 31 = .ok (.iaload, 1) := by decide +kernel
theorem dX11_getsRoom_32 : decode cX11_getsRoom 32 = .ok (.aload_n 0, 1) := by decide +kernel
theorem dX11_getsRoom_33 : decode cX11_getsRoom 33 = .ok (.getfield 27, 3) := by decide +kernel
theorem dX11_getsRoom_36 : decode cX11_getsRoom 36 = .ok (.iload_n 2, 1) := by decide +kernel
theorem dX11_getsRoom_37 : decode cX11_getsRoom 37 = .ok (.iaload, 1) := by decide +kernel
theorem dX11_getsRoom_38 : decode cX11_getsRoom 38 = .ok (.if_icmp .ne 45, 3) := by decide +kernel
theorem dX11_getsRoom_41 : decode cX11_getsRoom 41 = .ok (.aload_n 0, 1) := by decide +kernel
theorem dX11_getsRoom_42 : decode cX11_getsRoom 42 = .ok (.getfield 36, 3) := by decide +kernel
theorem dX11_getsRoom_45 : decode cX11_getsRoom 45 = .ok (.iload 4, 2) := by decide +kernel
theorem dX11_getsRoom_47 : decode cX11_getsRoom 47 = .ok (.iaload, 1) := by decide +kernel
theorem dX11_getsRoom_48 : decode cX11_getsRoom 48 = .ok (.aload_n 0, 1) := by decide +kernel
theorem dX11_getsRoom_49 : decode cX11_getsRoom 49 = .ok (.getfield 36, 3) := by decide +kernel
theorem dX11_getsRoom_52 : decode cX11_getsRoom 52 = .ok (.iload_n 2, 1) := by decide +kernel
theorem dX11_getsRoom_53 : decode cX11_getsRoom 53 = .ok (.iaload, 1) := by decide +kernel
theorem dX11_getsRoom_54 : decode cX11_getsRoom 54 = .ok (.if_icmp .gt 25, 3) := by decide +kernel
theorem dX11_getsRoom_57 : decode cX11_getsRoom 57 = .ok (.aload_n 0, 1) := by decide +kernel
theorem dX11_getsRoom_58 : decode cX11_getsRoom 58 = .ok (.getfield 36, 3) := by decide +kernel
theorem dX11_getsRoom_61 : decode cX11_getsRoom 61 = .ok (.iload 4, 2) := by decide +kernel
theorem dX11_getsRoom_63 : decode cX11_getsRoom 63 = .ok (.iaload, 1) := by decide +kernel
theorem dX11_getsRoom_64 : decode cX11_getsRoom 64 = .ok (.aload_n 0, 1) := by decide +kernel
theorem dX11_getsRoom_65 : decode cX11_getsRoom 65 = .ok (.getfield 36, 3) := by decide +kernel
theorem dX11_getsRoom_68 : decode cX11_getsRoom 68 = .ok (.iload_n 2, 1) := by decide +kernel
theorem dX11_getsRoom_69 : decode cX11_getsRoom 69 = .ok (.iaload, 1) := by decide +kernel
theorem dX11_getsRoom_70 : decode cX11_getsRoom 70 = .ok (.if_icmp .ne 13, 3) := by decide +kernel
theorem dX11_getsRoom_73 : decode cX11_getsRoom 73 = .ok (.iload 4, 2) := by decide +kernel
theorem dX11_getsRoom_75 : decode cX11_getsRoom 75 = .ok (.iload_n 2, 1) := by decide +kernel
theorem dX11_getsRoom_76 : decode cX11_getsRoom 76 = .ok (.if_icmp .ge 7, 3) := by decide +kernel
theorem dX11_getsRoom_79 : decode cX11_getsRoom 79 = .ok (.iconst 1, 1) := by decide +kernel
theorem dX11_getsRoom_80 : decode cX11_getsRoom 80 = .ok (.goto 4, 3) := by decide +kernel
theorem dX11_getsRoom_83 : decode cX11_getsRoom 83 = .ok (.iconst 0, 1) := by decide +kernel
theorem dX11_getsRoom_84 : decode cX11_getsRoom 84 = .ok (.istore 5, 2) := by decide +kernel
theorem dX11_getsRoom_86 : decode cX11_getsRoom 86 = .ok (.iload_n 3, 1) := by decide +kernel
theorem dX11_getsRoom_87 : decode cX11_getsRoom 87 = .ok (.iload 5, 2) := by decide +kernel
theorem dX11_getsRoom_89 : decode cX11_getsRoom 89 = .ok (.ifCond .eq 7, 3) := by decide +kernel
theorem dX11_getsRoom_92 : decode cX11_getsRoom 92 = .ok (.iconst 1, 1) := by decide +kernel
theorem dX11_getsRoom_93 : decode cX11_getsRoom 93 = .ok (.goto 4, 3) := by decide +kernel
theorem dX11_getsRoom_96 : decode cX11_getsRoom 96 = .ok (.iconst 0, 1) := by decide +kernel
theorem dX11_getsRoom_97 : decode cX11_getsRoom 97 = .ok (.iadd, 1) := by decide +kernel
theorem dX11_getsRoom_98 : decode cX11_getsRoom 98 = .ok (.istore_n 3, 1) := by decide +kernel
theorem dX11_getsRoom_99 : decode cX11_getsRoom 99 = .ok (.iinc 4 1, 3) := by decide +kernel
theorem dX11_getsRoom_102 : decode cX11_getsRoom 102 = .ok (.goto (-97), 3) := by decide +kernel
theorem dX11_getsRoom_105 : decode cX11_getsRoom 105 = .ok (.iconst 0, 1) := by decide +kernel
theorem dX11_getsRoom_106 : decode cX11_getsRoom 106 = .ok (.istore 4, 2) := by decide +kernel
theorem dX11_getsRoom_108 : decode cX11_getsRoom 108 = .ok (.iload 4, 2) := by decide +kernel
theorem dX11_getsRoom_110 : decode cX11_getsRoom 110 = .ok (.aload_n 0, 1) := by decide +kernel
theorem dX11_getsRoom_111 : decode cX11_getsRoom 111 = .ok (.getfield 17, 3) := by decide +kernel
theorem dX11_getsRoom_114 : decode cX11_getsRoom 114 = .ok (.iconst 0, 1) := by decide +kernel
theorem dX11_getsRoom_115 : decode cX11_getsRoom 115 = .ok (.iaload, 1) := by decide +kernel
theorem dX11_getsRoom_116 : decode cX11_getsRoom 116 = .ok (.if_icmp .ge 135, 3) := by decide +kernel
theorem dX11_getsRoom_119 : decode cX11_getsRoom 119 = .ok (.iconst 0, 1) := by decide +kernel
theorem dX11_getsRoom_120 : decode cX11_getsRoom 120 = .ok (.istore 5, 2) := by decide +kernel
theorem dX11_getsRoom_122 : decode cX11_getsRoom 122 = .ok (.iconst 0, 1) := by decide +kernel
theorem dX11_getsRoom_123 : decode cX11_getsRoom 123 = .ok (.istore 6, 2) := by decide +kernel
theorem dX11_getsRoom_125 : decode cX11_getsRoom 125 = .ok (.iload 6, 2) := by decide +kernel
theorem dX11_getsRoom_127 : decode cX11_getsRoom 127 = .ok (.aload_n 0, 1) := by decide +kernel
theorem dX11_getsRoom_128 : decode cX11_getsRoom 128 = .ok (.getfield 17, 3) := by decide +kernel
theorem dX11_getsRoom_131 : decode cX11_getsRoom 131 = .ok (.iconst 0, 1) := by decide +kernel
theorem dX11_getsRoom_132 : decode cX11_getsRoom 132 = .ok (.iaload, 1) := by decide +kernel
theorem dX11_getsRoom_133 : decode cX11_getsRoom 133 = .ok (.if_icmp .ge 60, 3) := by decide +kernel
theorem dX11_getsRoom_136 : decode cX11_getsRoom 136 = .ok (.iload 5, 2) := by decide +kernel
theorem dX11_getsRoom_138 : decode cX11_getsRoom 138 = .ok (.aload_n 0, 1) := by decide +kernel
theorem dX11_getsRoom_139 : decode cX11_getsRoom 139 = .ok (.getfield 21, 3) := by decide +kernel
theorem dX11_getsRoom_142 : decode cX11_getsRoom 142 = .ok (.iload 6, 2) := by decide +kernel
theorem dX11_getsRoom_144 : decode cX11_getsRoom 144 = .ok (.iaload, 1) := by decide +kernel
theorem dX11_getsRoom_145 : decode cX11_getsRoom 145 = .ok (.aload_n 0, 1) := by decide +kernel
theorem dX11_getsRoom_146 : decode cX11_getsRoom 146 = .ok (.getfield 21, 3) := by decide +kernel
theorem dX11_getsRoom_149 : decode cX11_getsRoom 149 = .ok (.iload 4, 2) := by decide +kernel
theorem dX11_getsRoom_151 : decode cX11_getsRoom 151 = .ok (.iaload, 1) := by decide +kernel
theorem dX11_getsRoom_152 : decode cX11_getsRoom 152 = .ok (.if_icmp .gt 27, 3) := by decide +kernel
theorem dX11_getsRoom_155 : decode cX11_getsRoom 155 = .ok (.aload_n 0, 1) := by decide +kernel
theorem dX11_getsRoom_156 : decode cX11_getsRoom 156 = .ok (.getfield 21, 3) := by decide +kernel
theorem dX11_getsRoom_159 : decode cX11_getsRoom 159 = .ok (.iload 6, 2) := by decide +kernel
theorem dX11_getsRoom_161 : decode cX11_getsRoom 161 = .ok (.iaload, 1) := by decide +kernel
theorem dX11_getsRoom_162 : decode cX11_getsRoom 162 = .ok (.aload_n 0, 1) := by decide +kernel
theorem dX11_getsRoom_163 : decode cX11_getsRoom 163 = .ok (.getfield 21, 3) := by decide +kernel
theorem dX11_getsRoom_166 : decode cX11_getsRoom 166 = .ok (.iload 4, 2) := by decide +kernel
theorem dX11_getsRoom_168 : decode cX11_getsRoom 168 = .ok (.iaload, 1) := by decide +kernel
theorem dX11_getsRoom_169 : decode cX11_getsRoom 169 = .ok (.if_icmp .ne 14, 3) := by decide +kernel
theorem dX11_getsRoom_172 : decode cX11_getsRoom 172 = .ok (.iload 6, 2) := by decide +kernel
theorem dX11_getsRoom_174 : decode cX11_getsRoom 174 = .ok (.iload 4, 2) := by decide +kernel
theorem dX11_getsRoom_176 : decode cX11_getsRoom 176 = .ok (.if_icmp .ge 7, 3) := by decide +kernel
theorem dX11_getsRoom_179 : decode cX11_getsRoom 179 = .ok (.iconst 1, 1) := by decide +kernel
theorem dX11_getsRoom_180 : decode cX11_getsRoom 180 = .ok (.goto 4, 3) := by decide +kernel
theorem dX11_getsRoom_183 : decode cX11_getsRoom 183 = .ok (.iconst 0, 1) := by decide +kernel
theorem dX11_getsRoom_184 : decode cX11_getsRoom 184 = .ok (.iadd, 1) := by decide +kernel
theorem dX11_getsRoom_185 : decode cX11_getsRoom 185 = .ok (.istore 5, 2) := by decide +kernel
theorem dX11_getsRoom_187 : decode cX11_getsRoom 187 = .ok (.iinc 6 1, 3) := by decide +kernel
theorem dX11_getsRoom_190 : decode cX11_getsRoom 190 = .ok (.goto (-65), 3) := by decide +kernel
theorem dX11_getsRoom_193 : decode cX11_getsRoom 193 = .ok (.iload 5, 2) := by decide +kernel
theorem dX11_getsRoom_195 : decode cX11_getsRoom 195 = .ok (.iload_n 3, 1) := by decide +kernel
theorem dX11_getsRoom_196 : decode cX11_getsRoom 196 = .ok (.if_icmp .ne 49, 3) := by decide +kernel
theorem dX11_getsRoom_199 : decode cX11_getsRoom 199 = .ok (.aload_n 0, 1) := by decide +kernel
theorem dX11_getsRoom_200 : decode cX11_getsRoom 200 = .ok (.getfield 136, 3) := by decide +kernel
theorem dX11_getsRoom_203 : decode cX11_getsRoom 203 = .ok (.iload_n 2, 1) := by decide +kernel
theorem dX11_getsRoom_204 : decode cX11_getsRoom 204 = .ok (.iload 4, 2) := by decide +kernel
theorem dX11_getsRoom_206 : decode cX11_getsRoom 206 = .ok (.iastore, 1) := by decide +kernel
theorem dX11_getsRoom_207 : decode cX11_getsRoom 207 = .ok (.aload_n 0, 1) := by decide +kernel
theorem dX11_getsRoom_208 : decode cX11_getsRoom 208 = .ok (.getfield 139, 3) := by decide +kernel
theorem dX11_getsRoom_211 : decode cX11_getsRoom 211 = .ok (.iload_n 2, 1) := by decide +kernel
theorem dX11_getsRoom_212 : decode cX11_getsRoom 212 = .ok (.aload_n 0, 1) := by decide +kernel
theorem dX11_getsRoom_213 : decode cX11_getsRoom 213 = .ok (.getfield 36, 3) := by decide +kernel
theorem dX11_getsRoom_216 : decode cX11_getsRoom 216 = .ok (.iload_n 2, 1) := by decide +kernel
theorem dX11_getsRoom_217 : decode cX11_getsRoom 217 = .ok (.iaload, 1) := by decide +kernel
theorem dX11_getsRoom_218 : decode cX11_getsRoom 218 = .ok (.aload_n 0, 1) := by decide +kernel
theorem dX11_getsRoom_219 : decode cX11_getsRoom 219 = .ok (.getfield 21, 3) := by decide +kernel
theorem dX11_getsRoom_222 : decode cX11_getsRoom 222 = .ok (.iload 4, 2) := by decide +kernel
theorem dX11_getsRoom_224 : decode cX11_getsRoom 224 = .ok (.iaload, 1) := by decide +kernel
theorem dX11_getsRoom_225 : decode cX11_getsRoom 225 = .ok (.if_icmp .ge 12, 3) := by decide +kernel
theorem dX11_getsRoom_228 : decode cX11_getsRoom 228 = .ok (.aload_n 0, 1) := by decide +kernel
theorem dX11_getsRoom_229 : decode cX11_getsRoom 229 = .ok (.getfield 36, 3) := by decide +kernel
theorem dX11_getsRoom_232 : decode cX11_getsRoom 232 = .ok (.iload_n 2, 1) := by decide +kernel
theorem dX11_getsRoom_233 : decode cX11_getsRoom 233 = .ok (.iaload, 1) := by decide +kernel
theorem dX11_getsRoom_234 : decode cX11_getsRoom 234 = .ok (.goto 10, 3) := by decide +kernel
theorem dX11_getsRoom_237 : decode cX11_getsRoom 237 = .ok (.aload_n 0, 1) := by decide +kernel
theorem dX11_getsRoom_238 : decode cX11_getsRoom 238 = .ok (.getfield 21, 3) := by decide +kernel
theorem dX11_getsRoom_241 : decode cX11_getsRoom 241 = .ok (.iload 4, 2) := by decide +kernel
theorem dX11_getsRoom_243 : decode cX11_getsRoom 243 = .ok (.iaload, 1) := by decide +kernel
theorem dX11_getsRoom_244 : decode cX11_getsRoom 244 = .ok (.iastore, 1) := by decide +kernel
theorem dX11_getsRoom_245 : decode cX11_getsRoom 245 = .ok (.iinc 4 1, 3) := by decide +kernel
theorem dX11_getsRoom_248 : decode cX11_getsRoom 248 = .ok (.goto (-140), 3) := by decide +kernel
theorem dX11_getsRoom_251 : decode cX11_getsRoom 251 = .ok (.aload_n 0, 1) := by decide +kernel
theorem dX11_getsRoom_252 : decode cX11_getsRoom 252 = .ok (.getfield 139, 3) := by decide +kernel
theorem dX11_getsRoom_255 : decode cX11_getsRoom 255 = .ok (.iload_n 2, 1) := by decide +kernel
theorem dX11_getsRoom_256 : decode cX11_getsRoom 256 = .ok (.iaload, 1) := by decide +kernel
theorem dX11_getsRoom_257 : decode cX11_getsRoom 257 = .ok (.aload_n 0, 1) := by decide +kernel
theorem dX11_getsRoom_258 : decode cX11_getsRoom 258 = .ok (.getfield 33, 3) := by decide +kernel
theorem dX11_getsRoom_261 : decode cX11_getsRoom 261 = .ok (.iload_n 2, 1) := by decide +kernel
theorem dX11_getsRoom_262 : decode cX11_getsRoom 262 = .ok (.iaload, 1) := by decide +kernel
theorem dX11_getsRoom_263 : decode cX11_getsRoom 263 = .ok (.if_icmp .lt 7, 3) := by decide +kernel
theorem dX11_getsRoom_266 : decode cX11_getsRoom 266 = .ok (.iconst 1, 1) := by decide +kernel
theorem dX11_getsRoom_267 : decode cX11_getsRoom 267 = .ok (.goto 4, 3) := by decide +kernel
theorem dX11_getsRoom_270 : decode cX11_getsRoom 270 = .ok (.iconst 0, 1) := by decide +kernel
theorem dX11_getsRoom_271 : decode cX11_getsRoom 271 = .ok (.ireturn, 1) := by decide +kernel
set_option maxRecDepth 20000 in
theorem ggX11_canHold_X11_can : GoodIn wsX11_canHold wsX11_can := goodIn_r _ [6, 7, 8, 9, 10, 11, 12, 5, 13, 14, 15, 16, 17, 18, 19, 20, 21, 22, 23, 24, 25, 26, 27, 28, 29, 30, 31, 32, 33, 34, 35, 36, 37, 38, 39, 40, 41, 42, 43, 44, 45, 46, 47, 48, 49, 50, 51, 52, 53, 54, 55, 56, 57, 58, 59, 60, 61, 62, 63, 64, 65, 66, 67, 68, 69, 70, 71, 72, 73, 74, 75, 76, 77, 78, 79, 80, 81] (by decide +kernel) (by decide +kernel)
set_option maxRecDepth 20000 in
theorem gX11_canHold_X11_can : GoodIn wsX11_canHold (wsV RX11 282 RX11 yX11_can wsX11_can) := goodIn_app (goodIn_of _ (by decide +kernel)) ggX11_canHold_X11_can
theorem dX11_canHold_0 : decode cX11_canHold 0 = .ok (.aload_n 0, 1) := by decide +kernel
theorem dX11_canHold_1 : decode cX11_canHold 1 = .ok (.iconst 0, 1) := by decide +kernel
theorem dX11_canHold_2 : decode cX11_canHold 2 = .ok (.putfield 179, 3) := by decide +kernel
theorem dX11_canHold_5 : decode cX11_canHold 5 = .ok (.aload_n 0, 1) := by decide +kernel
theorem dX11_canHold_6 : decode cX11_canHold 6 = .ok (.iload_n 1, 1) := by decide +kernel
theorem dX11_canHold_7 : decode cX11_canHold 7 = .ok (.invokevirtual 282, 3) := by decide +kernel
theorem dX11_canHold_10 : decode cX11_canHold 10 = .ok (.ireturn, 1) := by decide +kernel
theorem dX11_evenings_0 : decode cX11_evenings 0 = .ok (.iconst 0, 1) := by decide +kernel
theorem dX11_evenings_1 : decode cX11_evenings 1 = .ok (.istore_n 2, 1) := by decide +kernel
theorem dX11_evenings_2 : decode cX11_evenings 2 = .ok (.iconst 0, 1) := by decide +kernel
theorem dX11_evenings_3 : decode cX11_evenings 3 = .ok (.istore_n 3, 1) := by decide +kernel
theorem dX11_evenings_4 : decode cX11_evenings 4 = .ok (.iload_n 3, 1) := by decide +kernel
theorem dX11_evenings_5 : decode cX11_evenings 5 = .ok (.aload_n 0, 1) := by decide +kernel
theorem dX11_evenings_6 : decode cX11_evenings 6 = .ok (.getfield 24, 3) := by decide +kernel
theorem dX11_evenings_9 : decode cX11_evenings 9 = .ok (.iconst 0, 1) := by decide +kernel
theorem dX11_evenings_10 : decode cX11_evenings 10 = .ok (.iaload, 1) := by decide +kernel
theorem dX11_evenings_11 : decode cX11_evenings 11 = .ok (.if_icmp .ge 32, 3) := by decide +kernel
theorem dX11_evenings_14 : decode cX11_evenings 14 = .ok (.iload_n 2, 1) := by decide +kernel
theorem dX11_evenings_15 : decode cX11_evenings 15 = .ok (.iload_n 1, 1) := by decide +kernel
theorem dX11_evenings_16 : decode cX11_evenings 16 = .ok (.iload_n 3, 1) := by decide +kernel
theorem dX11_evenings_17 : decode cX11_evenings 17 = .ok (.ishr, 1) := by decide +kernel
theorem dX11_evenings_18 : decode cX11_evenings 18 = .ok (.iconst 1, 1) := by decide +kernel
theorem dX11_evenings_19 : decode cX11_evenings 19 = .ok (.iand, 1) := by decide +kernel
theorem dX11_evenings_20 : decode cX11_evenings 20 = .ok (.ifCond .eq 14, 3) := by decide +kernel
theorem dX11_evenings_23 : decode cX11_evenings 23 = .ok (.iconst 1, 1) := by decide +kernel
theorem dX11_evenings_24 : decode cX11_evenings 24 = .ok (.aload_n 0, 1) := by decide +kernel
theorem dX11_evenings_25 : decode cX11_evenings 25 = .ok (.getfield 27, 3) := by decide +kernel
theorem dX11_evenings_28 : decode cX11_evenings 28 = .ok (.iload_n 3, 1) := by decide +kernel
theorem dX11_evenings_29 : decode cX11_evenings 29 = .ok (.iaload, 1) := by decide +kernel
theorem dX11_evenings_30 : decode cX11_evenings 30 = .ok (.ishl, 1) := by decide +kernel
theorem dX11_evenings_31 : decode cX11_evenings 31 = .ok (.goto 4, 3) := by decide +kernel
theorem dX11_evenings_34 : decode cX11_evenings 34 = .ok (.iconst 0, 1) := by decide +kernel
theorem dX11_evenings_35 : decode cX11_evenings 35 = .ok (.ior, 1) := by decide +kernel
theorem dX11_evenings_36 : decode cX11_evenings 36 = .ok (.istore_n 2, 1) := by decide +kernel
theorem dX11_evenings_37 : decode cX11_evenings 37 = .ok (.iinc 3 1, 3) := by decide +kernel
theorem dX11_evenings_40 : decode cX11_evenings 40 = .ok (.goto (-36), 3) := by decide +kernel
theorem dX11_evenings_43 : decode cX11_evenings 43 = .ok (.iload_n 2, 1) := by decide +kernel
theorem dX11_evenings_44 : decode cX11_evenings 44 = .ok (.ireturn, 1) := by decide +kernel
theorem dX11_taken_0 : decode cX11_taken 0 = .ok (.iconst 0, 1) := by decide +kernel
theorem dX11_taken_1 : decode cX11_taken 1 = .ok (.istore_n 3, 1) := by decide +kernel
theorem dX11_taken_2 : decode cX11_taken 2 = .ok (.iconst 0, 1) := by decide +kernel
theorem dX11_taken_3 : decode cX11_taken 3 = .ok (.istore 4, 2) := by decide +kernel
theorem dX11_taken_5 : decode cX11_taken 5 = .ok (.iload 4, 2) := by decide +kernel
theorem dX11_taken_7 : decode cX11_taken 7 = .ok (.aload_n 0, 1) := by decide +kernel
theorem dX11_taken_8 : decode cX11_taken 8 = .ok (.getfield 42, 3) := by decide +kernel
theorem dX11_taken_11 : decode cX11_taken 11 = .ok (.iconst 0, 1) := by decide +kernel
theorem dX11_taken_12 : decode cX11_taken 12 = .ok (.iaload, 1) := by decide +kernel
theorem dX11_taken_13 : decode cX11_taken 13 = .ok (.if_icmp .ge 20, 3) := by decide +kernel
theorem dX11_taken_16 : decode cX11_taken 16 = .ok (.iload_n 3, 1) := by decide +kernel
theorem dX11_taken_17 : decode cX11_taken 17 = .ok (.aload_n 1, 1) := by decide +kernel
theorem dX11_taken_18 : decode cX11_taken 18 = .ok (.iload 4, 2) := by decide +kernel
theorem dX11_taken_20 : decode cX11_taken 20 = .ok (.iaload, 1) := by decide +kernel
theorem dX11_taken_21 : decode cX11_taken 21 = .ok (.iload_n 2, 1) := by decide +kernel
theorem dX11_taken_22 : decode cX11_taken 22 = .ok (.ishr, 1) := by decide +kernel
theorem dX11_taken_23 : decode cX11_taken 23 = .ok (.iconst 1, 1) := by decide +kernel
theorem dX11_taken_24 : decode cX11_taken 24 = .ok (.iand, 1) := by decide +kernel
theorem dX11_taken_25 : decode cX11_taken 25 = .ok (.iadd, 1) := by decide +kernel
theorem dX11_taken_26 : decode cX11_taken 26 = .ok (.istore_n 3, 1) := by decide +kernel
theorem dX11_taken_27 : decode cX11_taken 27 = .ok (.iinc 4 1, 3) := by decide +kernel
theorem dX11_taken_30 : decode cX11_taken 30 = .ok (.goto (-25), 3) := by decide +kernel
theorem dX11_taken_33 : decode cX11_taken 33 = .ok (.iload_n 3, 1) := by decide +kernel
theorem dX11_taken_34 : decode cX11_taken 34 = .ok (.ireturn, 1) := by decide +kernel
set_option maxRecDepth 20000 in
theorem ggX11_placed_X11_can : GoodIn wsX11_placed wsX11_can := goodIn_r _ [12, 6, 13, 14, 15, 16, 17, 11, 18, 19, 20, 21, 22, 23, 24, 25, 26, 7, 39, 40, 41, 42, 43, 44, 45, 46, 47, 48, 49, 50, 51, 52, 53, 54, 55, 56, 57, 58, 59, 60, 61, 62, 63, 64, 65, 66, 67, 68, 69, 70, 71, 72, 73, 74, 75, 76, 77, 78, 79, 80, 81, 82, 83, 84, 85, 86, 87, 88, 89, 90, 91, 92, 93, 94, 95, 96, 97] (by decide +kernel) (by decide +kernel)
set_option maxRecDepth 20000 in
theorem gX11_placed_X11_can : GoodIn wsX11_placed (wsV RX11 282 RX11 yX11_can wsX11_can) := goodIn_app (goodIn_of _ (by decide +kernel)) ggX11_placed_X11_can
set_option maxRecDepth 20000 in
theorem ggX11_placed_X11_ones : GoodIn wsX11_placed wsX11_ones := goodIn_r _ [18] (by decide +kernel) (by decide +kernel)
set_option maxRecDepth 20000 in
theorem gX11_placed_X11_ones : GoodIn wsX11_placed (va_wsS RX11 275 yX11_ones wsX11_ones) := goodIn_app (goodIn_of _ (by decide +kernel)) ggX11_placed_X11_ones
set_option maxRecDepth 20000 in
theorem ggX11_placed_X11_isFor : GoodIn wsX11_placed wsX11_isFor := goodIn_r _ [30, 2, 13, 26, 31, 32, 33, 11, 34, 6, 35, 36, 37, 38, 1, 39, 40, 41, 42, 43, 44, 45, 46, 47, 48, 49, 50, 51, 52, 53, 54, 55, 56, 57, 58, 59, 60, 61, 62, 63, 64, 65, 66, 67, 68, 69, 70, 71, 72, 73, 74, 75, 76, 77, 78, 79, 80, 81, 82, 83, 84, 85, 86, 87, 88, 89, 90, 91, 92, 93, 94, 95, 96, 97] (by decide +kernel) (by decide +kernel)
set_option maxRecDepth 20000 in
theorem gX11_placed_X11_isFor : GoodIn wsX11_placed (wsV RX11 285 RX11 yX11_isFor wsX11_isFor) := goodIn_app (goodIn_of _ (by decide +kernel)) ggX11_placed_X11_isFor
set_option maxRecDepth 20000 in
theorem ggX11_placed_X11_taken : GoodIn wsX11_placed wsX11_taken := goodIn_r _ [38, 1, 39, 40, 41, 42, 43, 44, 45, 46, 47, 48, 49, 50, 51, 52, 53, 54, 55, 56, 57, 58, 59, 60, 61, 62, 63, 64, 65, 66, 67, 68, 69, 70, 71, 72, 73, 74, 75, 76, 77, 78, 79, 80, 81, 82, 83, 84, 85, 86, 87, 88, 89, 90, 91, 92, 93, 94, 95, 96, 97] (by decide +kernel) (by decide +kernel)
set_option maxRecDepth 20000 in
theorem gX11_placed_X11_taken : GoodIn wsX11_placed (wsV RX11 288 RX11 yX11_taken wsX11_taken) := goodIn_app (goodIn_of _ (by decide +kernel)) ggX11_placed_X11_taken
theorem dX11_placed_0 : decode cX11_placed 0 = .ok (.aload_n 0, 1) := by decide +kernel
theorem dX11_placed_1 : decode cX11_placed 1 = .ok (.iload_n 1, 1) := by decide +kernel
theorem dX11_placed_2 : decode cX11_placed 2 = .ok (.invokevirtual 282, 3) := by decide +kernel
theorem dX11_placed_5 : decode cX11_placed 5 = .ok (.ifCond .ne 5, 3) := by decide +kernel
theorem dX11_placed_8 : decode cX11_placed 8 = .ok (.iconst (-1), 1) := by decide +kernel
theorem dX11_placed_9 : decode cX11_placed 9 = .ok (.ireturn, 1) := by decide +kernel
theorem dX11_placed_10 : decode cX11_placed 10 = .ok (.iconst 0, 1) := by decide +kernel
theorem dX11_placed_11 : decode cX11_placed 11 = .ok (.istore_n 2, 1) := by decide +kernel
theorem dX11_placed_12 : decode cX11_placed 12 = .ok (.iload_n 2, 1) := by decide +kernel
theorem dX11_placed_13 : decode cX11_placed 13 = .ok (.aload_n 0, 1) := by decide +kernel
theorem dX11_placed_14 : decode cX11_placed 14 = .ok (.getfield 42, 3) := by decide +kernel
theorem dX11_placed_17 : decode cX11_placed 17 = .ok (.iconst 0, 1) := by decide +kernel
theorem dX11_placed_18 : decode cX11_placed 18 = .ok (.iaload, 1) := by decide +kernel
theorem dX11_placed_19 : decode cX11_placed 19 = .ok (.if_icmp .ge 16, 3) := by decide +kernel
theorem dX11_placed_22 : decode cX11_placed 22 = .ok (.aload_n 0, 1) := by decide +kernel
theorem dX11_placed_23 : decode cX11_placed 23 = .ok (.getfield 142, 3) := by decide +kernel
theorem dX11_placed_26 : decode cX11_placed 26 = .ok (.iload_n 2, 1) := by decide +kernel
theorem dX11_placed_27 : decode cX11_placed 27 = .ok (.iconst 0, 1) := by decide +kernel
theorem dX11_placed_28 : decode cX11_placed 28 = .ok (.iastore, 1) := by decide +kernel
theorem dX11_placed_29 : decode cX11_placed 29 = .ok (.iinc 2 1, 3) := by decide +kernel
theorem dX11_placed_32 : decode cX11_placed 32 = .ok (.goto (-20), 3) := by decide +kernel
theorem dX11_placed_35 : decode cX11_placed 35 = .ok (.iconst 0, 1) := by decide +kernel
theorem dX11_placed_36 : decode cX11_placed 36 = .ok (.istore_n 2, 1) := by decide +kernel
theorem dX11_placed_37 : decode cX11_placed 37 = .ok (.iconst 0, 1) := by decide +kernel
theorem dX11_placed_38 : decode cX11_placed 38 = .ok (.istore_n 3, 1) := by decide +kernel
theorem dX11_placed_39 : decode cX11_placed 39 = .ok (.iload_n 3, 1) := by decide +kernel
theorem dX11_placed_40 : decode cX11_placed 40 = .ok (.iconst 3, 1) := by decide +kernel
theorem dX11_placed_41 : decode cX11_placed 41 = .ok (.if_icmp .ge 171, 3) := by decide +kernel
theorem dX11_placed_44 : decode cX11_placed 44 = .ok (.iconst 0, 1) := by decide +kernel
theorem dX11_placed_45 : decode cX11_placed 45 = .ok (.istore 4, 2) := by decide +kernel
theorem dX11_placed_47 : decode cX11_placed 47 = .ok (.iload 4, 2) := by decide +kernel
theorem dX11_placed_49 : decode cX11_placed 49 = .ok (.aload_n 0, 1) := by decide +kernel
theorem dX11_placed_50 : decode cX11_placed 50 = .ok (.getfield 42, 3) := by decide +kernel
theorem dX11_placed_53 : decode cX11_placed 53 = .ok (.iconst 0, 1) := by decide +kernel
theorem dX11_placed_54 : decode cX11_placed 54 = .ok (.iaload, 1) := by decide +kernel
theorem dX11_placed_55 : decode cX11_placed 55 = .ok (.if_icmp .ge 151, 3) := by decide +kernel
theorem dX11_placed_58 : decode cX11_placed 58 = .ok (.iload_n 3, 1) := by decide +kernel
theorem dX11_placed_59 : decode cX11_placed 59 = .ok (.iconst 1, 1) := by decide +kernel
theorem dX11_placed_60 : decode cX11_placed 60 = .ok (.if_icmp .ne 17, 3) := by decide +kernel
theorem dX11_placed_63 : decode cX11_placed 63 = .ok (.aload_n 0, 1) := by decide +kernel
theorem dX11_placed_64 : decode cX11_placed 64 = .ok (.getfield 42, 3) := by decide +kernel
theorem dX11_placed_67 : decode cX11_placed 67 = .ok (.iconst 0, 1) := by decide +kernel
theorem dX11_placed_68 : decode cX11_placed 68 = .ok (.iaload, 1) := by decide +kernel
theorem dX11_placed_69 : decode cX11_placed 69 = .ok (.iconst 1, 1) := by decide +kernel
theorem dX11_placed_70 : decode cX11_placed 70 = .ok (.isub, 1) := by decide +kernel
theorem dX11_placed_71 : decode cX11_placed 71 = .ok (.iload 4, 2) := by decide +kernel
theorem dX11_placed_73 : decode cX11_placed 73 = .ok (.isub, 1) := by decide +kernel
theorem dX11_placed_74 : decode cX11_placed 74 = .ok (.goto 5, 3) := by decide +kernel
theorem dX11_placed_77 : decode cX11_placed 77 = .ok (.iload 4, 2) := by decide +kernel
theorem dX11_placed_79 : decode cX11_placed 79 = .ok (.istore 5, 2) := by decide +kernel
theorem dX11_placed_81 : decode cX11_placed 81 = .ok (.aload_n 0, 1) := by decide +kernel
theorem dX11_placed_82 : decode cX11_placed 82 = .ok (.getfield 142, 3) := by decide +kernel
theorem dX11_placed_85 : decode cX11_placed 85 = .ok (.iload 5, 2) := by decide +kernel
theorem dX11_placed_87 : decode cX11_placed 87 = .ok (.iaload, 1) := by decide +kernel
theorem dX11_placed_88 : decode cX11_placed 88 = .ok (.invokestatic 275, 3) := by decide +kernel
theorem dX11_placed_91 : decode cX11_placed 91 = .ok (.aload_n 0, 1) := by decide +kernel
theorem dX11_placed_92 : decode cX11_placed 92 = .ok (.getfield 51, 3) := by decide +kernel
theorem dX11_placed_95 : decode cX11_placed 95 = .ok (.iload 5, 2) := by decide +kernel
theorem dX11_placed_97 : decode cX11_placed 97 = .ok (.iaload, 1) := by decide +kernel
theorem dX11_placed_98 : decode cX11_placed 98 = .ok (.if_icmp .ge 7, 3) := by decide +kernel
theorem dX11_placed_101 : decode cX11_placed 101 = .ok (.iconst 0, 1) := by decide +kernel
theorem dX11_placed_102 : decode cX11_placed 102 = .ok (.goto 10, 3) := by decide +kernel
theorem dX11_placed_105 : decode cX11_placed 105 = .ok (.aload_n 0, 1) := by decide +kernel
theorem dX11_placed_106 : decode cX11_placed 106 = .ok (.getfield 54, 3) := by decide +kernel
theorem dX11_placed_109 : decode cX11_placed 109 = .ok (.iload 5, 2) := by decide +kernel
theorem dX11_placed_111 : decode cX11_placed 111 = .ok (.iaload, 1) := by decide +kernel
theorem dX11_placed_112 : decode cX11_placed 112 = .ok (.istore 6, 2) := by decide +kernel
theorem dX11_placed_114 : decode cX11_placed 114 = .ok (.iload 6, 2) := by decide +kernel
theorem dX11_placed_116 : decode cX11_placed 116 = .ok (.aload_n 0, 1) := by decide +kernel
theorem dX11_placed_117 : decode cX11_placed 117 = .ok (.getfield 54, 3) := by decide +kernel
theorem dX11_placed_120 : decode cX11_placed 120 = .ok (.iload 5, 2) := by decide +kernel
theorem dX11_placed_122 : decode cX11_placed 122 = .ok (.iaload, 1) := by decide +kernel
theorem dX11_placed_123 : decode cX11_placed 123 = .ok (.if_icmp .ge 32, 3) := by decide +kernel
theorem dX11_placed_126 : decode cX11_placed 126 = .ok (.aload_n 0, 1) := by decide +kernel
theorem dX11_placed_127 : decode cX11_placed 127 = .ok (.iload_n 1, 1) := by decide +kernel
theorem dX11_placed_128 : decode cX11_placed 128 = .ok (.iload 5, 2) := by decide +kernel
theorem dX11_placed_130 : decode cX11_placed 130 = .ok (.aload_n 0, 1) := by decide +kernel
theorem dX11_placed_131 : decode cX11_placed 131 = .ok (.getfield 57, 3) := by decide +kernel
theorem dX11_placed_134 : decode cX11_placed 134 = .ok (.bipush 6, 2) := by decide +kernel
theorem dX11_placed_136 : decode cX11_placed 136 = .ok (.iload 5, 2) := by decide +kernel
theorem dX11_placed_138 : decode cX11_placed 138 = .ok (.imul, 1) := by decide +kernel
theorem dX11_placed_139 : decode cX11_placed 139 = .ok (.iload 6, 2) := by decide +kernel
theorem dX11_placed_141 : decode cX11_placed 141 = .ok (.iadd, 1) := by decide +kernel
theorem dX11_placed_142 : decode cX11_placed 142 = .ok (.iaload, 1) := by decide +kernel
theorem dX11_placed_143 : decode cX11_placed 143 = .ok (.invokevirtual 285, 3) := by decide +kernel
theorem dX11_placed_146 : decode cX11_placed 146 = .ok (.ifCond .ne 9, 3) := by decide +kernel
theorem dX11_placed_149 : decode cX11_placed 149 = .ok (.iinc 6 1, 3) := by decide +kernel
theorem dX11_placed_152 : decode cX11_placed 152 = .ok (.goto (-38), 3) := by decide +kernel
theorem dX11_placed_155 : decode cX11_placed 155 = .ok (.iload 6, 2) := by decide +kernel
theorem dX11_placed_157 : decode cX11_placed 157 = .ok (.aload_n 0, 1) := by decide +kernel
theorem dX11_placed_158 : decode cX11_placed 158 = .ok (.getfield 54, 3) := by decide +kernel
theorem dX11_placed_161 : decode cX11_placed 161 = .ok (.iload 5, 2) := by decide +kernel
theorem dX11_placed_163 : decode cX11_placed 163 = .ok (.iaload, 1) := by decide +kernel
theorem dX11_placed_164 : decode cX11_placed 164 = .ok (.if_icmp .ge 36, 3) := by decide +kernel
theorem dX11_placed_167 : decode cX11_placed 167 = .ok (.aload_n 0, 1) := by decide +kernel
theorem dX11_placed_168 : decode cX11_placed 168 = .ok (.getfield 142, 3) := by decide +kernel
theorem dX11_placed_171 : decode cX11_placed 171 = .ok (.iload 5, 2) := by decide +kernel
theorem dX11_placed_173 : decode cX11_placed 173 = .ok (.dup2, 1) := by decide +kernel
theorem dX11_placed_174 : decode cX11_placed 174 = .ok (.iaload, 1) := by decide +kernel
theorem dX11_placed_175 : decode cX11_placed 175 = .ok (.iconst 1, 1) := by decide +kernel
theorem dX11_placed_176 : decode cX11_placed 176 = .ok (.aload_n 0, 1) := by decide +kernel
theorem dX11_placed_177 : decode cX11_placed 177 = .ok (.getfield 57, 3) := by decide +kernel
theorem dX11_placed_180 : decode cX11_placed 180 = .ok (.bipush 6, 2) := by decide +kernel
theorem dX11_placed_182 : decode cX11_placed 182 = .ok (.iload 5, 2) := by decide +kernel
theorem dX11_placed_184 : decode cX11_placed 184 = .ok (.imul, 1) := by decide +kernel
theorem dX11_placed_185 : decode cX11_placed 185 = .ok (.iload 6, 2) := by decide +kernel
theorem dX11_placed_187 : decode cX11_placed 187 = .ok (.iadd, 1) := by decide +kernel
theorem dX11_placed_188 : decode cX11_placed 188 = .ok (.iaload, 1) := by decide +kernel
theorem dX11_placed_189 : decode cX11_placed 189 = .ok (.ishl, 1) := by decide +kernel
theorem dX11_placed_190 : decode cX11_placed 190 = .ok (.ior, 1) := by decide +kernel
theorem dX11_placed_191 : decode cX11_placed 191 = .ok (.iastore, 1) := by decide +kernel
theorem dX11_placed_192 : decode cX11_placed 192 = .ok (.iload_n 2, 1) := by decide +kernel
theorem dX11_placed_193 : decode cX11_placed 193 = .ok (.bipush 6, 2) := by decide +kernel
theorem dX11_placed_195 : decode cX11_placed 195 = .ok (.iload 6, 2) := by decide +kernel
theorem dX11_placed_197 : decode cX11_placed 197 = .ok (.isub, 1) := by decide +kernel
theorem dX11_placed_198 : decode cX11_placed 198 = .ok (.iadd, 1) := by decide +kernel
theorem dX11_placed_199 : decode cX11_placed 199 = .ok (.istore_n 2, 1) := by decide +kernel
theorem dX11_placed_200 : decode cX11_placed 200 = .ok (.iinc 4 1, 3) := by decide +kernel
theorem dX11_placed_203 : decode cX11_placed 203 = .ok (.goto (-156), 3) := by decide +kernel
theorem dX11_placed_206 : decode cX11_placed 206 = .ok (.iinc 3 1, 3) := by decide +kernel
theorem dX11_placed_209 : decode cX11_placed 209 = .ok (.goto (-170), 3) := by decide +kernel
theorem dX11_placed_212 : decode cX11_placed 212 = .ok (.iconst 0, 1) := by decide +kernel
theorem dX11_placed_213 : decode cX11_placed 213 = .ok (.istore_n 3, 1) := by decide +kernel
theorem dX11_placed_214 : decode cX11_placed 214 = .ok (.iload_n 3, 1) := by decide +kernel
theorem dX11_placed_215 : decode cX11_placed 215 = .ok (.aload_n 0, 1) := by decide +kernel
theorem dX11_placed_216 : decode cX11_placed 216 = .ok (.getfield 24, 3) := by decide +kernel
theorem dX11_placed_219 : decode cX11_placed 219 = .ok (.iconst 0, 1) := by decide +kernel
theorem dX11_placed_220 : decode cX11_placed 220 = .ok (.iaload, 1) := by decide +kernel
theorem dX11_placed_221 : decode cX11_placed 221 = .ok (.if_icmp .ge 37, 3) := by decide +kernel
theorem dX11_placed_224 : decode cX11_placed 224 = .ok (.iload_n 1, 1) := by decide +kernel
theorem dX11_placed_225 : decode cX11_placed 225 = .ok (.iload_n 3, 1) := by decide +kernel
theorem dX11_placed_226 : decode cX11_placed 226 = .ok (.ishr, 1) := by decide +kernel
theorem dX11_placed_227 : decode cX11_placed 227 = .ok (.iconst 1, 1) := by decide +kernel
theorem dX11_placed_228 : decode cX11_placed 228 = .ok (.iand, 1) := by decide +kernel
theorem dX11_placed_229 : decode cX11_placed 229 = .ok (.ifCond .eq 23, 3) := by decide +kernel
theorem dX11_placed_232 : decode cX11_placed 232 = .ok (.aload_n 0, 1) := by decide +kernel
theorem dX11_placed_233 : decode cX11_placed 233 = .ok (.aload_n 0, 1) := by decide +kernel
theorem dX11_placed_234 : decode cX11_placed 234 = .ok (.getfield 142, 3) := by decide +kernel
theorem dX11_placed_237 : decode cX11_placed 237 = .ok (.iload_n 3, 1) := by decide +kernel
theorem dX11_placed_238 : decode cX11_placed 238 = .ok (.invokevirtual 288, 3) := by decide +kernel
theorem dX11_placed_241 : decode cX11_placed 241 = .ok (.aload_n 0, 1) := by decide +kernel
theorem dX11_placed_242 : decode cX11_placed 242 = .ok (.getfield 33, 3) := by decide +kernel
theorem dX11_placed_245 : decode cX11_placed 245 = .ok (.iload_n 3, 1) := by decide +kernel
theorem dX11_placed_246 : decode cX11_placed 246 = .ok (.iaload, 1) := by decide +kernel
theorem dX11_placed_247 : decode cX11_placed 247 = .ok (.if_icmp .ge 5, 3) := by decide +kernel
theorem dX11_placed_250 : decode cX11_placed 250 = .ok (.iconst (-1), 1) := by decide +kernel
theorem dX11_placed_251 : decode cX11_placed 251 = .ok (.ireturn, 1) := by decide +kernel
theorem dX11_placed_252 : decode cX11_placed 252 = .ok (.iinc 3 1, 3) := by decide +kernel
theorem dX11_placed_255 : decode cX11_placed 255 = .ok (.goto (-41), 3) := by decide +kernel
theorem dX11_placed_258 : decode cX11_placed 258 = .ok (.iload_n 2, 1) := by decide +kernel
theorem dX11_placed_259 : decode cX11_placed 259 = .ok (.ireturn, 1) := by decide +kernel
set_option maxRecDepth 20000 in
theorem ggX11_isFor_X11_evenings : GoodIn wsX11_isFor wsX11_evenings := goodIn_r _ [8, 9, 2, 15, 16, 17, 18, 19, 20, 21, 22, 23, 24, 25, 26, 27, 28, 29, 30, 31, 32, 33, 34, 35, 36, 37, 38, 39, 40, 41, 42, 43, 44, 45, 46, 47, 48, 49, 50, 51, 52, 53, 54, 55, 56, 57, 58, 59, 60, 61, 62, 63, 64, 65, 66, 67, 68, 69, 70, 71, 72, 73] (by decide +kernel) (by decide +kernel)
set_option maxRecDepth 20000 in
theorem gX11_isFor_X11_evenings : GoodIn wsX11_isFor (wsV RX11 292 RX11 yX11_evenings wsX11_evenings) := goodIn_app (goodIn_of _ (by decide +kernel)) ggX11_isFor_X11_evenings
set_option maxRecDepth 20000 in
theorem ggX11_isFor_X11_taken : GoodIn wsX11_isFor wsX11_taken := goodIn_r _ [13, 14, 15, 16, 17, 18, 19, 20, 21, 22, 23, 24, 25, 26, 27, 28, 29, 30, 31, 32, 33, 34, 35, 36, 37, 38, 39, 40, 41, 42, 43, 44, 45, 46, 47, 48, 49, 50, 51, 52, 53, 54, 55, 56, 57, 58, 59, 60, 61, 62, 63, 64, 65, 66, 67, 68, 69, 70, 71, 72, 73] (by decide +kernel) (by decide +kernel)
set_option maxRecDepth 20000 in
theorem gX11_isFor_X11_taken : GoodIn wsX11_isFor (wsV RX11 288 RX11 yX11_taken wsX11_taken) := goodIn_app (goodIn_of _ (by decide +kernel)) ggX11_isFor_X11_taken
theorem dX11_isFor_0 : decode cX11_isFor 0 = .ok (.iload_n 1, 1) := by decide +kernel
theorem dX11_isFor_1 : decode cX11_isFor 1 = .ok (.iload_n 3, 1) := by decide +kernel
theorem dX11_isFor_2 : decode cX11_isFor 2 = .ok (.ishr, 1) := by decide +kernel
theorem dX11_isFor_3 : decode cX11_isFor 3 = .ok (.iconst 1, 1) := by decide +kernel
theorem dX11_isFor_4 : decode cX11_isFor 4 = .ok (.iand, 1) := by decide +kernel
theorem dX11_isFor_5 : decode cX11_isFor 5 = .ok (.ifCond .eq 47, 3) := by decide +kernel
theorem dX11_isFor_8 : decode cX11_isFor 8 = .ok (.aload_n 0, 1) := by decide +kernel
theorem dX11_isFor_9 : decode cX11_isFor 9 = .ok (.aload_n 0, 1) := by decide +kernel
theorem dX11_isFor_10 : decode cX11_isFor 10 = .ok (.getfield 142, 3) := by decide +kernel
theorem dX11_isFor_13 : decode cX11_isFor 13 = .ok (.iload_n 2, 1) := by decide +kernel
theorem dX11_isFor_14 : decode cX11_isFor 14 = .ok (.iaload, 1) := by decide +kernel
theorem dX11_isFor_15 : decode cX11_isFor 15 = .ok (.invokevirtual 292, 3) := by decide +kernel
theorem dX11_isFor_18 : decode cX11_isFor 18 = .ok (.aload_n 0, 1) := by decide +kernel
theorem dX11_isFor_19 : decode cX11_isFor 19 = .ok (.getfield 27, 3) := by decide +kernel
theorem dX11_isFor_22 : decode cX11_isFor 22 = .ok (.iload_n 3, 1) := by decide +kernel
theorem dX11_isFor_23 : decode cX11_isFor 23 = .ok (.iaload, 1) := by decide +kernel
theorem dX11_isFor_24 : decode cX11_isFor 24 = .ok (.ishr, 1) := by decide +kernel
theorem dX11_isFor_25 : decode cX11_isFor 25 = .ok (.iconst 1, 1) := by decide +kernel
theorem dX11_isFor_26 : decode cX11_isFor 26 = .ok (.iand, 1) := by decide +kernel
theorem dX11_isFor_27 : decode cX11_isFor 27 = .ok (.ifCond .ne 25, 3) := by decide +kernel
theorem dX11_isFor_30 : decode cX11_isFor 30 = .ok (.aload_n 0, 1) := by decide +kernel
theorem dX11_isFor_31 : decode cX11_isFor 31 = .ok (.aload_n 0, 1) := by decide +kernel
theorem dX11_isFor_32 : decode cX11_isFor 32 = .ok (.getfield 142, 3) := by decide +kernel
theorem dX11_isFor_35 : decode cX11_isFor 35 = .ok (.iload_n 3, 1) := by decide +kernel
theorem dX11_isFor_36 : decode cX11_isFor 36 = .ok (.invokevirtual 288, 3) := by decide +kernel
theorem dX11_isFor_39 : decode cX11_isFor 39 = .ok (.aload_n 0, 1) := by decide +kernel
theorem dX11_isFor_40 : decode cX11_isFor 40 = .ok (.getfield 139, 3) := by decide +kernel
theorem dX11_isFor_43 : decode cX11_isFor 43 = .ok (.iload_n 3, 1) := by decide +kernel
theorem dX11_isFor_44 : decode cX11_isFor 44 = .ok (.iaload, 1) := by decide +kernel
theorem dX11_isFor_45 : decode cX11_isFor 45 = .ok (.if_icmp .ge 7, 3) := by decide +kernel
theorem dX11_isFor_48 : decode cX11_isFor 48 = .ok (.iconst 1, 1) := by decide +kernel
theorem dX11_isFor_49 : decode cX11_isFor 49 = .ok (.goto 4, 3) := by decide +kernel
theorem dX11_isFor_52 : decode cX11_isFor 52 = .ok (.iconst 0, 1) := by decide +kernel
theorem dX11_isFor_53 : decode cX11_isFor 53 = .ok (.ireturn, 1) := by decide +kernel
set_option maxRecDepth 20000 in
theorem ggX11_points_X11_placed : GoodIn wsX11_points wsX11_placed := goodIn_r _ [6, 7, 8, 9, 10, 11, 12, 13, 14, 15, 16, 5, 17, 18, 19, 20, 21, 22, 23, 24, 25, 26, 27, 28, 29, 30, 31, 32, 33, 34, 35, 36, 37, 38, 39, 40, 41, 42, 43, 44, 45, 46, 47, 48, 49, 50, 51, 52, 53, 54, 55, 56, 57, 58, 59, 60, 61, 62, 63, 64, 65, 66, 67, 68, 69, 70, 71, 72, 73, 74, 75, 76, 77, 78, 79, 80, 81, 82, 83, 84, 85, 86, 87, 88, 89, 90, 91, 92, 93, 94, 95, 96, 97, 98, 99, 100, 101, 102] (by decide +kernel) (by decide +kernel)
set_option maxRecDepth 20000 in
theorem gX11_points_X11_placed : GoodIn wsX11_points (wsV RX11 295 RX11 yX11_placed wsX11_placed) := goodIn_app (goodIn_of _ (by decide +kernel)) ggX11_points_X11_placed
theorem dX11_points_0 : decode cX11_points 0 = .ok (.aload_n 0, 1) := by decide +kernel
theorem dX11_points_1 : decode cX11_points 1 = .ok (.iconst 0, 1) := by decide +kernel
theorem dX11_points_2 : decode cX11_points 2 = .ok (.putfield 179, 3) := by decide +kernel
theorem dX11_points_5 : decode cX11_points 5 = .ok (.aload_n 0, 1) := by decide +kernel
theorem dX11_points_6 : decode cX11_points 6 = .ok (.iload_n 1, 1) := by decide +kernel
theorem dX11_points_7 : decode cX11_points 7 = .ok (.invokevirtual 295, 3) := by decide +kernel
theorem dX11_points_10 : decode cX11_points 10 = .ok (.ireturn, 1) := by decide +kernel
set_option maxRecDepth 20000 in
theorem ggX11_open_X11_placed : GoodIn wsX11_open wsX11_placed := goodIn_r _ [16, 9, 11, 17, 18, 19, 3, 20, 21, 22, 23, 15, 24, 25, 26, 27, 28, 29, 30, 31, 32, 33, 34, 35, 36, 6, 8, 37, 38, 39, 40, 41, 42, 43, 44, 45, 46, 47, 48, 81, 82, 83, 84, 85, 86, 87, 88, 89, 90, 91, 92, 93, 94, 95, 96, 97, 98, 99, 100, 101, 102, 103, 104, 105, 106, 107, 108, 109, 110, 111, 112, 113, 114, 115, 116, 117, 118, 119, 120, 121, 122, 123, 124, 125, 126, 127, 128, 129, 130, 131, 132, 133, 134, 135, 136, 137, 138, 139] (by decide +kernel) (by decide +kernel)
set_option maxRecDepth 20000 in
theorem gX11_open_X11_placed : GoodIn wsX11_open (wsV RX11 295 RX11 yX11_placed wsX11_placed) := goodIn_app (goodIn_of _ (by decide +kernel)) ggX11_open_X11_placed
set_option maxRecDepth 20000 in
theorem ggX11_open_X11_begins : GoodIn wsX11_open wsX11_begins := goodIn_r _ [52, 5, 7, 53, 10, 54, 55, 56, 81, 82, 83, 84, 85, 86, 87, 88, 89, 90, 91, 92, 93, 94, 95, 96, 97, 98, 99, 100, 101, 102, 103, 104, 105, 106, 107, 108, 109, 110, 111, 112, 113, 114, 115, 116, 117, 118, 119, 120, 121, 122, 123, 124, 125, 126, 127, 128, 129, 130, 131, 132, 133, 134, 135, 136, 137, 138, 139] (by decide +kernel) (by decide +kernel)
set_option maxRecDepth 20000 in
theorem gX11_open_X11_begins : GoodIn wsX11_open (wsV RX11 298 RX11 yX11_begins wsX11_begins) := goodIn_app (goodIn_of _ (by decide +kernel)) ggX11_open_X11_begins
set_option maxRecDepth 20000 in
theorem ggX11_open_X11_moveUp : GoodIn wsX11_open wsX11_moveUp := goodIn_r _ [60, 2, 61, 62, 63, 15, 64, 9, 18, 19, 25, 10, 54, 65, 66, 67, 68, 4, 17, 7, 69, 70, 71, 72, 73, 74, 75, 76, 3, 28, 29, 30, 77, 78, 79, 80, 81, 82, 83, 84, 85, 86, 87, 88, 89, 90, 91, 92, 93, 94, 95, 96, 97, 98, 99, 100, 101, 102, 103, 104, 105, 106, 107, 108, 109, 110, 111, 112, 113, 114, 115, 116, 117, 118, 119, 120, 121, 122, 123, 124, 125, 126, 127, 128, 129, 130, 131, 132, 133, 134, 135, 136, 137, 138, 139] (by decide +kernel) (by decide +kernel)
set_option maxRecDepth 20000 in
theorem gX11_open_X11_moveUp : GoodIn wsX11_open (wsV RX11 272 RX11 yX11_moveUp wsX11_moveUp) := goodIn_app (goodIn_of _ (by decide +kernel)) ggX11_open_X11_moveUp
theorem dX11_open_0 : decode cX11_open 0 = .ok (.aload_n 0, 1) := by decide +kernel
theorem dX11_open_1 : decode cX11_open 1 = .ok (.iconst 0, 1) := by decide +kernel
theorem dX11_open_2 : decode cX11_open 2 = .ok (.putfield 179, 3) := by decide +kernel
theorem dX11_open_5 : decode cX11_open 5 = .ok (.aload_n 0, 1) := by decide +kernel
theorem dX11_open_6 : decode cX11_open 6 = .ok (.getfield 60, 3) := by decide +kernel
theorem dX11_open_9 : decode cX11_open 9 = .ok (.iconst 0, 1) := by decide +kernel
theorem dX11_open_10 : decode cX11_open 10 = .ok (.iaload, 1) := by decide +kernel
theorem dX11_open_11 : decode cX11_open 11 = .ok (.iconst (-1), 1) := by decide +kernel
theorem dX11_open_12 : decode cX11_open 12 = .ok (.if_icmp .eq 5, 3) := by decide +kernel
theorem dX11_open_15 : decode cX11_open 15 = .ok (.iconst (-1), 1) := by decide +kernel
theorem dX11_open_16 : decode cX11_open 16 = .ok (.ireturn, 1) := by decide +kernel
theorem dX11_open_17 : decode cX11_open 17 = .ok (.iconst 0, 1) := by decide +kernel
theorem dX11_open_18 : decode cX11_open 18 = .ok (.istore_n 1, 1) := by decide +kernel
theorem dX11_open_19 : decode cX11_open 19 = .ok (.iconst 0, 1) := by decide +kernel
theorem dX11_open_20 : decode cX11_open 20 = .ok (.istore_n 2, 1) := by decide +kernel
theorem dX11_open_21 : decode cX11_open 21 = .ok (.iconst 1, 1) := by decide +kernel
theorem dX11_open_22 : decode cX11_open 22 = .ok (.istore_n 3, 1) := by decide +kernel
theorem dX11_open_23 : decode cX11_open 23 = .ok (.iload_n 3, 1) := by decide +kernel
theorem dX11_open_24 : decode cX11_open 24 = .ok (.iconst 1, 1) := by decide +kernel
theorem dX11_open_25 : decode cX11_open 25 = .ok (.aload_n 0, 1) := by decide +kernel
theorem dX11_open_26 : decode cX11_open 26 = .ok (.getfield 24, 3) := by decide +kernel
theorem dX11_open_29 : decode cX11_open 29 = .ok (.iconst 0, 1) := by decide +kernel
theorem dX11_open_30 : decode cX11_open 30 = .ok (.iaload, 1) := by decide +kernel
theorem dX11_open_31 : decode cX11_open 31 = .ok (.ishl, 1) := by decide +kernel
theorem dX11_open_32 : decode cX11_open 32 = .ok (.if_icmp .ge 27, 3) := by decide +kernel
theorem dX11_open_35 : decode cX11_open 35 = .ok (.aload_n 0, 1) := by decide +kernel
theorem dX11_open_36 : decode cX11_open 36 = .ok (.iload_n 3, 1) := by decide +kernel
theorem dX11_open_37 : decode cX11_open 37 = .ok (.invokevirtual 295, 3) := by decide +kernel
theorem dX11_open_40 : decode cX11_open 40 = .ok (.istore 4, 2) := by decide +kernel
theorem dX11_open_42 : decode cX11_open 42 = .ok (.iload 4, 2) := by decide +kernel
theorem dX11_open_44 : decode cX11_open 44 = .ok (.iload_n 2, 1) := by decide +kernel
theorem dX11_open_45 : decode cX11_open 45 = .ok (.if_icmp .le 8, 3) := by decide +kernel
theorem dX11_open_48 : decode cX11_open 48 = .ok (.iload 4, 2) := by decide +kernel
theorem dX11_open_50 : decode cX11_open 50 = .ok (.istore_n 2, 1) := by decide +kernel
theorem dX11_open_51 : decode cX11_open 51 = .ok (.iload_n 3, 1) := by decide +kernel
theorem dX11_open_52 : decode cX11_open 52 = .ok (.istore_n 1, 1) := by decide +kernel
theorem dX11_open_53 : decode cX11_open 53 = .ok (.iinc 3 1, 3) := by decide +kernel
theorem dX11_open_56 : decode cX11_open 56 = .ok (.goto (-33), 3) := by decide +kernel
theorem dX11_open_59 : decode cX11_open 59 = .ok (.aload_n 0, 1) := by decide +kernel
theorem dX11_open_60 : decode cX11_open 60 = .ok (.iload_n 1, 1) := by decide +kernel
theorem dX11_open_61 : decode cX11_open 61 = .ok (.invokevirtual 295, 3) := by decide +kernel
theorem dX11_open_64 : decode cX11_open 64 = .ok (.istore_n 3, 1) := by decide +kernel
theorem dX11_open_65 : decode cX11_open 65 = .ok (.aload_n 0, 1) := by decide +kernel
theorem dX11_open_66 : decode cX11_open 66 = .ok (.getfield 60, 3) := by decide +kernel
theorem dX11_open_69 : decode cX11_open 69 = .ok (.iconst 0, 1) := by decide +kernel
theorem dX11_open_70 : decode cX11_open 70 = .ok (.iconst 0, 1) := by decide +kernel
theorem dX11_open_71 : decode cX11_open 71 = .ok (.iastore, 1) := by decide +kernel
theorem dX11_open_72 : decode cX11_open 72 = .ok (.aload_n 0, 1) := by decide +kernel
theorem dX11_open_73 : decode cX11_open 73 = .ok (.getfield 63, 3) := by decide +kernel
theorem dX11_open_76 : decode cX11_open 76 = .ok (.iconst 0, 1) := by decide +kernel
theorem dX11_open_77 : decode cX11_open 77 = .ok (.iload_n 1, 1) := by decide +kernel
theorem dX11_open_78 : decode cX11_open 78 = .ok (.iastore, 1) := by decide +kernel
theorem dX11_open_79 : decode cX11_open 79 = .ok (.aload_n 0, 1) := by decide +kernel
theorem dX11_open_80 : decode cX11_open 80 = .ok (.invokevirtual 298, 3) := by decide +kernel
theorem dX11_open_83 : decode cX11_open 83 = .ok (.iconst 0, 1) := by decide +kernel
theorem dX11_open_84 : decode cX11_open 84 = .ok (.istore 4, 2) := by decide +kernel
theorem dX11_open_86 : decode cX11_open 86 = .ok (.iload 4, 2) := by decide +kernel
theorem dX11_open_88 : decode cX11_open 88 = .ok (.aload_n 0, 1) := by decide +kernel
theorem dX11_open_89 : decode cX11_open 89 = .ok (.getfield 24, 3) := by decide +kernel
theorem dX11_open_92 : decode cX11_open 92 = .ok (.iconst 0, 1) := by decide +kernel
theorem dX11_open_93 : decode cX11_open 93 = .ok (.iaload, 1) := by decide +kernel
theorem dX11_open_94 : decode cX11_open 94 = .ok (.if_icmp .ge 71, 3) := by decide +kernel
theorem dX11_open_97 : decode cX11_open 97 = .ok (.iload_n 1, 1) := by decide +kernel
theorem dX11_open_98 : decode cX11_open 98 = .ok (.iload 4, 2) := by decide +kernel
theorem dX11_open_100 : decode cX11_open 100 = .ok (.ishr, 1) := by decide +kernel
theorem dX11_open_101 : decode cX11_open 101 = .ok (.iconst 1, 1) := by decide +kernel
theorem dX11_open_102 : decode cX11_open 102 = .ok (.iand, 1) := by decide +kernel
theorem dX11_open_103 : decode cX11_open 103 = .ok (.ifCond .eq 7, 3) := by decide +kernel
theorem dX11_open_106 : decode cX11_open 106 = .ok (.iconst 1, 1) := by decide +kernel
theorem dX11_open_107 : decode cX11_open 107 = .ok (.goto 4, 3) := by decide +kernel
theorem dX11_open_110 : decode cX11_open 110 = .ok (.iconst 0, 1) := by decide +kernel
theorem dX11_open_111 : decode cX11_open 111 = .ok (.istore 5, 2) := by decide +kernel
theorem dX11_open_113 : decode cX11_open 113 = .ok (.aload_n 0, 1) := by decide +kernel
theorem dX11_open_114 : decode cX11_open 114 = .ok (.getfield 66, 3) := by decide +kernel
theorem dX11_open_117 : decode cX11_open 117 = .ok (.iload 4, 2) := by decide +kernel
theorem dX11_open_119 : decode cX11_open 119 = .ok (.iload 5, 2) := by decide +kernel
theorem dX11_open_121 : decode cX11_open 121 = .ok (.ifCond .eq 13, 3) := by decide +kernel
theorem dX11_open_124 : decode cX11_open 124 = .ok (.aload_n 0, 1) := by decide +kernel
theorem dX11_open_125 : decode cX11_open 125 = .ok (.getfield 136, 3) := by decide +kernel
theorem dX11_open_128 : decode cX11_open 128 = .ok (.iload 4, 2) := by decide +kernel
theorem dX11_open_130 : decode cX11_open 130 = .ok (.iaload, 1) := by decide +kernel
theorem dX11_open_131 : decode cX11_open 131 = .ok (.goto 4, 3) := by decide +kernel
theorem dX11_open_134 : decode cX11_open 134 = .ok (.iconst (-1), 1) := by decide +kernel
theorem dX11_open_135 : decode cX11_open 135 = .ok (.iastore, 1) := by decide +kernel
theorem dX11_open_136 : decode cX11_open 136 = .ok (.aload_n 0, 1) := by decide +kernel
theorem dX11_open_137 : decode cX11_open 137 = .ok (.getfield 69, 3) := by decide +kernel
theorem dX11_open_140 : decode cX11_open 140 = .ok (.iload 4, 2) := by decide +kernel
theorem dX11_open_142 : decode cX11_open 142 = .ok (.iload 5, 2) := by decide +kernel
theorem dX11_open_144 : decode cX11_open 144 = .ok (.ifCond .eq 13, 3) := by decide +kernel
theorem dX11_open_147 : decode cX11_open 147 = .ok (.aload_n 0, 1) := by decide +kernel
theorem dX11_open_148 : decode cX11_open 148 = .ok (.getfield 139, 3) := by decide +kernel
theorem dX11_open_151 : decode cX11_open 151 = .ok (.iload 4, 2) := by decide +kernel
theorem dX11_open_153 : decode cX11_open 153 = .ok (.iaload, 1) := by decide +kernel
theorem dX11_open_154 : decode cX11_open 154 = .ok (.goto 4, 3) := by decide +kernel
theorem dX11_open_157 : decode cX11_open 157 = .ok (.iconst 0, 1) := by decide +kernel
theorem dX11_open_158 : decode cX11_open 158 = .ok (.iastore, 1) := by decide +kernel
theorem dX11_open_159 : decode cX11_open 159 = .ok (.iinc 4 1, 3) := by decide +kernel
theorem dX11_open_162 : decode cX11_open 162 = .ok (.goto (-76), 3) := by decide +kernel
theorem dX11_open_165 : decode cX11_open 165 = .ok (.iconst 0, 1) := by decide +kernel
theorem dX11_open_166 : decode cX11_open 166 = .ok (.istore 4, 2) := by decide +kernel
theorem dX11_open_168 : decode cX11_open 168 = .ok (.iload 4, 2) := by decide +kernel
theorem dX11_open_170 : decode cX11_open 170 = .ok (.aload_n 0, 1) := by decide +kernel
theorem dX11_open_171 : decode cX11_open 171 = .ok (.getfield 42, 3) := by decide +kernel
theorem dX11_open_174 : decode cX11_open 174 = .ok (.iconst 0, 1) := by decide +kernel
theorem dX11_open_175 : decode cX11_open 175 = .ok (.iaload, 1) := by decide +kernel
theorem dX11_open_176 : decode cX11_open 176 = .ok (.if_icmp .ge 23, 3) := by decide +kernel
theorem dX11_open_179 : decode cX11_open 179 = .ok (.aload_n 0, 1) := by decide +kernel
theorem dX11_open_180 : decode cX11_open 180 = .ok (.getfield 75, 3) := by decide +kernel
theorem dX11_open_183 : decode cX11_open 183 = .ok (.iload 4, 2) := by decide +kernel
theorem dX11_open_185 : decode cX11_open 185 = .ok (.aload_n 0, 1) := by decide +kernel
theorem dX11_open_186 : decode cX11_open 186 = .ok (.getfield 142, 3) := by decide +kernel
theorem dX11_open_189 : decode cX11_open 189 = .ok (.iload 4, 2) := by decide +kernel
theorem dX11_open_191 : decode cX11_open 191 = .ok (.iaload, 1) := by decide +kernel
theorem dX11_open_192 : decode cX11_open 192 = .ok (.iastore, 1) := by decide +kernel
theorem dX11_open_193 : decode cX11_open 193 = .ok (.iinc 4 1, 3) := by decide +kernel
theorem dX11_open_196 : decode cX11_open 196 = .ok (.goto (-28), 3) := by decide +kernel
theorem dX11_open_199 : decode cX11_open 199 = .ok (.aload_n 0, 1) := by decide +kernel
theorem dX11_open_200 : decode cX11_open 200 = .ok (.invokevirtual 272, 3) := by decide +kernel
theorem dX11_open_203 : decode cX11_open 203 = .ok (.iload_n 3, 1) := by decide +kernel
theorem dX11_open_204 : decode cX11_open 204 = .ok (.ireturn, 1) := by decide +kernel
theorem dX11_begins_0 : decode cX11_begins 0 = .ok (.iconst 0, 1) := by decide +kernel
theorem dX11_begins_1 : decode cX11_begins 1 = .ok (.istore_n 1, 1) := by decide +kernel
theorem dX11_begins_2 : decode cX11_begins 2 = .ok (.iload_n 1, 1) := by decide +kernel
theorem dX11_begins_3 : decode cX11_begins 3 = .ok (.bipush 10, 2) := by decide +kernel
theorem dX11_begins_5 : decode cX11_begins 5 = .ok (.if_icmp .ge 30, 3) := by decide +kernel
theorem dX11_begins_8 : decode cX11_begins 8 = .ok (.aload_n 0, 1) := by decide +kernel
theorem dX11_begins_9 : decode cX11_begins 9 = .ok (.getfield 66, 3) := by decide +kernel
theorem dX11_begins_12 : decode cX11_begins 12 = .ok (.iload_n 1, 1) := by decide +kernel
theorem dX11_begins_13 : decode cX11_begins 13 = .ok (.iconst (-1), 1) := by decide +kernel
theorem dX11_begins_14 : decode cX11_begins 14 = .ok (.iastore, 1) := by decide +kernel
theorem dX11_begins_15 : decode cX11_begins 15 = .ok (.aload_n 0, 1) := by decide +kernel
theorem dX11_begins_16 : decode cX11_begins 16 = .ok (.getfield 69, 3) := by decide +kernel
theorem dX11_begins_19 : decode cX11_begins 19 = .ok (.iload_n 1, 1) := by decide +kernel
theorem dX11_begins_20 : decode cX11_begins 20 = .ok (.iconst 0, 1) := by decide +kernel
theorem dX11_begins_21 : decode cX11_begins 21 = .ok (.iastore, 1) := by decide +kernel
theorem dX11_begins_22 : decode cX11_begins 22 = .ok (.aload_n 0, 1) := by decide +kernel
theorem dX11_begins_23 : decode cX11_begins 23 = .ok (.getfield 72, 3) := by decide +kernel
theorem dX11_begins_26 : decode cX11_begins 26 = .ok (.iload_n 1, 1) := by decide +kernel
theorem dX11_begins_27 : decode cX11_begins 27 = .ok (.iconst 0, 1) := by decide +kernel
theorem dX11_begins_28 : decode cX11_begins 28 = .ok (.iastore, 1) := by decide +kernel
theorem dX11_begins_29 : decode cX11_begins 29 = .ok (.iinc 1 1, 3) := by decide +kernel
theorem dX11_begins_32 : decode cX11_begins 32 = .ok (.goto (-30), 3) := by decide +kernel
theorem dX11_begins_35 : decode cX11_begins 35 = .ok (.iconst 0, 1) := by decide +kernel
theorem dX11_begins_36 : decode cX11_begins 36 = .ok (.istore_n 1, 1) := by decide +kernel
theorem dX11_begins_37 : decode cX11_begins 37 = .ok (.iload_n 1, 1) := by decide +kernel
theorem dX11_begins_38 : decode cX11_begins 38 = .ok (.bipush 30, 2) := by decide +kernel
theorem dX11_begins_40 : decode cX11_begins 40 = .ok (.if_icmp .ge 23, 3) := by decide +kernel
theorem dX11_begins_43 : decode cX11_begins 43 = .ok (.aload_n 0, 1) := by decide +kernel
theorem dX11_begins_44 : decode cX11_begins 44 = .ok (.getfield 75, 3) := by decide +kernel
theorem dX11_begins_47 : decode cX11_begins 47 = .ok (.iload_n 1, 1) := by decide +kernel
theorem dX11_begins_48 : decode cX11_begins 48 = .ok (.iconst 0, 1) := by decide +kernel
theorem dX11_begins_49 : decode cX11_begins 49 = .ok (.iastore, 1) := by decide +kernel
theorem dX11_begins_50 : decode cX11_begins 50 = .ok (.aload_n 0, 1) := by decide +kernel
theorem dX11_begins_51 : decode cX11_begins 51 = .ok (.getfield 78, 3) := by decide +kernel
theorem dX11_begins_54 : decode cX11_begins 54 = .ok (.iload_n 1, 1) := by decide +kernel
theorem dX11_begins_55 : decode cX11_begins 55 = .ok (.iconst 0, 1) := by decide +kernel
theorem dX11_begins_56 : decode cX11_begins 56 = .ok (.iastore, 1) := by decide +kernel
theorem dX11_begins_57 : decode cX11_begins 57 = .ok (.iinc 1 1, 3) := by decide +kernel
theorem dX11_begins_60 : decode cX11_begins 60 = .ok (.goto (-23), 3) := by decide +kernel
theorem dX11_begins_63 : decode cX11_begins 63 = .ok (.iconst 0, 1) := by decide +kernel
theorem dX11_begins_64 : decode cX11_begins 64 = .ok (.istore_n 1, 1) := by decide +kernel
theorem dX11_begins_65 : decode cX11_begins 65 = .ok (.iload_n 1, 1) := by decide +kernel
theorem dX11_begins_66 : decode cX11_begins 66 = .ok (.bipush 6, 2) := by decide +kernel
theorem dX11_begins_68 : decode cX11_begins 68 = .ok (.if_icmp .ge 16, 3) := by decide +kernel
theorem dX11_begins_71 : decode cX11_begins 71 = .ok (.aload_n 0, 1) := by decide +kernel
theorem dX11_begins_72 : decode cX11_begins 72 = .ok (.getfield 81, 3) := by decide +kernel
theorem dX11_begins_75 : decode cX11_begins 75 = .ok (.iload_n 1, 1) := by decide +kernel
theorem dX11_begins_76 : decode cX11_begins 76 = .ok (.iconst 0, 1) := by decide +kernel
theorem dX11_begins_77 : decode cX11_begins 77 = .ok (.iastore, 1) := by decide +kernel
theorem dX11_begins_78 : decode cX11_begins 78 = .ok (.iinc 1 1, 3) := by decide +kernel
theorem dX11_begins_81 : decode cX11_begins 81 = .ok (.goto (-16), 3) := by decide +kernel
theorem dX11_begins_84 : decode cX11_begins 84 = .ok (.iconst 0, 1) := by decide +kernel
theorem dX11_begins_85 : decode cX11_begins 85 = .ok (.istore_n 1, 1) := by decide +kernel
theorem dX11_begins_86 : decode cX11_begins 86 = .ok (.iload_n 1, 1) := by decide +kernel
theorem dX11_begins_87 : decode cX11_begins 87 = .ok (.iconst 5, 1) := by decide +kernel
theorem dX11_begins_88 : decode cX11_begins 88 = .ok (.if_icmp .ge 16, 3) := by decide +kernel
theorem dX11_begins_91 : decode cX11_begins 91 = .ok (.aload_n 0, 1) := by decide +kernel
theorem dX11_begins_92 : decode cX11_begins 92 = .ok (.getfield 84, 3) := by decide +kernel
theorem dX11_begins_95 : decode cX11_begins 95 = .ok (.iload_n 1, 1) := by decide +kernel
theorem dX11_begins_96 : decode cX11_begins 96 = .ok (.iconst 0, 1) := by decide +kernel
theorem dX11_begins_97 : decode cX11_begins 97 = .ok (.iastore, 1) := by decide +kernel
theorem dX11_begins_98 : decode cX11_begins 98 = .ok (.iinc 1 1, 3) := by decide +kernel
theorem dX11_begins_101 : decode cX11_begins 101 = .ok (.goto (-15), 3) := by decide +kernel
theorem dX11_begins_104 : decode cX11_begins 104 = .ok (.return_, 1) := by decide +kernel
set_option maxRecDepth 20000 in
theorem ggX11_close_X11_begins : GoodIn wsX11_close wsX11_begins := goodIn_r _ [8, 9, 10, 11, 12, 13, 14, 15, 16, 17, 18, 19, 20, 21, 22, 23, 24, 25, 26, 27, 28, 29, 30, 31, 32, 33, 34, 35, 36, 37, 38, 39, 40, 41, 42, 43, 44, 45, 46, 47, 48, 49, 50, 51, 52, 53, 54, 55, 56, 57, 58, 59, 60, 61, 62, 63, 64, 65, 66, 67, 68, 69, 70, 71, 72, 73, 74] (by decide +kernel) (by decide +kernel)
set_option maxRecDepth 20000 in
theorem gX11_close_X11_begins : GoodIn wsX11_close (wsV RX11 298 RX11 yX11_begins wsX11_begins) := goodIn_app (goodIn_of _ (by decide +kernel)) ggX11_close_X11_begins
theorem dX11_close_0 : decode cX11_close 0 = .ok (.aload_n 0, 1) := by decide +kernel
theorem dX11_close_1 : decode cX11_close 1 = .ok (.iconst 0, 1) := by decide +kernel
theorem dX11_close_2 : decode cX11_close 2 = .ok (.putfield 179, 3) := by decide +kernel
theorem dX11_close_5 : decode cX11_close 5 = .ok (.aload_n 0, 1) := by decide +kernel
theorem dX11_close_6 : decode cX11_close 6 = .ok (.getfield 60, 3) := by decide +kernel
theorem dX11_close_9 : decode cX11_close 9 = .ok (.iconst 0, 1) := by decide +kernel
theorem dX11_close_10 : decode cX11_close 10 = .ok (.iaload, 1) := by decide +kernel
theorem dX11_close_11 : decode cX11_close 11 = .ok (.iconst (-1), 1) := by decide +kernel
theorem dX11_close_12 : decode cX11_close 12 = .ok (.if_icmp .ne 5, 3) := by decide +kernel
theorem dX11_close_15 : decode cX11_close 15 = .ok (.iconst (-1), 1) := by decide +kernel
theorem dX11_close_16 : decode cX11_close 16 = .ok (.ireturn, 1) := by decide +kernel
theorem dX11_close_17 : decode cX11_close 17 = .ok (.aload_n 0, 1) := by decide +kernel
theorem dX11_close_18 : decode cX11_close 18 = .ok (.getfield 60, 3) := by decide +kernel
theorem dX11_close_21 : decode cX11_close 21 = .ok (.iconst 0, 1) := by decide +kernel
theorem dX11_close_22 : decode cX11_close 22 = .ok (.iaload, 1) := by decide +kernel
theorem dX11_close_23 : decode cX11_close 23 = .ok (.istore_n 1, 1) := by decide +kernel
theorem dX11_close_24 : decode cX11_close 24 = .ok (.aload_n 0, 1) := by decide +kernel
theorem dX11_close_25 : decode cX11_close 25 = .ok (.getfield 60, 3) := by decide +kernel
theorem dX11_close_28 : decode cX11_close 28 = .ok (.iconst 0, 1) := by decide +kernel
theorem dX11_close_29 : decode cX11_close 29 = .ok (.iconst (-1), 1) := by decide +kernel
theorem dX11_close_30 : decode cX11_close 30 = .ok (.iastore, 1) := by decide +kernel
theorem dX11_close_31 : decode cX11_close 31 = .ok (.aload_n 0, 1) := by decide +kernel
theorem dX11_close_32 : decode cX11_close 32 = .ok (.getfield 63, 3) := by decide +kernel
theorem dX11_close_35 : decode cX11_close 35 = .ok (.iconst 0, 1) := by decide +kernel
theorem dX11_close_36 : decode cX11_close 36 = .ok (.iconst 0, 1) := by decide +kernel
theorem dX11_close_37 : decode cX11_close 37 = .ok (.iastore, 1) := by decide +kernel
theorem dX11_close_38 : decode cX11_close 38 = .ok (.aload_n 0, 1) := by decide +kernel
theorem dX11_close_39 : decode cX11_close 39 = .ok (.invokevirtual 298, 3) := by decide +kernel
theorem dX11_close_42 : decode cX11_close 42 = .ok (.iload_n 1, 1) := by decide +kernel
theorem dX11_close_43 : decode cX11_close 43 = .ok (.ireturn, 1) := by decide +kernel
theorem dX11_hasNow_0 : decode cX11_hasNow 0 = .ok (.iconst 0, 1) := by decide +kernel
theorem dX11_hasNow_1 : decode cX11_hasNow 1 = .ok (.istore_n 2, 1) := by decide +kernel
theorem dX11_hasNow_2 : decode cX11_hasNow 2 = .ok (.iconst 0, 1) := by decide +kernel
theorem dX11_hasNow_3 : decode cX11_hasNow 3 = .ok (.istore_n 3, 1) := by decide +kernel
theorem dX11_hasNow_4 : decode cX11_hasNow 4 = .ok (.iload_n 3, 1) := by decide +kernel
theorem dX11_hasNow_5 : decode cX11_hasNow 5 = .ok (.aload_n 0, 1) := by decide +kernel
theorem dX11_hasNow_6 : decode cX11_hasNow 6 = .ok (.getfield 42, 3) := by decide +kernel
theorem dX11_hasNow_9 : decode cX11_hasNow 9 = .ok (.iconst 0, 1) := by decide +kernel
theorem dX11_hasNow_10 : decode cX11_hasNow 10 = .ok (.iaload, 1) := by decide +kernel
theorem dX11_hasNow_11 : decode cX11_hasNow 11 = .ok (.if_icmp .ge 22, 3) := by decide +kernel
theorem dX11_hasNow_14 : decode cX11_hasNow 14 = .ok (.iload_n 2, 1) := by decide +kernel
theorem dX11_hasNow_15 : decode cX11_hasNow 15 = .ok (.aload_n 0, 1) := by decide +kernel
theorem dX11_hasNow_16 : decode cX11_hasNow 16 = .ok (.getfield 75, 3) := by decide +kernel
theorem dX11_hasNow_19 : decode cX11_hasNow 19 = .ok (.iload_n 3, 1) := by decide +kernel
theorem dX11_hasNow_20 : decode cX11_hasNow 20 = .ok (.iaload, 1) := by decide +kernel
theorem dX11_hasNow_21 : decode cX11_hasNow 21 = .ok (.iload_n 1, 1) := by decide +kernel
theorem dX11_hasNow_22 : decode cX11_hasNow 22 = .ok (.ishr, 1) := by decide +kernel
theorem dX11_hasNow_23 : decode cX11_hasNow 23 = .ok (.iconst 1, 1) := by decide +kernel
theorem dX11_hasNow_24 : decode cX11_hasNow 24 = .ok (.iand, 1) := by decide +kernel
theorem dX11_hasNow_25 : decode cX11_hasNow 25 = .ok (.iadd, 1) := by decide +kernel
theorem dX11_hasNow_26 : decode cX11_hasNow 26 = .ok (.istore_n 2, 1) := by decide +kernel
theorem dX11_hasNow_27 : decode cX11_hasNow 27 = .ok (.iinc 3 1, 3) := by decide +kernel
theorem dX11_hasNow_30 : decode cX11_hasNow 30 = .ok (.goto (-26), 3) := by decide +kernel
theorem dX11_hasNow_33 : decode cX11_hasNow 33 = .ok (.iload_n 2, 1) := by decide +kernel
theorem dX11_hasNow_34 : decode cX11_hasNow 34 = .ok (.ireturn, 1) := by decide +kernel
theorem dX11_on_0 : decode cX11_on 0 = .ok (.iconst 0, 1) := by decide +kernel
theorem dX11_on_1 : decode cX11_on 1 = .ok (.istore_n 3, 1) := by decide +kernel
theorem dX11_on_2 : decode cX11_on 2 = .ok (.iload_n 3, 1) := by decide +kernel
theorem dX11_on_3 : decode cX11_on 3 = .ok (.aload_n 0, 1) := by decide +kernel
theorem dX11_on_4 : decode cX11_on 4 = .ok (.getfield 24, 3) := by decide +kernel
theorem dX11_on_7 : decode cX11_on 7 = .ok (.iconst 0, 1) := by decide +kernel
theorem dX11_on_8 : decode cX11_on 8 = .ok (.iaload, 1) := by decide +kernel
theorem dX11_on_9 : decode cX11_on 9 = .ok (.if_icmp .ge 34, 3) := by decide +kernel
theorem dX11_on_12 : decode cX11_on 12 = .ok (.aload_n 0, 1) := by decide +kernel
theorem dX11_on_13 : decode cX11_on 13 = .ok (.getfield 75, 3) := by decide +kernel
theorem dX11_on_16 : decode cX11_on 16 = .ok (.iload_n 1, 1) := by decide +kernel
theorem dX11_on_17 : decode cX11_on 17 = .ok (.iaload, 1) := by decide +kernel
theorem dX11_on_18 : decode cX11_on 18 = .ok (.iload_n 3, 1) := by decide +kernel
theorem dX11_on_19 : decode cX11_on 19 = .ok (.ishr, 1) := by decide +kernel
theorem dX11_on_20 : decode cX11_on 20 = .ok (.iconst 1, 1) := by decide +kernel
theorem dX11_on_21 : decode cX11_on 21 = .ok (.iand, 1) := by decide +kernel
theorem dX11_on_22 : decode cX11_on 22 = .ok (.ifCond .eq 15, 3) := by decide +kernel
theorem dX11_on_25 : decode cX11_on 25 = .ok (.aload_n 0, 1) := by decide +kernel
theorem dX11_on_26 : decode cX11_on 26 = .ok (.getfield 27, 3) := by decide +kernel
theorem dX11_on_29 : decode cX11_on 29 = .ok (.iload_n 3, 1) := by decide +kernel
theorem dX11_on_30 : decode cX11_on 30 = .ok (.iaload, 1) := by decide +kernel
theorem dX11_on_31 : decode cX11_on 31 = .ok (.iload_n 2, 1) := by decide +kernel
theorem dX11_on_32 : decode cX11_on 32 = .ok (.if_icmp .ne 5, 3) := by decide +kernel
theorem dX11_on_35 : decode cX11_on 35 = .ok (.iload_n 3, 1) := by decide +kernel
theorem dX11_on_36 : decode cX11_on 36 = .ok (.ireturn, 1) := by decide +kernel
theorem dX11_on_37 : decode cX11_on 37 = .ok (.iinc 3 1, 3) := by decide +kernel
theorem dX11_on_40 : decode cX11_on 40 = .ok (.goto (-38), 3) := by decide +kernel
theorem dX11_on_43 : decode cX11_on 43 = .ok (.iconst (-1), 1) := by decide +kernel
theorem dX11_on_44 : decode cX11_on 44 = .ok (.ireturn, 1) := by decide +kernel
set_option maxRecDepth 20000 in
theorem ggX11_reason_X11_rank : GoodIn wsX11_reason wsX11_rank := goodIn_r _ [10, 11, 12, 26, 27, 28, 29, 30, 31, 32, 33, 34, 35, 36, 37, 38, 39, 40, 41, 42, 43, 44, 45, 46, 47, 48, 49, 50, 51, 52, 53, 54, 55, 56, 57, 58, 59, 60, 61, 62, 63, 64, 65, 66, 67, 68, 69, 70, 71, 72, 73, 74, 75, 76, 77, 78, 79, 80, 81, 82, 83, 84] (by decide +kernel) (by decide +kernel)
set_option maxRecDepth 20000 in
theorem gX11_reason_X11_rank : GoodIn wsX11_reason (wsV RX11 268 RX11 yX11_rank wsX11_rank) := goodIn_app (goodIn_of _ (by decide +kernel)) ggX11_reason_X11_rank
set_option maxRecDepth 20000 in
theorem ggX11_reason_X11_on : GoodIn wsX11_reason wsX11_on := goodIn_r _ [16, 17, 1, 3, 26, 27, 28, 29, 30, 31, 32, 33, 34, 35, 36, 37, 38, 39, 40, 41, 42, 43, 44, 45, 46, 47, 48, 49, 50, 51, 52, 53, 54, 55, 56, 57, 58, 59, 60, 61, 62, 63, 64, 65, 66, 67, 68, 69, 70, 71, 72, 73, 74, 75, 76, 77, 78, 79, 80, 81, 82, 83, 84] (by decide +kernel) (by decide +kernel)
set_option maxRecDepth 20000 in
theorem gX11_reason_X11_on : GoodIn wsX11_reason (wsV RX11 301 RX11 yX11_on wsX11_on) := goodIn_app (goodIn_of _ (by decide +kernel)) ggX11_reason_X11_on
set_option maxRecDepth 20000 in
theorem ggX11_reason_X11_ones : GoodIn wsX11_reason wsX11_ones := goodIn_r _ [20] (by decide +kernel) (by decide +kernel)
set_option maxRecDepth 20000 in
theorem gX11_reason_X11_ones : GoodIn wsX11_reason (va_wsS RX11 275 yX11_ones wsX11_ones) := goodIn_app (goodIn_of _ (by decide +kernel)) ggX11_reason_X11_ones
set_option maxRecDepth 20000 in
theorem ggX11_reason_X11_hasNow : GoodIn wsX11_reason wsX11_hasNow := goodIn_r _ [24, 25, 1, 26, 27, 28, 29, 30, 31, 32, 33, 34, 35, 36, 37, 38, 39, 40, 41, 42, 43, 44, 45, 46, 47, 48, 49, 50, 51, 52, 53, 54, 55, 56, 57, 58, 59, 60, 61, 62, 63, 64, 65, 66, 67, 68, 69, 70, 71, 72, 73, 74, 75, 76, 77, 78, 79, 80, 81, 82, 83, 84] (by decide +kernel) (by decide +kernel)
set_option maxRecDepth 20000 in
theorem gX11_reason_X11_hasNow : GoodIn wsX11_reason (wsV RX11 304 RX11 yX11_hasNow wsX11_hasNow) := goodIn_app (goodIn_of _ (by decide +kernel)) ggX11_reason_X11_hasNow
theorem dX11_reason_0 : decode cX11_reason 0 = .ok (.aload_n 0, 1) := by decide +kernel
theorem dX11_reason_1 : decode cX11_reason 1 = .ok (.getfield 75, 3) := by decide +kernel
theorem dX11_reason_4 : decode cX11_reason 4 = .ok (.iload_n 1, 1) := by decide +kernel
theorem dX11_reason_5 : decode cX11_reason 5 = .ok (.iaload, 1) := by decide +kernel
theorem dX11_reason_6 : decode cX11_reason 6 = .ok (.iload_n 2, 1) := by decide +kernel
theorem dX11_reason_7 : decode cX11_reason 7 = .ok (.ishr, 1) := by decide +kernel
theorem dX11_reason_8 : decode cX11_reason 8 = .ok (.iconst 1, 1) := by decide +kernel
theorem dX11_reason_9 : decode cX11_reason 9 = .ok (.iand, 1) := by decide +kernel
theorem dX11_reason_10 : decode cX11_reason 10 = .ok (.ifCond .eq 5, 3) := by decide +kernel
theorem dX11_reason_13 : decode cX11_reason 13 = .ok (.iconst 0, 1) := by decide +kernel
theorem dX11_reason_14 : decode cX11_reason 14 = .ok (.ireturn, 1) := by decide +kernel
theorem dX11_reason_15 : decode cX11_reason 15 = .ok (.aload_n 0, 1) := by decide +kernel
theorem dX11_reason_16 : decode cX11_reason 16 = .ok (.iload_n 1, 1) := by decide +kernel
theorem dX11_reason_17 : decode cX11_reason 17 = .ok (.iload_n 2, 1) := by decide +kernel
theorem dX11_reason_18 : decode cX11_reason 18 = .ok (.invokevirtual 268, 3) := by decide +kernel
theorem dX11_reason_21 : decode cX11_reason 21 = .ok (.iconst (-1), 1) := by decide +kernel
theorem dX11_reason_22 : decode cX11_reason 22 = .ok (.if_icmp .ne 5, 3) := by decide +kernel
theorem dX11_reason_25 : decode cX11_reason 25 = .ok (.iconst 1, 1) := by decide +kernel
theorem dX11_reason_26 : decode cX11_reason 26 = .ok (.ireturn, 1) := by decide +kernel
theorem dX11_reason_27 : decode cX11_reason 27 = .ok (.aload_n 0, 1) := by decide +kernel
theorem dX11_reason_28 : decode cX11_reason 28 = .ok (.getfield 63, 3) := by decide +kernel
theorem dX11_reason_31 : decode cX11_reason 31 = .ok (.iconst 0, 1) := by decide +kernel
theorem dX11_reason_32 : decode cX11_reason 32 = .ok (.iaload, 1) := by decide +kernel
theorem dX11_reason_33 : decode cX11_reason 33 = .ok (.iload_n 2, 1) := by decide +kernel
theorem dX11_reason_34 : decode cX11_reason 34 = .ok (.ishr, 1) := by decide +kernel
theorem dX11_reason_35 : decode cX11_reason 35 = .ok (.iconst 1, 1) := by decide +kernel
theorem dX11_reason_36 : decode cX11_reason 36 = .ok (.iand, 1) := by decide +kernel
theorem dX11_reason_37 : decode cX11_reason 37 = .ok (.ifCond .ne 5, 3) := by decide +kernel
theorem dX11_reason_40 : decode cX11_reason 40 = .ok (.iconst 2, 1) := by decide +kernel
theorem dX11_reason_41 : decode cX11_reason 41 = .ok (.ireturn, 1) := by decide +kernel
theorem dX11_reason_42 : decode cX11_reason 42 = .ok (.aload_n 0, 1) := by decide +kernel
theorem dX11_reason_43 : decode cX11_reason 43 = .ok (.iload_n 1, 1) := by decide +kernel
theorem dX11_reason_44 : decode cX11_reason 44 = .ok (.aload_n 0, 1) := by decide +kernel
theorem dX11_reason_45 : decode cX11_reason 45 = .ok (.getfield 27, 3) := by decide +kernel
theorem dX11_reason_48 : decode cX11_reason 48 = .ok (.iload_n 2, 1) := by decide +kernel
theorem dX11_reason_49 : decode cX11_reason 49 = .ok (.iaload, 1) := by decide +kernel
theorem dX11_reason_50 : decode cX11_reason 50 = .ok (.invokevirtual 301, 3) := by decide +kernel
theorem dX11_reason_53 : decode cX11_reason 53 = .ok (.istore_n 3, 1) := by decide +kernel
theorem dX11_reason_54 : decode cX11_reason 54 = .ok (.iload_n 3, 1) := by decide +kernel
theorem dX11_reason_55 : decode cX11_reason 55 = .ok (.iconst (-1), 1) := by decide +kernel
theorem dX11_reason_56 : decode cX11_reason 56 = .ok (.if_icmp .eq 20, 3) := by decide +kernel
theorem dX11_reason_59 : decode cX11_reason 59 = .ok (.aload_n 0, 1) := by decide +kernel
theorem dX11_reason_60 : decode cX11_reason 60 = .ok (.iload_n 1, 1) := by decide +kernel
theorem dX11_reason_61 : decode cX11_reason 61 = .ok (.iload_n 3, 1) := by decide +kernel
theorem dX11_reason_62 : decode cX11_reason 62 = .ok (.invokevirtual 268, 3) := by decide +kernel
theorem dX11_reason_65 : decode cX11_reason 65 = .ok (.aload_n 0, 1) := by decide +kernel
theorem dX11_reason_66 : decode cX11_reason 66 = .ok (.iload_n 1, 1) := by decide +kernel
theorem dX11_reason_67 : decode cX11_reason 67 = .ok (.iload_n 2, 1) := by decide +kernel
theorem dX11_reason_68 : decode cX11_reason 68 = .ok (.invokevirtual 268, 3) := by decide +kernel
theorem dX11_reason_71 : decode cX11_reason 71 = .ok (.if_icmp .ge 5, 3) := by decide +kernel
theorem dX11_reason_74 : decode cX11_reason 74 = .ok (.iconst 3, 1) := by decide +kernel
theorem dX11_reason_75 : decode cX11_reason 75 = .ok (.ireturn, 1) := by decide +kernel
theorem dX11_reason_76 : decode cX11_reason 76 = .ok (.iload_n 3, 1) := by decide +kernel
theorem dX11_reason_77 : decode cX11_reason 77 = .ok (.iconst (-1), 1) := by decide +kernel
theorem dX11_reason_78 : decode cX11_reason 78 = .ok (.if_icmp .ne 23, 3) := by decide +kernel
theorem dX11_reason_81 : decode cX11_reason 81 = .ok (.aload_n 0, 1) := by decide +kernel
theorem dX11_reason_82 : decode cX11_reason 82 = .ok (.getfield 75, 3) := by decide +kernel
theorem dX11_reason_85 : decode cX11_reason 85 = .ok (.iload_n 1, 1) := by decide +kernel
theorem dX11_reason_86 : decode cX11_reason 86 = .ok (.iaload, 1) := by decide +kernel
theorem dX11_reason_87 : decode cX11_reason 87 = .ok (.invokestatic 275, 3) := by decide +kernel
theorem dX11_reason_90 : decode cX11_reason 90 = .ok (.aload_n 0, 1) := by decide +kernel
theorem dX11_reason_91 : decode cX11_reason 91 = .ok (.getfield 51, 3) := by decide +kernel
theorem dX11_reason_94 : decode cX11_reason 94 = .ok (.iload_n 1, 1) := by decide +kernel
theorem dX11_reason_95 : decode cX11_reason 95 = .ok (.iaload, 1) := by decide +kernel
theorem dX11_reason_96 : decode cX11_reason 96 = .ok (.if_icmp .lt 5, 3) := by decide +kernel
theorem dX11_reason_99 : decode cX11_reason 99 = .ok (.iconst 4, 1) := by decide +kernel
theorem dX11_reason_100 : decode cX11_reason 100 = .ok (.ireturn, 1) := by decide +kernel
theorem dX11_reason_101 : decode cX11_reason 101 = .ok (.aload_n 0, 1) := by decide +kernel
theorem dX11_reason_102 : decode cX11_reason 102 = .ok (.iload_n 2, 1) := by decide +kernel
theorem dX11_reason_103 : decode cX11_reason 103 = .ok (.invokevirtual 304, 3) := by decide +kernel
theorem dX11_reason_106 : decode cX11_reason 106 = .ok (.aload_n 0, 1) := by decide +kernel
theorem dX11_reason_107 : decode cX11_reason 107 = .ok (.getfield 69, 3) := by decide +kernel
theorem dX11_reason_110 : decode cX11_reason 110 = .ok (.iload_n 2, 1) := by decide +kernel
theorem dX11_reason_111 : decode cX11_reason 111 = .ok (.iaload, 1) := by decide +kernel
theorem dX11_reason_112 : decode cX11_reason 112 = .ok (.if_icmp .lt 7, 3) := by decide +kernel
theorem dX11_reason_115 : decode cX11_reason 115 = .ok (.iconst 5, 1) := by decide +kernel
theorem dX11_reason_116 : decode cX11_reason 116 = .ok (.goto 5, 3) := by decide +kernel
theorem dX11_reason_119 : decode cX11_reason 119 = .ok (.bipush 6, 2) := by decide +kernel
theorem dX11_reason_121 : decode cX11_reason 121 = .ok (.ireturn, 1) := by decide +kernel
set_option maxRecDepth 20000 in
theorem ggX11_oneMoves_X11_reason : GoodIn wsX11_oneMoves wsX11_reason := goodIn_r _ [11, 5, 12, 4, 13, 14, 15, 16, 17, 10, 18, 2, 3, 19, 20, 21, 22, 23, 24, 25, 26, 27, 28, 29, 30, 1, 31, 32, 33, 34, 35, 36, 37, 38, 39, 40, 41, 42, 43, 44, 45, 46, 47, 48, 49, 50, 51, 52, 53, 54, 55, 56, 57, 58, 59, 60, 61, 62, 63, 64, 65, 66, 67, 68, 69, 70, 71, 72, 73, 74, 75, 76, 77, 78, 79, 80, 81, 82, 83, 84, 85, 86, 87, 88, 89] (by decide +kernel) (by decide +kernel)
set_option maxRecDepth 20000 in
theorem gX11_oneMoves_X11_reason : GoodIn wsX11_oneMoves (wsV RX11 307 RX11 yX11_reason wsX11_reason) := goodIn_app (goodIn_of _ (by decide +kernel)) ggX11_oneMoves_X11_reason
set_option maxRecDepth 20000 in
theorem ggX11_oneMoves_X11_on : GoodIn wsX11_oneMoves wsX11_on := goodIn_r _ [22, 23, 5, 4, 31, 32, 33, 34, 35, 36, 37, 38, 39, 40, 41, 42, 43, 44, 45, 46, 47, 48, 49, 50, 51, 52, 53, 54, 55, 56, 57, 58, 59, 60, 61, 62, 63, 64, 65, 66, 67, 68, 69, 70, 71, 72, 73, 74, 75, 76, 77, 78, 79, 80, 81, 82, 83, 84, 85, 86, 87, 88, 89] (by decide +kernel) (by decide +kernel)
set_option maxRecDepth 20000 in
theorem gX11_oneMoves_X11_on : GoodIn wsX11_oneMoves (wsV RX11 301 RX11 yX11_on wsX11_on) := goodIn_app (goodIn_of _ (by decide +kernel)) ggX11_oneMoves_X11_on
theorem dX11_oneMoves_0 : decode cX11_oneMoves 0 = .ok (.iconst 0, 1) := by decide +kernel
theorem dX11_oneMoves_1 : decode cX11_oneMoves 1 = .ok (.istore_n 1, 1) := by decide +kernel
theorem dX11_oneMoves_2 : decode cX11_oneMoves 2 = .ok (.iload_n 1, 1) := by decide +kernel
theorem dX11_oneMoves_3 : decode cX11_oneMoves 3 = .ok (.aload_n 0, 1) := by decide +kernel
theorem dX11_oneMoves_4 : decode cX11_oneMoves 4 = .ok (.getfield 42, 3) := by decide +kernel
theorem dX11_oneMoves_7 : decode cX11_oneMoves 7 = .ok (.iconst 0, 1) := by decide +kernel
theorem dX11_oneMoves_8 : decode cX11_oneMoves 8 = .ok (.iaload, 1) := by decide +kernel
theorem dX11_oneMoves_9 : decode cX11_oneMoves 9 = .ok (.if_icmp .ge 112, 3) := by decide +kernel
theorem dX11_oneMoves_12 : decode cX11_oneMoves 12 = .ok (.iconst 0, 1) := by decide +kernel
theorem dX11_oneMoves_13 : decode cX11_oneMoves 13 = .ok (.istore_n 2, 1) := by decide +kernel
theorem dX11_oneMoves_14 : decode cX11_oneMoves 14 = .ok (.iload_n 2, 1) := by decide +kernel
theorem dX11_oneMoves_15 : decode cX11_oneMoves 15 = .ok (.aload_n 0, 1) := by decide +kernel
theorem dX11_oneMoves_16 : decode cX11_oneMoves 16 = .ok (.getfield 54, 3) := by decide +kernel
theorem dX11_oneMoves_19 : decode cX11_oneMoves 19 = .ok (.iload_n 1, 1) := by decide +kernel
theorem dX11_oneMoves_20 : decode cX11_oneMoves 20 = .ok (.iaload, 1) := by decide +kernel
theorem dX11_oneMoves_21 : decode cX11_oneMoves 21 = .ok (.if_icmp .ge 94, 3) := by decide +kernel
theorem dX11_oneMoves_24 : decode cX11_oneMoves 24 = .ok (.aload_n 0, 1) := by decide +kernel
theorem dX11_oneMoves_25 : decode cX11_oneMoves 25 = .ok (.getfield 57, 3) := by decide +kernel
theorem dX11_oneMoves_28 : decode cX11_oneMoves 28 = .ok (.bipush 6, 2) := by decide +kernel
theorem dX11_oneMoves_30 : decode cX11_oneMoves 30 = .ok (.iload_n 1, 1) := by decide +kernel
theorem dX11_oneMoves_31 : decode cX11_oneMoves 31 = .ok (.imul, 1) := by decide +kernel
theorem dX11_oneMoves_32 : decode cX11_oneMoves 32 = .ok (.iload_n 2, 1) := by decide +kernel
theorem dX11_oneMoves_33 : decode cX11_oneMoves 33 = .ok (.iadd, 1) := by decide +kernel
theorem dX11_oneMoves_34 : decode cX11_oneMoves 34 = .ok (.iaload, 1) := by decide +kernel
theorem dX11_oneMoves_35 : decode cX11_oneMoves 35 = .ok (.istore_n 3, 1) := by decide +kernel
theorem dX11_oneMoves_36 : decode cX11_oneMoves 36 = .ok (.aload_n 0, 1) := by decide +kernel
theorem dX11_oneMoves_37 : decode cX11_oneMoves 37 = .ok (.iload_n 1, 1) := by decide +kernel
theorem dX11_oneMoves_38 : decode cX11_oneMoves 38 = .ok (.iload_n 3, 1) := by decide +kernel
theorem dX11_oneMoves_39 : decode cX11_oneMoves 39 = .ok (.invokevirtual 307, 3) := by decide +kernel
theorem dX11_oneMoves_42 : decode cX11_oneMoves 42 = .ok (.bipush 6, 2) := by decide +kernel
theorem dX11_oneMoves_44 : decode cX11_oneMoves 44 = .ok (.if_icmp .ne 65, 3) := by decide +kernel
theorem dX11_oneMoves_47 : decode cX11_oneMoves 47 = .ok (.aload_n 0, 1) := by decide +kernel
theorem dX11_oneMoves_48 : decode cX11_oneMoves 48 = .ok (.iload_n 1, 1) := by decide +kernel
theorem dX11_oneMoves_49 : decode cX11_oneMoves 49 = .ok (.aload_n 0, 1) := by decide +kernel
theorem dX11_oneMoves_50 : decode cX11_oneMoves 50 = .ok (.getfield 27, 3) := by decide +kernel
theorem dX11_oneMoves_53 : decode cX11_oneMoves 53 = .ok (.iload_n 3, 1) := by decide +kernel
theorem dX11_oneMoves_54 : decode cX11_oneMoves 54 = .ok (.iaload, 1) := by decide +kernel
theorem dX11_oneMoves_55 : decode cX11_oneMoves 55 = .ok (.invokevirtual 301, 3) := by decide +kernel
theorem dX11_oneMoves_58 : decode cX11_oneMoves 58 = .ok (.istore 4, 2) := by decide +kernel
theorem dX11_oneMoves_60 : decode cX11_oneMoves 60 = .ok (.aload_n 0, 1) := by decide +kernel
theorem dX11_oneMoves_61 : decode cX11_oneMoves 61 = .ok (.getfield 75, 3) := by decide +kernel
theorem dX11_oneMoves_64 : decode cX11_oneMoves 64 = .ok (.iload_n 1, 1) := by decide +kernel
theorem dX11_oneMoves_65 : decode cX11_oneMoves 65 = .ok (.dup2, 1) := by decide +kernel
theorem dX11_oneMoves_66 : decode cX11_oneMoves 66 = .ok (.iaload, 1) := by decide +kernel
theorem dX11_oneMoves_67 : decode cX11_oneMoves 67 = .ok (.iconst 1, 1) := by decide +kernel
theorem dX11_oneMoves_68 : decode cX11_oneMoves 68 = .ok (.iload_n 3, 1) := by decide +kernel
theorem dX11_oneMoves_69 : decode cX11_oneMoves 69 = .ok (.ishl, 1) := by decide +kernel
theorem dX11_oneMoves_70 : decode cX11_oneMoves 70 = .ok (.ior, 1) := by decide +kernel
theorem dX11_oneMoves_71 : decode cX11_oneMoves 71 = .ok (.iastore, 1) := by decide +kernel
theorem dX11_oneMoves_72 : decode cX11_oneMoves 72 = .ok (.aload_n 0, 1) := by decide +kernel
theorem dX11_oneMoves_73 : decode cX11_oneMoves 73 = .ok (.getfield 75, 3) := by decide +kernel
theorem dX11_oneMoves_76 : decode cX11_oneMoves 76 = .ok (.iload_n 1, 1) := by decide +kernel
theorem dX11_oneMoves_77 : decode cX11_oneMoves 77 = .ok (.dup2, 1) := by decide +kernel
theorem dX11_oneMoves_78 : decode cX11_oneMoves 78 = .ok (.iaload, 1) := by decide +kernel
theorem dX11_oneMoves_79 : decode cX11_oneMoves 79 = .ok (.iload 4, 2) := by decide +kernel
theorem dX11_oneMoves_81 : decode cX11_oneMoves 81 = .ok (.iconst (-1), 1) := by decide +kernel
theorem dX11_oneMoves_82 : decode cX11_oneMoves 82 = .ok (.if_icmp .ne 7, 3) := by decide +kernel
theorem dX11_oneMoves_85 : decode cX11_oneMoves 85 = .ok (.iconst (-1), 1) := by decide +kernel
theorem dX11_oneMoves_86 : decode cX11_oneMoves 86 = .ok (.goto 9, 3) := by decide +kernel
theorem dX11_oneMoves_89 : decode cX11_oneMoves 89 = .ok (.iconst 1, 1) := by decide +kernel
theorem dX11_oneMoves_90 : decode cX11_oneMoves 90 = .ok (.iload 4, 2) := by decide +kernel
theorem dX11_oneMoves_92 : decode cX11_oneMoves 92 = .ok (.ishl, 1) := by decide +kernel
theorem dX11_oneMoves_93 : decode cX11_oneMoves 93 = .ok (.iconst (-1), 1) := by decide +kernel
theorem dX11_oneMoves_94 : decode cX11_oneMoves 94 = .ok (.ixor, 1) := by decide +kernel
theorem dX11_oneMoves_95 : decode cX11_oneMoves 95 = .ok (.iand, 1) := by decide +kernel
theorem dX11_oneMoves_96 : decode cX11_oneMoves 96 = .ok (.iastore, 1) := by decide +kernel
theorem dX11_oneMoves_97 : decode cX11_oneMoves 97 = .ok (.aload_n 0, 1) := by decide +kernel
theorem dX11_oneMoves_98 : decode cX11_oneMoves 98 = .ok (.getfield 78, 3) := by decide +kernel
theorem dX11_oneMoves_101 : decode cX11_oneMoves 101 = .ok (.iload_n 1, 1) := by decide +kernel
theorem dX11_oneMoves_102 : decode cX11_oneMoves 102 = .ok (.dup2, 1) := by decide +kernel
theorem dX11_oneMoves_103 : decode cX11_oneMoves 103 = .ok (.iaload, 1) := by decide +kernel
theorem dX11_oneMoves_104 : decode cX11_oneMoves 104 = .ok (.iconst 1, 1) := by decide +kernel
theorem dX11_oneMoves_105 : decode cX11_oneMoves 105 = .ok (.iadd, 1) := by decide +kernel
theorem dX11_oneMoves_106 : decode cX11_oneMoves 106 = .ok (.iastore, 1) := by decide +kernel
theorem dX11_oneMoves_107 : decode cX11_oneMoves 107 = .ok (.iconst 1, 1) := by decide +kernel
theorem dX11_oneMoves_108 : decode cX11_oneMoves 108 = .ok (.ireturn, 1) := by decide +kernel
theorem dX11_oneMoves_109 : decode cX11_oneMoves 109 = .ok (.iinc 2 1, 3) := by decide +kernel
theorem dX11_oneMoves_112 : decode cX11_oneMoves 112 = .ok (.goto (-98), 3) := by decide +kernel
theorem dX11_oneMoves_115 : decode cX11_oneMoves 115 = .ok (.iinc 1 1, 3) := by decide +kernel
theorem dX11_oneMoves_118 : decode cX11_oneMoves 118 = .ok (.goto (-116), 3) := by decide +kernel
theorem dX11_oneMoves_121 : decode cX11_oneMoves 121 = .ok (.iconst 0, 1) := by decide +kernel
theorem dX11_oneMoves_122 : decode cX11_oneMoves 122 = .ok (.ireturn, 1) := by decide +kernel
set_option maxRecDepth 20000 in
theorem ggX11_moveUp_X11_oneMoves : GoodIn wsX11_moveUp wsX11_oneMoves := goodIn_r _ [6, 7, 8, 9, 10, 11, 12, 13, 14, 15, 5, 16, 17, 18, 19, 20, 21, 22, 23, 24, 25, 26, 27, 28, 29, 30, 31, 32, 33, 34, 35, 36, 37, 38, 39, 40, 41, 42, 43, 44, 45, 46, 47, 48, 49, 50, 51, 52, 53, 54, 55, 56, 57, 58, 59, 60, 61, 62, 63, 64, 65, 66, 67, 68, 69, 70, 71, 72, 73, 74, 75, 76, 77, 78, 79, 80, 81, 82, 83, 84, 85, 86, 87, 88, 89, 90, 91, 92, 93, 94] (by decide +kernel) (by decide +kernel)
set_option maxRecDepth 20000 in
theorem gX11_moveUp_X11_oneMoves : GoodIn wsX11_moveUp (wsV RX11 310 RX11 yX11_oneMoves wsX11_oneMoves) := goodIn_app (goodIn_of _ (by decide +kernel)) ggX11_moveUp_X11_oneMoves
theorem dX11_moveUp_0 : decode cX11_moveUp 0 = .ok (.aload_n 0, 1) := by decide +kernel
theorem dX11_moveUp_1 : decode cX11_moveUp 1 = .ok (.getfield 60, 3) := by decide +kernel
theorem dX11_moveUp_4 : decode cX11_moveUp 4 = .ok (.iconst 0, 1) := by decide +kernel
theorem dX11_moveUp_5 : decode cX11_moveUp 5 = .ok (.iaload, 1) := by decide +kernel
theorem dX11_moveUp_6 : decode cX11_moveUp 6 = .ok (.iconst (-1), 1) := by decide +kernel
theorem dX11_moveUp_7 : decode cX11_moveUp 7 = .ok (.if_icmp .eq 7, 3) := by decide +kernel
theorem dX11_moveUp_10 : decode cX11_moveUp 10 = .ok (.iconst 1, 1) := by decide +kernel
theorem dX11_moveUp_11 : decode cX11_moveUp 11 = .ok (.goto 4, 3) := by decide +kernel
theorem dX11_moveUp_14 : decode cX11_moveUp 14 = .ok (.iconst 0, 1) := by decide +kernel
theorem dX11_moveUp_15 : decode cX11_moveUp 15 = .ok (.istore_n 1, 1) := by decide +kernel
theorem dX11_moveUp_16 : decode cX11_moveUp 16 = .ok (.iload_n 1, 1) := by decide +kernel
theorem dX11_moveUp_17 : decode cX11_moveUp 17 = .ok (.ifCond .eq 11, 3) := by decide +kernel
theorem dX11_moveUp_20 : decode cX11_moveUp 20 = .ok (.aload_n 0, 1) := by decide +kernel
theorem dX11_moveUp_21 : decode cX11_moveUp 21 = .ok (.invokevirtual 310, 3) := by decide +kernel
theorem dX11_moveUp_24 : decode cX11_moveUp 24 = .ok (.istore_n 1, 1) := by decide +kernel
theorem dX11_moveUp_25 : decode cX11_moveUp 25 = .ok (.goto (-9), 3) := by decide +kernel
theorem dX11_moveUp_28 : decode cX11_moveUp 28 = .ok (.return_, 1) := by decide +kernel
set_option maxRecDepth 20000 in
theorem ggX11_weeks_X11_in : GoodIn wsX11_weeks wsX11_in := goodIn_r _ [14] (by decide +kernel) (by decide +kernel)
set_option maxRecDepth 20000 in
theorem gX11_weeks_X11_in : GoodIn wsX11_weeks (va_wsS RX11 193 yX11_in wsX11_in) := goodIn_app (goodIn_of _ (by decide +kernel)) ggX11_weeks_X11_in
set_option maxRecDepth 20000 in
theorem ggX11_weeks_X11_hasNow : GoodIn wsX11_weeks wsX11_hasNow := goodIn_r _ [18, 19, 20, 54, 55, 56, 57, 58, 59, 60, 61, 62, 63, 64, 65, 66, 67, 68, 69, 70, 71, 72, 73, 74, 75, 76, 77, 78, 79, 80, 81, 82, 83, 84, 85, 86, 87, 88, 89, 90, 91, 92, 93, 94, 95, 96, 97, 98, 99, 100, 101, 102, 103, 104, 105, 106, 107, 108, 109, 110, 111, 112] (by decide +kernel) (by decide +kernel)
set_option maxRecDepth 20000 in
theorem gX11_weeks_X11_hasNow : GoodIn wsX11_weeks (wsV RX11 304 RX11 yX11_hasNow wsX11_hasNow) := goodIn_app (goodIn_of _ (by decide +kernel)) ggX11_weeks_X11_hasNow
set_option maxRecDepth 20000 in
theorem ggX11_weeks_X11_falls : GoodIn wsX11_weeks wsX11_falls := goodIn_r _ [24, 4, 9, 25, 19, 20, 54, 55, 56, 57, 58, 59, 60, 61, 62, 63, 64, 65, 66, 67, 68, 69, 70, 71, 72, 73, 74, 75, 76, 77, 78, 79, 80, 81, 82, 83, 84, 85, 86, 87, 88, 89, 90, 91, 92, 93, 94, 95, 96, 97, 98, 99, 100, 101, 102, 103, 104, 105, 106, 107, 108, 109, 110, 111, 112] (by decide +kernel) (by decide +kernel)
set_option maxRecDepth 20000 in
theorem gX11_weeks_X11_falls : GoodIn wsX11_weeks (wsV RX11 313 RX11 yX11_falls wsX11_falls) := goodIn_app (goodIn_of _ (by decide +kernel)) ggX11_weeks_X11_falls
set_option maxRecDepth 20000 in
theorem ggX11_weeks_X11_moveUp : GoodIn wsX11_weeks wsX11_moveUp := goodIn_r _ [29, 2, 30, 31, 32, 13, 33, 19, 34, 35, 36, 20, 37, 38, 39, 40, 41, 4, 42, 25, 43, 44, 45, 46, 47, 48, 49, 50, 3, 51, 52, 53, 15, 16, 17, 18, 54, 55, 56, 57, 58, 59, 60, 61, 62, 63, 64, 65, 66, 67, 68, 69, 70, 71, 72, 73, 74, 75, 76, 77, 78, 79, 80, 81, 82, 83, 84, 85, 86, 87, 88, 89, 90, 91, 92, 93, 94, 95, 96, 97, 98, 99, 100, 101, 102, 103, 104, 105, 106, 107, 108, 109, 110, 111, 112] (by decide +kernel) (by decide +kernel)
set_option maxRecDepth 20000 in
theorem gX11_weeks_X11_moveUp : GoodIn wsX11_weeks (wsV RX11 272 RX11 yX11_moveUp wsX11_moveUp) := goodIn_app (goodIn_of _ (by decide +kernel)) ggX11_weeks_X11_moveUp
theorem dX11_weeks_0 : decode cX11_weeks 0 = .ok (.aload_n 0, 1) := by decide +kernel
theorem dX11_weeks_1 : decode cX11_weeks 1 = .ok (.iconst 0, 1) := by decide +kernel
theorem dX11_weeks_2 : decode cX11_weeks 2 = .ok (.putfield 179, 3) := by decide +kernel
theorem dX11_weeks_5 : decode cX11_weeks 5 = .ok (.aload_n 0, 1) := by decide +kernel
theorem dX11_weeks_6 : decode cX11_weeks 6 = .ok (.getfield 60, 3) := by decide +kernel
theorem dX11_weeks_9 : decode cX11_weeks 9 = .ok (.iconst 0, 1) := by decide +kernel
theorem dX11_weeks_10 : decode cX11_weeks 10 = .ok (.iaload, 1) := by decide +kernel
theorem dX11_weeks_11 : decode cX11_weeks 11 = .ok (.iconst (-1), 1) := by decide +kernel
theorem dX11_weeks_12 : decode cX11_weeks 12 = .ok (.if_icmp .eq 13, 3) := by decide +kernel
theorem dX11_weeks_15 : decode cX11_weeks 15 = .ok (.iload_n 1, 1) := by decide +kernel
theorem dX11_weeks_16 : decode cX11_weeks 16 = .ok (.iconst 1, 1) := by decide +kernel
theorem dX11_weeks_17 : decode cX11_weeks 17 = .ok (.bipush 20, 2) := by decide +kernel
theorem dX11_weeks_19 : decode cX11_weeks 19 = .ok (.invokestatic 193, 3) := by decide +kernel
theorem dX11_weeks_22 : decode cX11_weeks 22 = .ok (.ifCond .ne 5, 3) := by decide +kernel
theorem dX11_weeks_25 : decode cX11_weeks 25 = .ok (.iconst (-1), 1) := by decide +kernel
theorem dX11_weeks_26 : decode cX11_weeks 26 = .ok (.ireturn, 1) := by decide +kernel
theorem dX11_weeks_27 : decode cX11_weeks 27 = .ok (.iconst 0, 1) := by decide +kernel
theorem dX11_weeks_28 : decode cX11_weeks 28 = .ok (.istore_n 2, 1) := by decide +kernel
theorem dX11_weeks_29 : decode cX11_weeks 29 = .ok (.iload_n 2, 1) := by decide +kernel
theorem dX11_weeks_30 : decode cX11_weeks 30 = .ok (.iload_n 1, 1) := by decide +kernel
theorem dX11_weeks_31 : decode cX11_weeks 31 = .ok (.if_icmp .ge 146, 3) := by decide +kernel
theorem dX11_weeks_34 : decode cX11_weeks 34 = .ok (.iconst 0, 1) := by decide +kernel
theorem dX11_weeks_35 : decode cX11_weeks 35 = .ok (.istore_n 3, 1) := by decide +kernel
theorem dX11_weeks_36 : decode cX11_weeks 36 = .ok (.iload_n 3, 1) := by decide +kernel
theorem dX11_weeks_37 : decode cX11_weeks 37 = .ok (.aload_n 0, 1) := by decide +kernel
theorem dX11_weeks_38 : decode cX11_weeks 38 = .ok (.getfield 24, 3) := by decide +kernel
theorem dX11_weeks_41 : decode cX11_weeks 41 = .ok (.iconst 0, 1) := by decide +kernel
theorem dX11_weeks_42 : decode cX11_weeks 42 = .ok (.iaload, 1) := by decide +kernel
theorem dX11_weeks_43 : decode cX11_weeks 43 = .ok (.if_icmp .ge 62, 3) := by decide +kernel
theorem dX11_weeks_46 : decode cX11_weeks 46 = .ok (.aload_n 0, 1) := by decide +kernel
theorem dX11_weeks_47 : decode cX11_weeks 47 = .ok (.getfield 63, 3) := by decide +kernel
theorem dX11_weeks_50 : decode cX11_weeks 50 = .ok (.iconst 0, 1) := by decide +kernel
