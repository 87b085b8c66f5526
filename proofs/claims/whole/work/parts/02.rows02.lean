theorem dX9_scan_99 : decode cX9_scan 99 = .ok (.baload, 1) := by decide +kernel
theorem dX9_scan_100 : decode cX9_scan 100 = .ok (.invokestatic 39, 3) := by decide +kernel
theorem dX9_scan_103 : decode cX9_scan 103 = .ok (.ifCond .eq 9, 3) := by decide +kernel
theorem dX9_scan_106 : decode cX9_scan 106 = .ok (.aload_n 1, 1) := by decide +kernel
theorem dX9_scan_107 : decode cX9_scan 107 = .ok (.iload_n 3, 1) := by decide +kernel
theorem dX9_scan_108 : decode cX9_scan 108 = .ok (.baload, 1) := by decide +kernel
theorem dX9_scan_109 : decode cX9_scan 109 = .ok (.goto 4, 3) := by decide +kernel
theorem dX9_scan_112 : decode cX9_scan 112 = .ok (.iconst 1, 1) := by decide +kernel
theorem dX9_scan_113 : decode cX9_scan 113 = .ok (.iload_n 3, 1) := by decide +kernel
theorem dX9_scan_114 : decode cX9_scan 114 = .ok (.iconst 0, 1) := by decide +kernel
theorem dX9_scan_115 : decode cX9_scan 115 = .ok (.invokevirtual 42, 3) := by decide +kernel
theorem dX9_scan_118 : decode cX9_scan 118 = .ok (.iinc 3 1, 3) := by decide +kernel
theorem dX9_scan_121 : decode cX9_scan 121 = .ok (.goto (-114), 3) := by decide +kernel
theorem dX9_scan_124 : decode cX9_scan 124 = .ok (.aload_n 0, 1) := by decide +kernel
theorem dX9_scan_125 : decode cX9_scan 125 = .ok (.iconst 0, 1) := by decide +kernel
theorem dX9_scan_126 : decode cX9_scan 126 = .ok (.iload_n 2, 1) := by decide +kernel
theorem dX9_scan_127 : decode cX9_scan 127 = .ok (.iconst 0, 1) := by decide +kernel
theorem dX9_scan_128 : decode cX9_scan 128 = .ok (.invokevirtual 42, 3) := by decide +kernel
theorem dX9_scan_131 : decode cX9_scan 131 = .ok (.return_, 1) := by decide +kernel
theorem dX9_isDigit_0 : decode cX9_isDigit 0 = .ok (.iload_n 0, 1) := by decide +kernel
theorem dX9_isDigit_1 : decode cX9_isDigit 1 = .ok (.bipush 48, 2) := by decide +kernel
theorem dX9_isDigit_3 : decode cX9_isDigit 3 = .ok (.if_icmp .lt 13, 3) := by decide +kernel
theorem dX9_isDigit_6 : decode cX9_isDigit 6 = .ok (.iload_n 0, 1) := by decide +kernel
theorem dX9_isDigit_7 : decode cX9_isDigit 7 = .ok (.bipush 57, 2) := by decide +kernel
theorem dX9_isDigit_9 : decode cX9_isDigit 9 = .ok (.if_icmp .gt 7, 3) := by decide +kernel
theorem dX9_isDigit_12 : decode cX9_isDigit 12 = .ok (.iconst 1, 1) := by decide +kernel
theorem dX9_isDigit_13 : decode cX9_isDigit 13 = .ok (.goto 4, 3) := by decide +kernel
theorem dX9_isDigit_16 : decode cX9_isDigit 16 = .ok (.iconst 0, 1) := by decide +kernel
theorem dX9_isDigit_17 : decode cX9_isDigit 17 = .ok (.ireturn, 1) := by decide +kernel
theorem dX9_isLetter_0 : decode cX9_isLetter 0 = .ok (.iload_n 0, 1) := by decide +kernel
theorem dX9_isLetter_1 : decode cX9_isLetter 1 = .ok (.bipush 97, 2) := by decide +kernel
theorem dX9_isLetter_3 : decode cX9_isLetter 3 = .ok (.if_icmp .lt 13, 3) := by decide +kernel
theorem dX9_isLetter_6 : decode cX9_isLetter 6 = .ok (.iload_n 0, 1) := by decide +kernel
theorem dX9_isLetter_7 : decode cX9_isLetter 7 = .ok (.bipush 122, 2) := by decide +kernel
theorem dX9_isLetter_9 : decode cX9_isLetter 9 = .ok (.if_icmp .gt 7, 3) := by decide +kernel
theorem dX9_isLetter_12 : decode cX9_isLetter 12 = .ok (.iconst 1, 1) := by decide +kernel
theorem dX9_isLetter_13 : decode cX9_isLetter 13 = .ok (.goto 4, 3) := by decide +kernel
theorem dX9_isLetter_16 : decode cX9_isLetter 16 = .ok (.iconst 0, 1) := by decide +kernel
theorem dX9_isLetter_17 : decode cX9_isLetter 17 = .ok (.ireturn, 1) := by decide +kernel
theorem dX9_isSign_0 : decode cX9_isSign 0 = .ok (.iload_n 0, 1) := by decide +kernel
theorem dX9_isSign_1 : decode cX9_isSign 1 = .ok (.bipush 58, 2) := by decide +kernel
theorem dX9_isSign_3 : decode cX9_isSign 3 = .ok (.if_icmp .eq 33, 3) := by decide +kernel
theorem dX9_isSign_6 : decode cX9_isSign 6 = .ok (.iload_n 0, 1) := by decide +kernel
theorem dX9_isSign_7 : decode cX9_isSign 7 = .ok (.bipush 59, 2) := by decide +kernel
theorem dX9_isSign_9 : decode cX9_isSign 9 = .ok (.if_icmp .eq 27, 3) := by decide +kernel
theorem dX9_isSign_12 : decode cX9_isSign 12 = .ok (.iload_n 0, 1) := by decide +kernel
theorem dX9_isSign_13 : decode cX9_isSign 13 = .ok (.bipush 47, 2) := by decide +kernel
theorem dX9_isSign_15 : decode cX9_isSign 15 = .ok (.if_icmp .eq 21, 3) := by decide +kernel
theorem dX9_isSign_18 : decode cX9_isSign 18 = .ok (.iload_n 0, 1) := by decide +kernel
theorem dX9_isSign_19 : decode cX9_isSign 19 = .ok (.bipush 60, 2) := by decide +kernel
theorem dX9_isSign_21 : decode cX9_isSign 21 = .ok (.if_icmp .eq 15, 3) := by decide +kernel
theorem dX9_isSign_24 : decode cX9_isSign 24 = .ok (.iload_n 0, 1) := by decide +kernel
theorem dX9_isSign_25 : decode cX9_isSign 25 = .ok (.bipush 62, 2) := by decide +kernel
theorem dX9_isSign_27 : decode cX9_isSign 27 = .ok (.if_icmp .eq 9, 3) := by decide +kernel
theorem dX9_isSign_30 : decode cX9_isSign 30 = .ok (.iload_n 0, 1) := by decide +kernel
theorem dX9_isSign_31 : decode cX9_isSign 31 = .ok (.bipush 61, 2) := by decide +kernel
theorem dX9_isSign_33 : decode cX9_isSign 33 = .ok (.if_icmp .ne 7, 3) := by decide +kernel
theorem dX9_isSign_36 : decode cX9_isSign 36 = .ok (.iconst 1, 1) := by decide +kernel
theorem dX9_isSign_37 : decode cX9_isSign 37 = .ok (.goto 4, 3) := by decide +kernel
theorem dX9_isSign_40 : decode cX9_isSign 40 = .ok (.iconst 0, 1) := by decide +kernel
theorem dX9_isSign_41 : decode cX9_isSign 41 = .ok (.ireturn, 1) := by decide +kernel
theorem dX9_addToken_0 : decode cX9_addToken 0 = .ok (.aload_n 0, 1) := by decide +kernel
theorem dX9_addToken_1 : decode cX9_addToken 1 = .ok (.getfield 21, 3) := by decide +kernel
theorem dX9_addToken_4 : decode cX9_addToken 4 = .ok (.aload_n 0, 1) := by decide +kernel
theorem dX9_addToken_5 : decode cX9_addToken 5 = .ok (.getfield 9, 3) := by decide +kernel
theorem dX9_addToken_8 : decode cX9_addToken 8 = .ok (.arraylength, 1) := by decide +kernel
theorem dX9_addToken_9 : decode cX9_addToken 9 = .ok (.if_icmp .ge 43, 3) := by decide +kernel
theorem dX9_addToken_12 : decode cX9_addToken 12 = .ok (.aload_n 0, 1) := by decide +kernel
theorem dX9_addToken_13 : decode cX9_addToken 13 = .ok (.getfield 9, 3) := by decide +kernel
theorem dX9_addToken_16 : decode cX9_addToken 16 = .ok (.aload_n 0, 1) := by decide +kernel
theorem dX9_addToken_17 : decode cX9_addToken 17 = .ok (.getfield 21, 3) := by decide +kernel
theorem dX9_addToken_20 : decode cX9_addToken 20 = .ok (.iload_n 1, 1) := by decide +kernel
theorem dX9_addToken_21 : decode cX9_addToken 21 = .ok (.iastore, 1) := by decide +kernel
theorem dX9_addToken_22 : decode cX9_addToken 22 = .ok (.aload_n 0, 1) := by decide +kernel
theorem dX9_addToken_23 : decode cX9_addToken 23 = .ok (.getfield 15, 3) := by decide +kernel
theorem dX9_addToken_26 : decode cX9_addToken 26 = .ok (.aload_n 0, 1) := by decide +kernel
theorem dX9_addToken_27 : decode cX9_addToken 27 = .ok (.getfield 21, 3) := by decide +kernel
theorem dX9_addToken_30 : decode cX9_addToken 30 = .ok (.iload_n 2, 1) := by decide +kernel
theorem dX9_addToken_31 : decode cX9_addToken 31 = .ok (.iastore, 1) := by decide +kernel
theorem dX9_addToken_32 : decode cX9_addToken 32 = .ok (.aload_n 0, 1) := by decide +kernel
theorem dX9_addToken_33 : decode cX9_addToken 33 = .ok (.getfield 18, 3) := by decide +kernel
theorem dX9_addToken_36 : decode cX9_addToken 36 = .ok (.aload_n 0, 1) := by decide +kernel
theorem dX9_addToken_37 : decode cX9_addToken 37 = .ok (.getfield 21, 3) := by decide +kernel
theorem dX9_addToken_40 : decode cX9_addToken 40 = .ok (.iload_n 3, 1) := by decide +kernel
theorem dX9_addToken_41 : decode cX9_addToken 41 = .ok (.iastore, 1) := by decide +kernel
theorem dX9_addToken_42 : decode cX9_addToken 42 = .ok (.aload_n 0, 1) := by decide +kernel
theorem dX9_addToken_43 : decode cX9_addToken 43 = .ok (.dup, 1) := by decide +kernel
theorem dX9_addToken_44 : decode cX9_addToken 44 = .ok (.getfield 21, 3) := by decide +kernel
theorem dX9_addToken_47 : decode cX9_addToken 47 = .ok (.iconst 1, 1) := by decide +kernel
theorem dX9_addToken_48 : decode cX9_addToken 48 = .ok (.iadd, 1) := by decide +kernel
theorem dX9_addToken_49 : decode cX9_addToken 49 = .ok (.putfield 21, 3) := by decide +kernel
theorem dX9_addToken_52 : decode cX9_addToken 52 = .ok (.return_, 1) := by decide +kernel
set_option maxRecDepth 20000 in
theorem ggX9_addNumber_X9_isDigit : GoodIn wsX9_addNumber wsX9_isDigit := goodIn_r _ [4] (by decide +kernel) (by decide +kernel)
set_option maxRecDepth 20000 in
theorem gX9_addNumber_X9_isDigit : GoodIn wsX9_addNumber (va_wsS RX9 25 yX9_isDigit wsX9_isDigit) := goodIn_app (goodIn_of _ (by decide +kernel)) ggX9_addNumber_X9_isDigit
set_option maxRecDepth 20000 in
theorem ggX9_addNumber_X9_addToken : GoodIn wsX9_addNumber wsX9_addToken := goodIn_r _ [8, 9, 10, 11, 12, 13, 14, 15, 16] (by decide +kernel) (by decide +kernel)
set_option maxRecDepth 20000 in
theorem gX9_addNumber_X9_addToken : GoodIn wsX9_addNumber (wsV RX9 42 RX9 yX9_addToken wsX9_addToken) := goodIn_app (goodIn_of _ (by decide +kernel)) ggX9_addNumber_X9_addToken
theorem dX9_addNumber_0 : decode cX9_addNumber 0 = .ok (.iconst 0, 1) := by decide +kernel
theorem dX9_addNumber_1 : decode cX9_addNumber 1 = .ok (.istore 4, 2) := by decide +kernel
theorem dX9_addNumber_3 : decode cX9_addNumber 3 = .ok (.iload_n 2, 1) := by decide +kernel
theorem dX9_addNumber_4 : decode cX9_addNumber 4 = .ok (.istore 5, 2) := by decide +kernel
theorem dX9_addNumber_6 : decode cX9_addNumber 6 = .ok (.iload 5, 2) := by decide +kernel
theorem dX9_addNumber_8 : decode cX9_addNumber 8 = .ok (.iload_n 3, 1) := by decide +kernel
theorem dX9_addNumber_9 : decode cX9_addNumber 9 = .ok (.if_icmp .ge 42, 3) := by decide +kernel
theorem dX9_addNumber_12 : decode cX9_addNumber 12 = .ok (.aload_n 1, 1) := by decide +kernel
theorem dX9_addNumber_13 : decode cX9_addNumber 13 = .ok (.iload 5, 2) := by decide +kernel
theorem dX9_addNumber_15 : decode cX9_addNumber 15 = .ok (.baload, 1) := by decide +kernel
theorem dX9_addNumber_16 : decode cX9_addNumber 16 = .ok (.invokestatic 25, 3) := by decide +kernel
theorem dX9_addNumber_19 : decode cX9_addNumber 19 = .ok (.ifCond .eq 32, 3) := by decide +kernel
theorem dX9_addNumber_22 : decode cX9_addNumber 22 = .ok (.iload 5, 2) := by decide +kernel
theorem dX9_addNumber_24 : decode cX9_addNumber 24 = .ok (.iload_n 2, 1) := by decide +kernel
theorem dX9_addNumber_25 : decode cX9_addNumber 25 = .ok (.isub, 1) := by decide +kernel
theorem dX9_addNumber_26 : decode cX9_addNumber 26 = .ok (.iconst 5, 1) := by decide +kernel
theorem dX9_addNumber_27 : decode cX9_addNumber 27 = .ok (.if_icmp .ge 18, 3) := by decide +kernel
theorem dX9_addNumber_30 : decode cX9_addNumber 30 = .ok (.iload 4, 2) := by decide +kernel
theorem dX9_addNumber_32 : decode cX9_addNumber 32 = .ok (.bipush 10, 2) := by decide +kernel
theorem dX9_addNumber_34 : decode cX9_addNumber 34 = .ok (.imul, 1) := by decide +kernel
theorem dX9_addNumber_35 : decode cX9_addNumber 35 = .ok (.aload_n 1, 1) := by decide +kernel
theorem dX9_addNumber_36 : decode cX9_addNumber 36 = .ok (.iload 5, 2) := by decide +kernel
theorem dX9_addNumber_38 : decode cX9_addNumber 38 = .ok (.baload, 1) := by decide +kernel
theorem dX9_addNumber_39 : decode cX9_addNumber 39 = .ok (.bipush 48, 2) := by decide +kernel
theorem dX9_addNumber_41 : decode cX9_addNumber 41 = .ok (.isub, 1) := by decide +kernel
theorem dX9_addNumber_42 : decode cX9_addNumber 42 = .ok (.iadd, 1) := by decide +kernel
theorem dX9_addNumber_43 : decode cX9_addNumber 43 = .ok (.istore 4, 2) := by decide +kernel
theorem dX9_addNumber_45 : decode cX9_addNumber 45 = .ok (.iinc 5 1, 3) := by decide +kernel
theorem dX9_addNumber_48 : decode cX9_addNumber 48 = .ok (.goto (-42), 3) := by decide +kernel
theorem dX9_addNumber_51 : decode cX9_addNumber 51 = .ok (.aload_n 0, 1) := by decide +kernel
theorem dX9_addNumber_52 : decode cX9_addNumber 52 = .ok (.iload 5, 2) := by decide +kernel
theorem dX9_addNumber_54 : decode cX9_addNumber 54 = .ok (.iload_n 2, 1) := by decide +kernel
theorem dX9_addNumber_55 : decode cX9_addNumber 55 = .ok (.isub, 1) := by decide +kernel
theorem dX9_addNumber_56 : decode cX9_addNumber 56 = .ok (.iconst 5, 1) := by decide +kernel
theorem dX9_addNumber_57 : decode cX9_addNumber 57 = .ok (.if_icmp .gt 7, 3) := by decide +kernel
theorem dX9_addNumber_60 : decode cX9_addNumber 60 = .ok (.iconst 2, 1) := by decide +kernel
theorem dX9_addNumber_61 : decode cX9_addNumber 61 = .ok (.goto 4, 3) := by decide +kernel
theorem dX9_addNumber_64 : decode cX9_addNumber 64 = .ok (.iconst 1, 1) := by decide +kernel
theorem dX9_addNumber_65 : decode cX9_addNumber 65 = .ok (.iload_n 2, 1) := by decide +kernel
theorem dX9_addNumber_66 : decode cX9_addNumber 66 = .ok (.iload 4, 2) := by decide +kernel
theorem dX9_addNumber_68 : decode cX9_addNumber 68 = .ok (.invokevirtual 42, 3) := by decide +kernel
theorem dX9_addNumber_71 : decode cX9_addNumber 71 = .ok (.return_, 1) := by decide +kernel
set_option maxRecDepth 20000 in
theorem ggX9_addWord_X9_isLetter : GoodIn wsX9_addWord wsX9_isLetter := goodIn_r _ [4] (by decide +kernel) (by decide +kernel)
set_option maxRecDepth 20000 in
theorem gX9_addWord_X9_isLetter : GoodIn wsX9_addWord (va_wsS RX9 33 yX9_isLetter wsX9_isLetter) := goodIn_app (goodIn_of _ (by decide +kernel)) ggX9_addWord_X9_isLetter
set_option maxRecDepth 20000 in
theorem ggX9_addWord_X9_spelling : GoodIn wsX9_addWord wsX9_spelling := goodIn_r _ [7] (by decide +kernel) (by decide +kernel)
set_option maxRecDepth 20000 in
theorem gX9_addWord_X9_spelling : GoodIn wsX9_addWord (va_wsS RX9 46 yX9_spelling wsX9_spelling) := goodIn_app (goodIn_of _ (by decide +kernel)) ggX9_addWord_X9_spelling
set_option maxRecDepth 20000 in
theorem ggX9_addWord_X9_isSameWord : GoodIn wsX9_addWord wsX9_isSameWord := goodIn_r _ [10, 11, 12, 13, 14, 15, 16, 17, 18, 19, 20, 21, 22, 23, 24, 25, 26, 27, 28, 29, 30, 31, 32, 33, 34, 35, 36, 37, 38, 39, 40, 41, 42, 43, 44, 45, 46, 47, 48, 49, 50, 51, 52, 53, 54, 55, 56, 57, 58, 59] (by decide +kernel) (by decide +kernel)
set_option maxRecDepth 20000 in
theorem gX9_addWord_X9_isSameWord : GoodIn wsX9_addWord (va_wsS RX9 50 yX9_isSameWord wsX9_isSameWord) := goodIn_app (goodIn_of _ (by decide +kernel)) ggX9_addWord_X9_isSameWord
set_option maxRecDepth 20000 in
theorem ggX9_addWord_X9_addToken : GoodIn wsX9_addWord wsX9_addToken := goodIn_r _ [63, 64, 65, 66, 67, 68, 69, 70, 71] (by decide +kernel) (by decide +kernel)
set_option maxRecDepth 20000 in
theorem gX9_addWord_X9_addToken : GoodIn wsX9_addWord (wsV RX9 42 RX9 yX9_addToken wsX9_addToken) := goodIn_app (goodIn_of _ (by decide +kernel)) ggX9_addWord_X9_addToken
theorem dX9_addWord_0 : decode cX9_addWord 0 = .ok (.iload_n 2, 1) := by decide +kernel
theorem dX9_addWord_1 : decode cX9_addWord 1 = .ok (.istore 4, 2) := by decide +kernel
theorem dX9_addWord_3 : decode cX9_addWord 3 = .ok (.iload 4, 2) := by decide +kernel
theorem dX9_addWord_5 : decode cX9_addWord 5 = .ok (.iload_n 3, 1) := by decide +kernel
theorem dX9_addWord_6 : decode cX9_addWord 6 = .ok (.if_icmp .ge 19, 3) := by decide +kernel
theorem dX9_addWord_9 : decode cX9_addWord 9 = .ok (.aload_n 1, 1) := by decide +kernel
theorem dX9_addWord_10 : decode cX9_addWord 10 = .ok (.iload 4, 2) := by decide +kernel
theorem dX9_addWord_12 : decode cX9_addWord 12 = .ok (.baload, 1) := by decide +kernel
theorem dX9_addWord_13 : decode cX9_addWord 13 = .ok (.invokestatic 33, 3) := by decide +kernel
theorem dX9_addWord_16 : decode cX9_addWord 16 = .ok (.ifCond .eq 9, 3) := by decide +kernel
theorem dX9_addWord_19 : decode cX9_addWord 19 = .ok (.iinc 4 1, 3) := by decide +kernel
theorem dX9_addWord_22 : decode cX9_addWord 22 = .ok (.goto (-19), 3) := by decide +kernel
theorem dX9_addWord_25 : decode cX9_addWord 25 = .ok (.iconst 1, 1) := by decide +kernel
theorem dX9_addWord_26 : decode cX9_addWord 26 = .ok (.istore 5, 2) := by decide +kernel
theorem dX9_addWord_28 : decode cX9_addWord 28 = .ok (.sipush 201, 3) := by decide +kernel
theorem dX9_addWord_31 : decode cX9_addWord 31 = .ok (.istore 6, 2) := by decide +kernel
theorem dX9_addWord_33 : decode cX9_addWord 33 = .ok (.iload 6, 2) := by decide +kernel
theorem dX9_addWord_35 : decode cX9_addWord 35 = .ok (.sipush 215, 3) := by decide +kernel
theorem dX9_addWord_38 : decode cX9_addWord 38 = .ok (.if_icmp .gt 28, 3) := by decide +kernel
theorem dX9_addWord_41 : decode cX9_addWord 41 = .ok (.aload_n 1, 1) := by decide +kernel
theorem dX9_addWord_42 : decode cX9_addWord 42 = .ok (.iload_n 2, 1) := by decide +kernel
theorem dX9_addWord_43 : decode cX9_addWord 43 = .ok (.iload 4, 2) := by decide +kernel
theorem dX9_addWord_45 : decode cX9_addWord 45 = .ok (.iload 6, 2) := by decide +kernel
theorem dX9_addWord_47 : decode cX9_addWord 47 = .ok (.invokestatic 46, 3) := by decide +kernel
theorem dX9_addWord_50 : decode cX9_addWord 50 = .ok (.invokestatic 50, 3) := by decide +kernel
theorem dX9_addWord_53 : decode cX9_addWord 53 = .ok (.ifCond .eq 7, 3) := by decide +kernel
theorem dX9_addWord_56 : decode cX9_addWord 56 = .ok (.iload 6, 2) := by decide +kernel
theorem dX9_addWord_58 : decode cX9_addWord 58 = .ok (.istore 5, 2) := by decide +kernel
theorem dX9_addWord_60 : decode cX9_addWord 60 = .ok (.iinc 6 1, 3) := by decide +kernel
theorem dX9_addWord_63 : decode cX9_addWord 63 = .ok (.goto (-30), 3) := by decide +kernel
theorem dX9_addWord_66 : decode cX9_addWord 66 = .ok (.aload_n 0, 1) := by decide +kernel
theorem dX9_addWord_67 : decode cX9_addWord 67 = .ok (.iload 5, 2) := by decide +kernel
theorem dX9_addWord_69 : decode cX9_addWord 69 = .ok (.iload_n 2, 1) := by decide +kernel
theorem dX9_addWord_70 : decode cX9_addWord 70 = .ok (.iconst 0, 1) := by decide +kernel
theorem dX9_addWord_71 : decode cX9_addWord 71 = .ok (.invokevirtual 42, 3) := by decide +kernel
theorem dX9_addWord_74 : decode cX9_addWord 74 = .ok (.return_, 1) := by decide +kernel
set_option maxRecDepth 20000 in
theorem ggX9_isSameWord_J0_length_8abf5 : GoodIn wsX9_isSameWord wsJ0_length_8abf5 := goodIn_r _ [5, 6, 7, 8, 9, 4, 10, 11, 12] (by decide +kernel) (by decide +kernel)
set_option maxRecDepth 20000 in
theorem gX9_isSameWord_J0_length_8abf5 : GoodIn wsX9_isSameWord (wsV RX9 54 RJ0 yJ0_length_8abf5 wsJ0_length_8abf5) := goodIn_app (goodIn_of _ (by decide +kernel)) ggX9_isSameWord_J0_length_8abf5
set_option maxRecDepth 20000 in
theorem ggX9_isSameWord_J0_charAt_5068e : GoodIn wsX9_isSameWord wsJ0_charAt_5068e := goodIn_r _ [16, 6, 17, 18, 19, 4, 20, 11, 12, 21, 22, 23, 24, 25, 26, 27, 28, 29, 30, 31, 32, 33, 34, 35, 36, 37, 38, 39, 40, 41, 42, 43, 44, 45, 46, 47, 48, 49] (by decide +kernel) (by decide +kernel)
set_option maxRecDepth 20000 in
theorem gX9_isSameWord_J0_charAt_5068e : GoodIn wsX9_isSameWord (wsV RX9 60 RJ0 yJ0_charAt_5068e wsJ0_charAt_5068e) := goodIn_app (goodIn_of _ (by decide +kernel)) ggX9_isSameWord_J0_charAt_5068e
theorem dX9_isSameWord_0 : decode cX9_isSameWord 0 = .ok (.iload_n 2, 1) := by decide +kernel
theorem dX9_isSameWord_1 : decode cX9_isSameWord 1 = .ok (.iload_n 1, 1) := by decide +kernel
theorem dX9_isSameWord_2 : decode cX9_isSameWord 2 = .ok (.isub, 1) := by decide +kernel
theorem dX9_isSameWord_3 : decode cX9_isSameWord 3 = .ok (.aload_n 3, 1) := by decide +kernel
theorem dX9_isSameWord_4 : decode cX9_isSameWord 4 = .ok (.invokevirtual 54, 3) := by decide +kernel
theorem dX9_isSameWord_7 : decode cX9_isSameWord 7 = .ok (.if_icmp .eq 5, 3) := by decide +kernel
theorem dX9_isSameWord_10 : decode cX9_isSameWord 10 = .ok (.iconst 0, 1) := by decide +kernel
theorem dX9_isSameWord_11 : decode cX9_isSameWord 11 = .ok (.ireturn, 1) := by decide +kernel
theorem dX9_isSameWord_12 : decode cX9_isSameWord 12 = .ok (.iload_n 1, 1) := by decide +kernel
theorem dX9_isSameWord_13 : decode cX9_isSameWord 13 = .ok (.istore 4, 2) := by decide +kernel
theorem dX9_isSameWord_15 : decode cX9_isSameWord 15 = .ok (.iload 4, 2) := by decide +kernel
theorem dX9_isSameWord_17 : decode cX9_isSameWord 17 = .ok (.iload_n 2, 1) := by decide +kernel
theorem dX9_isSameWord_18 : decode cX9_isSameWord 18 = .ok (.if_icmp .ge 26, 3) := by decide +kernel
theorem dX9_isSameWord_21 : decode cX9_isSameWord 21 = .ok (.aload_n 0, 1) := by decide +kernel
theorem dX9_isSameWord_22 : decode cX9_isSameWord 22 = .ok (.iload 4, 2) := by decide +kernel
theorem dX9_isSameWord_24 : decode cX9_isSameWord 24 = .ok (.baload, 1) := by decide +kernel
theorem dX9_isSameWord_25 : decode cX9_isSameWord 25 = .ok (.aload_n 3, 1) := by decide +kernel
theorem dX9_isSameWord_26 : decode cX9_isSameWord 26 = .ok (.iload 4, 2) := by decide +kernel
theorem dX9_isSameWord_28 : decode cX9_isSameWord 28 = .ok (.iload_n 1, 1) := by decide +kernel
theorem dX9_isSameWord_29 : decode cX9_isSameWord 29 = .ok (.isub, 1) := by decide +kernel
theorem dX9_isSameWord_30 : decode cX9_isSameWord 30 = .ok (.invokevirtual 60, 3) := by decide +kernel
theorem dX9_isSameWord_33 : decode cX9_isSameWord 33 = .ok (.if_icmp .eq 5, 3) := by decide +kernel
theorem dX9_isSameWord_36 : decode cX9_isSameWord 36 = .ok (.iconst 0, 1) := by decide +kernel
theorem dX9_isSameWord_37 : decode cX9_isSameWord 37 = .ok (.ireturn, 1) := by decide +kernel
theorem dX9_isSameWord_38 : decode cX9_isSameWord 38 = .ok (.iinc 4 1, 3) := by decide +kernel
theorem dX9_isSameWord_41 : decode cX9_isSameWord 41 = .ok (.goto (-26), 3) := by decide +kernel
theorem dX9_isSameWord_44 : decode cX9_isSameWord 44 = .ok (.iconst 1, 1) := by decide +kernel
theorem dX9_isSameWord_45 : decode cX9_isSameWord 45 = .ok (.ireturn, 1) := by decide +kernel
theorem dX9_spelling_0 : decode cX9_spelling 0 = .ok (.iload_n 0, 1) := by decide +kernel
theorem dX9_spelling_1 : decode cX9_spelling 1 = .ok (.tableswitch 113 201 214 #[71, 74, 77, 80, 83, 86, 89, 92, 95, 98, 101, 104, 107, 110], 71) := by decide +kernel
theorem dX9_spelling_72 : decode cX9_spelling 72 = .ok (.ldc 64, 2) := by decide +kernel
theorem dX9_spelling_74 : decode cX9_spelling 74 = .ok (.areturn, 1) := by decide +kernel
theorem dX9_spelling_75 : decode cX9_spelling 75 = .ok (.ldc 66, 2) := by decide +kernel
theorem dX9_spelling_77 : decode cX9_spelling 77 = .ok (.areturn, 1) := by decide +kernel
theorem dX9_spelling_78 : decode cX9_spelling 78 = .ok (.ldc 68, 2) := by decide +kernel
theorem dX9_spelling_80 : decode cX9_spelling 80 = .ok (.areturn, 1) := by decide +kernel
theorem dX9_spelling_81 : decode cX9_spelling 81 = .ok (.ldc 70, 2) := by decide +kernel
theorem dX9_spelling_83 : decode cX9_spelling 83 = .ok (.areturn, 1) := by decide +kernel
theorem dX9_spelling_84 : decode cX9_spelling 84 = .ok (.ldc 72, 2) := by decide +kernel
theorem dX9_spelling_86 : decode cX9_spelling 86 = .ok (.areturn, 1) := by decide +kernel
theorem dX9_spelling_87 : decode cX9_spelling 87 = .ok (.ldc 74, 2) := by decide +kernel
theorem dX9_spelling_89 : decode cX9_spelling 89 = .ok (.areturn, 1) := by decide +kernel
theorem dX9_spelling_90 : decode cX9_spelling 90 = .ok (.ldc 76, 2) := by decide +kernel
theorem dX9_spelling_92 : decode cX9_spelling 92 = .ok (.areturn, 1) := by decide +kernel
theorem dX9_spelling_93 : decode cX9_spelling 93 = .ok (.ldc 78, 2) := by decide +kernel
theorem dX9_spelling_95 : decode cX9_spelling 95 = .ok (.areturn, 1) := by decide +kernel
theorem dX9_spelling_96 : decode cX9_spelling 96 = .ok (.ldc 80, 2) := by decide +kernel
theorem dX9_spelling_98 : decode cX9_spelling 98 = .ok (.areturn, 1) := by decide +kernel
theorem dX9_spelling_99 : decode cX9_spelling 99 = .ok (.ldc 82, 2) := by decide +kernel
theorem dX9_spelling_101 : decode cX9_spelling 101 = .ok (.areturn, 1) := by decide +kernel
theorem dX9_spelling_102 : decode cX9_spelling 102 = .ok (.ldc 84, 2) := by decide +kernel
theorem dX9_spelling_104 : decode cX9_spelling 104 = .ok (.areturn, 1) := by decide +kernel
theorem dX9_spelling_105 : decode cX9_spelling 105 = .ok (.ldc 86, 2) := by decide +kernel
theorem dX9_spelling_107 : decode cX9_spelling 107 = .ok (.areturn, 1) := by decide +kernel
theorem dX9_spelling_108 : decode cX9_spelling 108 = .ok (.ldc 88, 2) := by decide +kernel
theorem dX9_spelling_110 : decode cX9_spelling 110 = .ok (.areturn, 1) := by decide +kernel
theorem dX9_spelling_111 : decode cX9_spelling 111 = .ok (.ldc 90, 2) := by decide +kernel
theorem dX9_spelling_113 : decode cX9_spelling 113 = .ok (.areturn, 1) := by decide +kernel
theorem dX9_spelling_114 : decode cX9_spelling 114 = .ok (.ldc 92, 2) := by decide +kernel
theorem dX9_spelling_116 : decode cX9_spelling 116 = .ok (.areturn, 1) := by decide +kernel
set_option maxRecDepth 20000 in
theorem ggX10_init_X1_init : GoodIn wsX10_init wsX1_init := goodIn_r _ [20, 21, 2, 3, 22, 23, 24, 25, 26, 27, 28, 29, 30, 31, 32, 33, 34, 35, 36, 37, 38, 39, 40, 41, 42, 43, 44, 45, 46, 47, 48, 154, 155, 156, 157, 133, 134, 135, 136, 137, 158, 159, 160, 161, 162, 163, 164, 165] (by decide +kernel) (by decide +kernel)
set_option maxRecDepth 20000 in
theorem gX10_init_X1_init_n15 : GoodIn wsX10_init (wsX1_init) := ggX10_init_X1_init
set_option maxRecDepth 20000 in
theorem ggX10_init_X3_init : GoodIn wsX10_init wsX3_init := goodIn_r _ [50, 51, 2, 3, 52, 53, 54, 55, 35, 56, 57, 58, 59, 60, 61, 62, 63, 64, 65, 66, 67, 68, 69, 70, 71, 72, 73, 74, 166, 167, 168, 169, 170, 138, 139, 140, 141, 142, 143, 144, 145, 146, 147] (by decide +kernel) (by decide +kernel)
set_option maxRecDepth 20000 in
theorem gX10_init_X3_init_n22 : GoodIn wsX10_init (wsX3_init) := ggX10_init_X3_init
set_option maxRecDepth 20000 in
theorem ggX10_init_X6_init : GoodIn wsX10_init wsX6_init := goodIn_r _ [76, 77, 2, 3, 78, 79, 80, 81, 82, 83, 84, 85, 86, 87, 88, 89, 90, 53, 54, 91, 92, 93, 94, 95, 96, 27, 28, 97, 98, 99, 100, 35, 101, 102, 103, 104, 105, 106, 107, 108, 109, 110, 111, 112, 113, 114, 115, 116, 117, 118, 64, 65, 66, 67, 68, 69, 70, 71, 72, 73, 74, 119, 120, 121, 122, 123, 124, 125, 126, 39, 40, 41, 42, 43, 44, 45, 46, 47, 48, 171, 172, 148, 149, 150, 151, 152, 153, 173, 174, 175, 176, 177, 178, 179, 180, 181, 182, 183, 184, 166, 167, 168, 169, 170, 185, 186, 187, 188, 189, 190, 158, 159, 160, 161, 162, 163, 164, 165] (by decide +kernel) (by decide +kernel)
set_option maxRecDepth 20000 in
theorem gX10_init_X6_init_n29 : GoodIn wsX10_init (wsX6_init) := ggX10_init_X6_init
theorem dX10_init_0 : decode cX10_init 0 = .ok (.aload_n 0, 1) := by decide +kernel
theorem dX10_init_1 : decode cX10_init 1 = .ok (.invokespecial 1, 3) := by decide +kernel
theorem dX10_init_4 : decode cX10_init 4 = .ok (.aload_n 0, 1) := by decide +kernel
theorem dX10_init_5 : decode cX10_init 5 = .ok (.sipush 500, 3) := by decide +kernel
theorem dX10_init_8 : decode cX10_init 8 = .ok (.newarray .byte, 2) := by decide +kernel
theorem dX10_init_10 : decode cX10_init 10 = .ok (.putfield 9, 3) := by decide +kernel
theorem dX10_init_13 : decode cX10_init 13 = .ok (.aload_n 0, 1) := by decide +kernel
theorem dX10_init_14 : decode cX10_init 14 = .ok (.new 13, 3) := by decide +kernel
theorem dX10_init_17 : decode cX10_init 17 = .ok (.dup, 1) := by decide +kernel
theorem dX10_init_18 : decode cX10_init 18 = .ok (.invokespecial 15, 3) := by decide +kernel
theorem dX10_init_21 : decode cX10_init 21 = .ok (.putfield 16, 3) := by decide +kernel
theorem dX10_init_24 : decode cX10_init 24 = .ok (.aload_n 0, 1) := by decide +kernel
theorem dX10_init_25 : decode cX10_init 25 = .ok (.new 20, 3) := by decide +kernel
theorem dX10_init_28 : decode cX10_init 28 = .ok (.dup, 1) := by decide +kernel
theorem dX10_init_29 : decode cX10_init 29 = .ok (.invokespecial 22, 3) := by decide +kernel
theorem dX10_init_32 : decode cX10_init 32 = .ok (.putfield 23, 3) := by decide +kernel
theorem dX10_init_35 : decode cX10_init 35 = .ok (.aload_n 0, 1) := by decide +kernel
theorem dX10_init_36 : decode cX10_init 36 = .ok (.new 27, 3) := by decide +kernel
theorem dX10_init_39 : decode cX10_init 39 = .ok (.dup, 1) := by decide +kernel
theorem dX10_init_40 : decode cX10_init 40 = .ok (.invokespecial 29, 3) := by decide +kernel
theorem dX10_init_43 : decode cX10_init 43 = .ok (.putfield 30, 3) := by decide +kernel
theorem dX10_init_46 : decode cX10_init 46 = .ok (.aload_n 0, 1) := by decide +kernel
theorem dX10_init_47 : decode cX10_init 47 = .ok (.iconst 3, 1) := by decide +kernel
theorem dX10_init_48 : decode cX10_init 48 = .ok (.anewarray 27, 3) := by decide +kernel
theorem dX10_init_51 : decode cX10_init 51 = .ok (.putfield 34, 3) := by decide +kernel
theorem dX10_init_54 : decode cX10_init 54 = .ok (.return_, 1) := by decide +kernel
set_option maxRecDepth 20000 in
theorem ggX10_feed_X10_putOnTape : GoodIn wsX10_feed wsX10_putOnTape := goodIn_r _ [6, 7, 1, 8, 9, 10, 11, 12, 13] (by decide +kernel) (by decide +kernel)
set_option maxRecDepth 20000 in
theorem gX10_feed_X10_putOnTape : GoodIn wsX10_feed (wsV RX10 42 RX10 yX10_putOnTape wsX10_putOnTape) := goodIn_app (goodIn_of _ (by decide +kernel)) ggX10_feed_X10_putOnTape
theorem dX10_feed_0 : decode cX10_feed 0 = .ok (.aload_n 0, 1) := by decide +kernel
theorem dX10_feed_1 : decode cX10_feed 1 = .ok (.getfield 38, 3) := by decide +kernel
theorem dX10_feed_4 : decode cX10_feed 4 = .ok (.bipush 20, 2) := by decide +kernel
theorem dX10_feed_6 : decode cX10_feed 6 = .ok (.iadd, 1) := by decide +kernel
theorem dX10_feed_7 : decode cX10_feed 7 = .ok (.sipush 500, 3) := by decide +kernel
theorem dX10_feed_10 : decode cX10_feed 10 = .ok (.if_icmp .le 5, 3) := by decide +kernel
theorem dX10_feed_13 : decode cX10_feed 13 = .ok (.iconst (-1), 1) := by decide +kernel
theorem dX10_feed_14 : decode cX10_feed 14 = .ok (.ireturn, 1) := by decide +kernel
theorem dX10_feed_15 : decode cX10_feed 15 = .ok (.aload_n 0, 1) := by decide +kernel
theorem dX10_feed_16 : decode cX10_feed 16 = .ok (.iload_n 1, 1) := by decide +kernel
theorem dX10_feed_17 : decode cX10_feed 17 = .ok (.invokevirtual 42, 3) := by decide +kernel
theorem dX10_feed_20 : decode cX10_feed 20 = .ok (.aload_n 0, 1) := by decide +kernel
theorem dX10_feed_21 : decode cX10_feed 21 = .ok (.iload_n 2, 1) := by decide +kernel
theorem dX10_feed_22 : decode cX10_feed 22 = .ok (.invokevirtual 42, 3) := by decide +kernel
theorem dX10_feed_25 : decode cX10_feed 25 = .ok (.aload_n 0, 1) := by decide +kernel
theorem dX10_feed_26 : decode cX10_feed 26 = .ok (.iload_n 3, 1) := by decide +kernel
theorem dX10_feed_27 : decode cX10_feed 27 = .ok (.invokevirtual 42, 3) := by decide +kernel
theorem dX10_feed_30 : decode cX10_feed 30 = .ok (.aload_n 0, 1) := by decide +kernel
theorem dX10_feed_31 : decode cX10_feed 31 = .ok (.iload 4, 2) := by decide +kernel
theorem dX10_feed_33 : decode cX10_feed 33 = .ok (.invokevirtual 42, 3) := by decide +kernel
theorem dX10_feed_36 : decode cX10_feed 36 = .ok (.aload_n 0, 1) := by decide +kernel
theorem dX10_feed_37 : decode cX10_feed 37 = .ok (.iload 5, 2) := by decide +kernel
theorem dX10_feed_39 : decode cX10_feed 39 = .ok (.invokevirtual 42, 3) := by decide +kernel
theorem dX10_feed_42 : decode cX10_feed 42 = .ok (.aload_n 0, 1) := by decide +kernel
theorem dX10_feed_43 : decode cX10_feed 43 = .ok (.getfield 38, 3) := by decide +kernel
theorem dX10_feed_46 : decode cX10_feed 46 = .ok (.ireturn, 1) := by decide +kernel
theorem dX10_end_0 : decode cX10_end 0 = .ok (.iload_n 1, 1) := by decide +kernel
theorem dX10_end_1 : decode cX10_end 1 = .ok (.ifCond .lt 11, 3) := by decide +kernel
theorem dX10_end_4 : decode cX10_end 4 = .ok (.iload_n 1, 1) := by decide +kernel
theorem dX10_end_5 : decode cX10_end 5 = .ok (.aload_n 0, 1) := by decide +kernel
theorem dX10_end_6 : decode cX10_end 6 = .ok (.getfield 38, 3) := by decide +kernel
theorem dX10_end_9 : decode cX10_end 9 = .ok (.if_icmp .le 5, 3) := by decide +kernel
theorem dX10_end_12 : decode cX10_end 12 = .ok (.iconst (-1), 1) := by decide +kernel
theorem dX10_end_13 : decode cX10_end 13 = .ok (.ireturn, 1) := by decide +kernel
theorem dX10_end_14 : decode cX10_end 14 = .ok (.aload_n 0, 1) := by decide +kernel
theorem dX10_end_15 : decode cX10_end 15 = .ok (.iload_n 1, 1) := by decide +kernel
theorem dX10_end_16 : decode cX10_end 16 = .ok (.putfield 38, 3) := by decide +kernel
theorem dX10_end_19 : decode cX10_end 19 = .ok (.iload_n 1, 1) := by decide +kernel
theorem dX10_end_20 : decode cX10_end 20 = .ok (.ireturn, 1) := by decide +kernel
set_option maxRecDepth 20000 in
theorem ggX10_fees_X1_readText : GoodIn wsX10_fees wsX1_readText := goodIn_r _ [12, 13, 14, 15, 16, 17, 18, 19, 20, 21, 22, 23, 24, 25, 26, 27, 28, 29, 30, 31, 32, 33, 34, 35, 36, 37, 38, 39, 40, 41, 42, 43, 44, 45, 46, 47, 48, 49, 50, 51, 52, 53, 54, 55, 56, 57, 58, 59, 60, 61, 62, 63, 64, 65, 66, 67, 68, 69, 70, 71, 72, 73, 74, 75, 76, 77, 78, 79, 80, 81, 82, 83, 84, 85, 86, 87, 88, 89, 90, 91, 92, 93, 94, 95, 96, 97, 98, 99, 100, 101, 102, 103, 104, 105, 106, 11, 107, 108, 109, 110, 111, 112, 113, 114, 115, 116, 117, 118, 119, 120, 121, 122, 123, 124, 125, 126, 127, 128, 129, 130, 131, 132, 133, 134, 135, 136, 137, 138, 139, 140, 141, 142, 143, 144, 145, 146, 147, 148, 149, 150, 151, 152, 153, 154, 155, 156, 157, 158, 159, 160, 161, 162, 163, 164, 185, 186, 187, 188, 189, 190, 191, 192, 193, 194, 195, 196, 197, 198, 199, 200, 201] (by decide +kernel) (by decide +kernel)
set_option maxRecDepth 20000 in
theorem gX10_fees_X1_readText : GoodIn wsX10_fees (wsV RX10 46 RX1 yX1_readText wsX1_readText) := goodIn_app (goodIn_of _ (by decide +kernel)) ggX10_fees_X1_readText
set_option maxRecDepth 20000 in
theorem ggX10_fees_X2_copyFrom : GoodIn wsX10_fees wsX2_copyFrom := goodIn_r _ [168, 164, 161, 169, 170, 171, 172, 162, 163, 128, 150, 151, 152, 190, 191, 192, 193, 194, 195, 196, 197] (by decide +kernel) (by decide +kernel)
set_option maxRecDepth 20000 in
theorem gX10_fees_X2_copyFrom : GoodIn wsX10_fees (wsV RX10 57 RX2 yX2_copyFrom wsX2_copyFrom) := goodIn_app (goodIn_of _ (by decide +kernel)) ggX10_fees_X2_copyFrom
theorem dX10_fees_0 : decode cX10_fees 0 = .ok (.aload_n 0, 1) := by decide +kernel
theorem dX10_fees_1 : decode cX10_fees 1 = .ok (.getfield 16, 3) := by decide +kernel
theorem dX10_fees_4 : decode cX10_fees 4 = .ok (.aload_n 0, 1) := by decide +kernel
theorem dX10_fees_5 : decode cX10_fees 5 = .ok (.getfield 9, 3) := by decide +kernel
theorem dX10_fees_8 : decode cX10_fees 8 = .ok (.aload_n 0, 1) := by decide +kernel
theorem dX10_fees_9 : decode cX10_fees 9 = .ok (.getfield 38, 3) := by decide +kernel
theorem dX10_fees_12 : decode cX10_fees 12 = .ok (.invokevirtual 46, 3) := by decide +kernel
theorem dX10_fees_15 : decode cX10_fees 15 = .ok (.istore_n 1, 1) := by decide +kernel
theorem dX10_fees_16 : decode cX10_fees 16 = .ok (.aload_n 0, 1) := by decide +kernel
theorem dX10_fees_17 : decode cX10_fees 17 = .ok (.iconst 0, 1) := by decide +kernel
theorem dX10_fees_18 : decode cX10_fees 18 = .ok (.putfield 38, 3) := by decide +kernel
theorem dX10_fees_21 : decode cX10_fees 21 = .ok (.iload_n 1, 1) := by decide +kernel
theorem dX10_fees_22 : decode cX10_fees 22 = .ok (.ifCond .ne 5, 3) := by decide +kernel
theorem dX10_fees_25 : decode cX10_fees 25 = .ok (.iconst (-1), 1) := by decide +kernel
theorem dX10_fees_26 : decode cX10_fees 26 = .ok (.ireturn, 1) := by decide +kernel
theorem dX10_fees_27 : decode cX10_fees 27 = .ok (.aload_n 0, 1) := by decide +kernel
theorem dX10_fees_28 : decode cX10_fees 28 = .ok (.getfield 30, 3) := by decide +kernel
theorem dX10_fees_31 : decode cX10_fees 31 = .ok (.getfield 50, 3) := by decide +kernel
theorem dX10_fees_34 : decode cX10_fees 34 = .ok (.aload_n 0, 1) := by decide +kernel
theorem dX10_fees_35 : decode cX10_fees 35 = .ok (.getfield 16, 3) := by decide +kernel
theorem dX10_fees_38 : decode cX10_fees 38 = .ok (.getfield 54, 3) := by decide +kernel
theorem dX10_fees_41 : decode cX10_fees 41 = .ok (.invokevirtual 57, 3) := by decide +kernel
theorem dX10_fees_44 : decode cX10_fees 44 = .ok (.aload_n 0, 1) := by decide +kernel
theorem dX10_fees_45 : decode cX10_fees 45 = .ok (.getfield 30, 3) := by decide +kernel
theorem dX10_fees_48 : decode cX10_fees 48 = .ok (.getfield 50, 3) := by decide +kernel
theorem dX10_fees_51 : decode cX10_fees 51 = .ok (.getfield 63, 3) := by decide +kernel
theorem dX10_fees_54 : decode cX10_fees 54 = .ok (.ireturn, 1) := by decide +kernel
theorem dX10_fault_0 : decode cX10_fault 0 = .ok (.iload_n 1, 1) := by decide +kernel
theorem dX10_fault_1 : decode cX10_fault 1 = .ok (.lookupswitch 43 #[(0, 27), (1, 35)], 27) := by decide +kernel
theorem dX10_fault_28 : decode cX10_fault 28 = .ok (.aload_n 0, 1) := by decide +kernel
theorem dX10_fault_29 : decode cX10_fault 29 = .ok (.getfield 16, 3) := by decide +kernel
theorem dX10_fault_32 : decode cX10_fault 32 = .ok (.getfield 66, 3) := by decide +kernel
theorem dX10_fault_35 : decode cX10_fault 35 = .ok (.ireturn, 1) := by decide +kernel
theorem dX10_fault_36 : decode cX10_fault 36 = .ok (.aload_n 0, 1) := by decide +kernel
theorem dX10_fault_37 : decode cX10_fault 37 = .ok (.getfield 16, 3) := by decide +kernel
theorem dX10_fault_40 : decode cX10_fault 40 = .ok (.getfield 69, 3) := by decide +kernel
theorem dX10_fault_43 : decode cX10_fault 43 = .ok (.ireturn, 1) := by decide +kernel
theorem dX10_fault_44 : decode cX10_fault 44 = .ok (.iconst (-1), 1) := by decide +kernel
theorem dX10_fault_45 : decode cX10_fault 45 = .ok (.ireturn, 1) := by decide +kernel
set_option maxRecDepth 20000 in
theorem ggX10_room_X8_isOn : GoodIn wsX10_room wsX8_isOn := goodIn_r _ [10, 11, 30, 31, 32, 33, 34, 35] (by decide +kernel) (by decide +kernel)
set_option maxRecDepth 20000 in
theorem gX10_room_X8_isOn : GoodIn wsX10_room (wsV RX10 80 RX8 yX8_isOn wsX8_isOn) := goodIn_app (goodIn_of _ (by decide +kernel)) ggX10_room_X8_isOn
set_option maxRecDepth 20000 in
theorem ggX10_room_X10_isWithin : GoodIn wsX10_room wsX10_isWithin := goodIn_r _ [15] (by decide +kernel) (by decide +kernel)
set_option maxRecDepth 20000 in
theorem gX10_room_X10_isWithin : GoodIn wsX10_room (va_wsS RX10 89 yX10_isWithin wsX10_isWithin) := goodIn_app (goodIn_of _ (by decide +kernel)) ggX10_room_X10_isWithin
theorem dX10_room_0 : decode cX10_room 0 = .ok (.aload_n 0, 1) := by decide +kernel
theorem dX10_room_1 : decode cX10_room 1 = .ok (.getfield 30, 3) := by decide +kernel
theorem dX10_room_4 : decode cX10_room 4 = .ok (.getfield 72, 3) := by decide +kernel
theorem dX10_room_7 : decode cX10_room 7 = .ok (.astore_n 2, 1) := by decide +kernel
theorem dX10_room_8 : decode cX10_room 8 = .ok (.aload_n 0, 1) := by decide +kernel
theorem dX10_room_9 : decode cX10_room 9 = .ok (.getfield 30, 3) := by decide +kernel
theorem dX10_room_12 : decode cX10_room 12 = .ok (.getfield 76, 3) := by decide +kernel
theorem dX10_room_15 : decode cX10_room 15 = .ok (.invokevirtual 80, 3) := by decide +kernel
theorem dX10_room_18 : decode cX10_room 18 = .ok (.ifCond .ne 21, 3) := by decide +kernel
theorem dX10_room_21 : decode cX10_room 21 = .ok (.aload_n 2, 1) := by decide +kernel
theorem dX10_room_22 : decode cX10_room 22 = .ok (.getfield 86, 3) := by decide +kernel
theorem dX10_room_25 : decode cX10_room 25 = .ok (.iconst 5, 1) := by decide +kernel
theorem dX10_room_26 : decode cX10_room 26 = .ok (.if_icmp .ge 13, 3) := by decide +kernel
theorem dX10_room_29 : decode cX10_room 29 = .ok (.iload_n 1, 1) := by decide +kernel
theorem dX10_room_30 : decode cX10_room 30 = .ok (.iconst 1, 1) := by decide +kernel
theorem dX10_room_31 : decode cX10_room 31 = .ok (.bipush 40, 2) := by decide +kernel
theorem dX10_room_33 : decode cX10_room 33 = .ok (.invokestatic 89, 3) := by decide +kernel
theorem dX10_room_36 : decode cX10_room 36 = .ok (.ifCond .ne 5, 3) := by decide +kernel
theorem dX10_room_39 : decode cX10_room 39 = .ok (.iconst (-1), 1) := by decide +kernel
theorem dX10_room_40 : decode cX10_room 40 = .ok (.ireturn, 1) := by decide +kernel
theorem dX10_room_41 : decode cX10_room 41 = .ok (.aload_n 2, 1) := by decide +kernel
theorem dX10_room_42 : decode cX10_room 42 = .ok (.getfield 86, 3) := by decide +kernel
theorem dX10_room_45 : decode cX10_room 45 = .ok (.istore_n 3, 1) := by decide +kernel
theorem dX10_room_46 : decode cX10_room 46 = .ok (.aload_n 2, 1) := by decide +kernel
theorem dX10_room_47 : decode cX10_room 47 = .ok (.getfield 93, 3) := by decide +kernel
theorem dX10_room_50 : decode cX10_room 50 = .ok (.iload_n 3, 1) := by decide +kernel
theorem dX10_room_51 : decode cX10_room 51 = .ok (.iload_n 1, 1) := by decide +kernel
theorem dX10_room_52 : decode cX10_room 52 = .ok (.iastore, 1) := by decide +kernel
theorem dX10_room_53 : decode cX10_room 53 = .ok (.aload_n 2, 1) := by decide +kernel
theorem dX10_room_54 : decode cX10_room 54 = .ok (.iload_n 3, 1) := by decide +kernel
theorem dX10_room_55 : decode cX10_room 55 = .ok (.iconst 1, 1) := by decide +kernel
theorem dX10_room_56 : decode cX10_room 56 = .ok (.iadd, 1) := by decide +kernel
theorem dX10_room_57 : decode cX10_room 57 = .ok (.putfield 86, 3) := by decide +kernel
theorem dX10_room_60 : decode cX10_room 60 = .ok (.iload_n 3, 1) := by decide +kernel
theorem dX10_room_61 : decode cX10_room 61 = .ok (.ireturn, 1) := by decide +kernel
set_option maxRecDepth 20000 in
theorem ggX10_course_X8_isOn : GoodIn wsX10_course wsX8_isOn := goodIn_r _ [14, 15, 38, 39, 40, 41, 42, 43] (by decide +kernel) (by decide +kernel)
set_option maxRecDepth 20000 in
theorem gX10_course_X8_isOn : GoodIn wsX10_course (wsV RX10 80 RX8 yX8_isOn wsX8_isOn) := goodIn_app (goodIn_of _ (by decide +kernel)) ggX10_course_X8_isOn
set_option maxRecDepth 20000 in
theorem ggX10_course_X10_isWithin : GoodIn wsX10_course wsX10_isWithin := goodIn_r _ [19] (by decide +kernel) (by decide +kernel)
set_option maxRecDepth 20000 in
theorem gX10_course_X10_isWithin : GoodIn wsX10_course (va_wsS RX10 89 yX10_isWithin wsX10_isWithin) := goodIn_app (goodIn_of _ (by decide +kernel)) ggX10_course_X10_isWithin
theorem dX10_course_0 : decode cX10_course 0 = .ok (.aload_n 0, 1) := by decide +kernel
theorem dX10_course_1 : decode cX10_course 1 = .ok (.getfield 30, 3) := by decide +kernel
theorem dX10_course_4 : decode cX10_course 4 = .ok (.getfield 97, 3) := by decide +kernel
theorem dX10_course_7 : decode cX10_course 7 = .ok (.astore 6, 2) := by decide +kernel
theorem dX10_course_9 : decode cX10_course 9 = .ok (.aload_n 0, 1) := by decide +kernel
theorem dX10_course_10 : decode cX10_course 10 = .ok (.getfield 30, 3) := by decide +kernel
theorem dX10_course_13 : decode cX10_course 13 = .ok (.getfield 76, 3) := by decide +kernel
theorem dX10_course_16 : decode cX10_course 16 = .ok (.invokevirtual 80, 3) := by decide +kernel
theorem dX10_course_19 : decode cX10_course 19 = .ok (.ifCond .ne 13, 3) := by decide +kernel
theorem dX10_course_22 : decode cX10_course 22 = .ok (.aload 6, 2) := by decide +kernel
theorem dX10_course_24 : decode cX10_course 24 = .ok (.getfield 101, 3) := by decide +kernel
theorem dX10_course_27 : decode cX10_course 27 = .ok (.bipush 10, 2) := by decide +kernel
theorem dX10_course_29 : decode cX10_course 29 = .ok (.if_icmp .lt 5, 3) := by decide +kernel
theorem dX10_course_32 : decode cX10_course 32 = .ok (.iconst (-1), 1) := by decide +kernel
theorem dX10_course_33 : decode cX10_course 33 = .ok (.ireturn, 1) := by decide +kernel
theorem dX10_course_34 : decode cX10_course 34 = .ok (.iload_n 1, 1) := by decide +kernel
theorem dX10_course_35 : decode cX10_course 35 = .ok (.iconst 0, 1) := by decide +kernel
theorem dX10_course_36 : decode cX10_course 36 = .ok (.iconst 4, 1) := by decide +kernel
theorem dX10_course_37 : decode cX10_course 37 = .ok (.invokestatic 89, 3) := by decide +kernel
theorem dX10_course_40 : decode cX10_course 40 = .ok (.ifCond .eq 45, 3) := by decide +kernel
theorem dX10_course_43 : decode cX10_course 43 = .ok (.iload_n 2, 1) := by decide +kernel
theorem dX10_course_44 : decode cX10_course 44 = .ok (.iconst 0, 1) := by decide +kernel
theorem dX10_course_45 : decode cX10_course 45 = .ok (.iconst 5, 1) := by decide +kernel
theorem dX10_course_46 : decode cX10_course 46 = .ok (.invokestatic 89, 3) := by decide +kernel
theorem dX10_course_49 : decode cX10_course 49 = .ok (.ifCond .eq 36, 3) := by decide +kernel
theorem dX10_course_52 : decode cX10_course 52 = .ok (.iload 4, 2) := by decide +kernel
theorem dX10_course_54 : decode cX10_course 54 = .ok (.iconst 1, 1) := by decide +kernel
theorem dX10_course_55 : decode cX10_course 55 = .ok (.bipush 40, 2) := by decide +kernel
theorem dX10_course_57 : decode cX10_course 57 = .ok (.invokestatic 89, 3) := by decide +kernel
theorem dX10_course_60 : decode cX10_course 60 = .ok (.ifCond .eq 25, 3) := by decide +kernel
theorem dX10_course_63 : decode cX10_course 63 = .ok (.iload_n 3, 1) := by decide +kernel
theorem dX10_course_64 : decode cX10_course 64 = .ok (.iconst 1, 1) := by decide +kernel
theorem dX10_course_65 : decode cX10_course 65 = .ok (.iload 4, 2) := by decide +kernel
theorem dX10_course_67 : decode cX10_course 67 = .ok (.invokestatic 89, 3) := by decide +kernel
theorem dX10_course_70 : decode cX10_course 70 = .ok (.ifCond .eq 15, 3) := by decide +kernel
theorem dX10_course_73 : decode cX10_course 73 = .ok (.iload 5, 2) := by decide +kernel
theorem dX10_course_75 : decode cX10_course 75 = .ok (.iconst 0, 1) := by decide +kernel
theorem dX10_course_76 : decode cX10_course 76 = .ok (.sipush 1000, 3) := by decide +kernel
theorem dX10_course_79 : decode cX10_course 79 = .ok (.invokestatic 89, 3) := by decide +kernel
theorem dX10_course_82 : decode cX10_course 82 = .ok (.ifCond .ne 5, 3) := by decide +kernel
theorem dX10_course_85 : decode cX10_course 85 = .ok (.iconst (-1), 1) := by decide +kernel
theorem dX10_course_86 : decode cX10_course 86 = .ok (.ireturn, 1) := by decide +kernel
theorem dX10_course_87 : decode cX10_course 87 = .ok (.aload 6, 2) := by decide +kernel
theorem dX10_course_89 : decode cX10_course 89 = .ok (.getfield 101, 3) := by decide +kernel
theorem dX10_course_92 : decode cX10_course 92 = .ok (.istore 7, 2) := by decide +kernel
theorem dX10_course_94 : decode cX10_course 94 = .ok (.aload 6, 2) := by decide +kernel
theorem dX10_course_96 : decode cX10_course 96 = .ok (.getfield 104, 3) := by decide +kernel
theorem dX10_course_99 : decode cX10_course 99 = .ok (.iload 7, 2) := by decide +kernel
theorem dX10_course_101 : decode cX10_course 101 = .ok (.iload_n 1, 1) := by decide +kernel
theorem dX10_course_102 : decode cX10_course 102 = .ok (.iastore, 1) := by decide +kernel
theorem dX10_course_103 : decode cX10_course 103 = .ok (.aload 6, 2) := by decide +kernel
theorem dX10_course_105 : decode cX10_course 105 = .ok (.getfield 107, 3) := by decide +kernel
theorem dX10_course_108 : decode cX10_course 108 = .ok (.iload 7, 2) := by decide +kernel
theorem dX10_course_110 : decode cX10_course 110 = .ok (.iload_n 2, 1) := by decide +kernel
theorem dX10_course_111 : decode cX10_course 111 = .ok (.iastore, 1) := by decide +kernel
theorem dX10_course_112 : decode cX10_course 112 = .ok (.aload 6, 2) := by decide +kernel
theorem dX10_course_114 : decode cX10_course 114 = .ok (.getfield 110, 3) := by decide +kernel
theorem dX10_course_117 : decode cX10_course 117 = .ok (.iload 7, 2) := by decide +kernel
theorem dX10_course_119 : decode cX10_course 119 = .ok (.iload_n 3, 1) := by decide +kernel
theorem dX10_course_120 : decode cX10_course 120 = .ok (.iastore, 1) := by decide +kernel
theorem dX10_course_121 : decode cX10_course 121 = .ok (.aload 6, 2) := by decide +kernel
theorem dX10_course_123 : decode cX10_course 123 = .ok (.getfield 113, 3) := by decide +kernel
theorem dX10_course_126 : decode cX10_course 126 = .ok (.iload 7, 2) := by decide +kernel
theorem dX10_course_128 : decode cX10_course 128 = .ok (.iload 4, 2) := by decide +kernel
theorem dX10_course_130 : decode cX10_course 130 = .ok (.iastore, 1) := by decide +kernel
theorem dX10_course_131 : decode cX10_course 131 = .ok (.aload 6, 2) := by decide +kernel
theorem dX10_course_133 : decode cX10_course 133 = .ok (.getfield 116, 3) := by decide +kernel
theorem dX10_course_136 : decode cX10_course 136 = .ok (.iload 7, 2) := by decide +kernel
theorem dX10_course_138 : decode cX10_course 138 = .ok (.iload 5, 2) := by decide +kernel
theorem dX10_course_140 : decode cX10_course 140 = .ok (.iastore, 1) := by decide +kernel
theorem dX10_course_141 : decode cX10_course 141 = .ok (.aload 6, 2) := by decide +kernel
theorem dX10_course_143 : decode cX10_course 143 = .ok (.iload 7, 2) := by decide +kernel
theorem dX10_course_145 : decode cX10_course 145 = .ok (.iconst 1, 1) := by decide +kernel
theorem dX10_course_146 : decode cX10_course 146 = .ok (.iadd, 1) := by decide +kernel
theorem dX10_course_147 : decode cX10_course 147 = .ok (.putfield 101, 3) := by decide +kernel
theorem dX10_course_150 : decode cX10_course 150 = .ok (.iload 7, 2) := by decide +kernel
theorem dX10_course_152 : decode cX10_course 152 = .ok (.ireturn, 1) := by decide +kernel
set_option maxRecDepth 20000 in
theorem ggX10_pupil_X8_isOn : GoodIn wsX10_pupil wsX8_isOn := goodIn_r _ [12, 13, 36, 37, 38, 39, 40, 41] (by decide +kernel) (by decide +kernel)
set_option maxRecDepth 20000 in
theorem gX10_pupil_X8_isOn : GoodIn wsX10_pupil (wsV RX10 80 RX8 yX8_isOn wsX8_isOn) := goodIn_app (goodIn_of _ (by decide +kernel)) ggX10_pupil_X8_isOn
set_option maxRecDepth 20000 in
theorem ggX10_pupil_X10_isWithin : GoodIn wsX10_pupil wsX10_isWithin := goodIn_r _ [17] (by decide +kernel) (by decide +kernel)
set_option maxRecDepth 20000 in
theorem gX10_pupil_X10_isWithin : GoodIn wsX10_pupil (va_wsS RX10 89 yX10_isWithin wsX10_isWithin) := goodIn_app (goodIn_of _ (by decide +kernel)) ggX10_pupil_X10_isWithin
theorem dX10_pupil_0 : decode cX10_pupil 0 = .ok (.aload_n 0, 1) := by decide +kernel
theorem dX10_pupil_1 : decode cX10_pupil 1 = .ok (.getfield 30, 3) := by decide +kernel
theorem dX10_pupil_4 : decode cX10_pupil 4 = .ok (.getfield 119, 3) := by decide +kernel
theorem dX10_pupil_7 : decode cX10_pupil 7 = .ok (.astore 4, 2) := by decide +kernel
theorem dX10_pupil_9 : decode cX10_pupil 9 = .ok (.aload_n 0, 1) := by decide +kernel
theorem dX10_pupil_10 : decode cX10_pupil 10 = .ok (.getfield 30, 3) := by decide +kernel
theorem dX10_pupil_13 : decode cX10_pupil 13 = .ok (.getfield 76, 3) := by decide +kernel
theorem dX10_pupil_16 : decode cX10_pupil 16 = .ok (.invokevirtual 80, 3) := by decide +kernel
theorem dX10_pupil_19 : decode cX10_pupil 19 = .ok (.ifCond .ne 13, 3) := by decide +kernel
theorem dX10_pupil_22 : decode cX10_pupil 22 = .ok (.aload 4, 2) := by decide +kernel
theorem dX10_pupil_24 : decode cX10_pupil 24 = .ok (.getfield 123, 3) := by decide +kernel
theorem dX10_pupil_27 : decode cX10_pupil 27 = .ok (.bipush 30, 2) := by decide +kernel
theorem dX10_pupil_29 : decode cX10_pupil 29 = .ok (.if_icmp .lt 5, 3) := by decide +kernel
theorem dX10_pupil_32 : decode cX10_pupil 32 = .ok (.iconst (-1), 1) := by decide +kernel
theorem dX10_pupil_33 : decode cX10_pupil 33 = .ok (.ireturn, 1) := by decide +kernel
theorem dX10_pupil_34 : decode cX10_pupil 34 = .ok (.iload_n 1, 1) := by decide +kernel
theorem dX10_pupil_35 : decode cX10_pupil 35 = .ok (.iconst 0, 1) := by decide +kernel
theorem dX10_pupil_36 : decode cX10_pupil 36 = .ok (.bipush 120, 2) := by decide +kernel
theorem dX10_pupil_38 : decode cX10_pupil 38 = .ok (.invokestatic 89, 3) := by decide +kernel
theorem dX10_pupil_41 : decode cX10_pupil 41 = .ok (.ifCond .eq 21, 3) := by decide +kernel
theorem dX10_pupil_44 : decode cX10_pupil 44 = .ok (.iload_n 2, 1) := by decide +kernel
theorem dX10_pupil_45 : decode cX10_pupil 45 = .ok (.iconst 0, 1) := by decide +kernel
theorem dX10_pupil_46 : decode cX10_pupil 46 = .ok (.iconst 2, 1) := by decide +kernel
theorem dX10_pupil_47 : decode cX10_pupil 47 = .ok (.invokestatic 89, 3) := by decide +kernel
theorem dX10_pupil_50 : decode cX10_pupil 50 = .ok (.ifCond .eq 12, 3) := by decide +kernel
theorem dX10_pupil_53 : decode cX10_pupil 53 = .ok (.iload_n 3, 1) := by decide +kernel
theorem dX10_pupil_54 : decode cX10_pupil 54 = .ok (.iconst 1, 1) := by decide +kernel
theorem dX10_pupil_55 : decode cX10_pupil 55 = .ok (.iconst 3, 1) := by decide +kernel
theorem dX10_pupil_56 : decode cX10_pupil 56 = .ok (.invokestatic 89, 3) := by decide +kernel
theorem dX10_pupil_59 : decode cX10_pupil 59 = .ok (.ifCond .ne 5, 3) := by decide +kernel
theorem dX10_pupil_62 : decode cX10_pupil 62 = .ok (.iconst (-1), 1) := by decide +kernel
theorem dX10_pupil_63 : decode cX10_pupil 63 = .ok (.ireturn, 1) := by decide +kernel
theorem dX10_pupil_64 : decode cX10_pupil 64 = .ok (.aload 4, 2) := by decide +kernel
theorem dX10_pupil_66 : decode cX10_pupil 66 = .ok (.getfield 123, 3) := by decide +kernel
theorem dX10_pupil_69 : decode cX10_pupil 69 = .ok (.istore 5, 2) := by decide +kernel
theorem dX10_pupil_71 : decode cX10_pupil 71 = .ok (.aload 4, 2) := by decide +kernel
theorem dX10_pupil_73 : decode cX10_pupil 73 = .ok (.getfield 126, 3) := by decide +kernel
theorem dX10_pupil_76 : decode cX10_pupil 76 = .ok (.iload 5, 2) := by decide +kernel
theorem dX10_pupil_78 : decode cX10_pupil 78 = .ok (.iload_n 1, 1) := by decide +kernel
theorem dX10_pupil_79 : decode cX10_pupil 79 = .ok (.iastore, 1) := by decide +kernel
theorem dX10_pupil_80 : decode cX10_pupil 80 = .ok (.aload 4, 2) := by decide +kernel
theorem dX10_pupil_82 : decode cX10_pupil 82 = .ok (.getfield 129, 3) := by decide +kernel
theorem dX10_pupil_85 : decode cX10_pupil 85 = .ok (.iload 5, 2) := by decide +kernel
theorem dX10_pupil_87 : decode cX10_pupil 87 = .ok (.iload_n 2, 1) := by decide +kernel
theorem dX10_pupil_88 : decode cX10_pupil 88 = .ok (.iastore, 1) := by decide +kernel
theorem dX10_pupil_89 : decode cX10_pupil 89 = .ok (.aload 4, 2) := by decide +kernel
theorem dX10_pupil_91 : decode cX10_pupil 91 = .ok (.getfield 132, 3) := by decide +kernel
theorem dX10_pupil_94 : decode cX10_pupil 94 = .ok (.iload 5, 2) := by decide +kernel
theorem dX10_pupil_96 : decode cX10_pupil 96 = .ok (.iload_n 3, 1) := by decide +kernel
theorem dX10_pupil_97 : decode cX10_pupil 97 = .ok (.iastore, 1) := by decide +kernel
theorem dX10_pupil_98 : decode cX10_pupil 98 = .ok (.aload 4, 2) := by decide +kernel
theorem dX10_pupil_100 : decode cX10_pupil 100 = .ok (.iload 5, 2) := by decide +kernel
theorem dX10_pupil_102 : decode cX10_pupil 102 = .ok (.iconst 1, 1) := by decide +kernel
theorem dX10_pupil_103 : decode cX10_pupil 103 = .ok (.iadd, 1) := by decide +kernel
theorem dX10_pupil_104 : decode cX10_pupil 104 = .ok (.putfield 123, 3) := by decide +kernel
theorem dX10_pupil_107 : decode cX10_pupil 107 = .ok (.iload 5, 2) := by decide +kernel
theorem dX10_pupil_109 : decode cX10_pupil 109 = .ok (.ireturn, 1) := by decide +kernel
set_option maxRecDepth 20000 in
theorem ggX10_wish_X10_isPupil : GoodIn wsX10_wish wsX10_isPupil := goodIn_r _ [8, 1, 2, 9, 10, 11, 7, 12, 104, 105, 106, 107, 108, 109, 110, 111, 112, 113, 114, 115, 116, 117, 118, 119, 120, 121] (by decide +kernel) (by decide +kernel)
set_option maxRecDepth 20000 in
theorem gX10_wish_X10_isPupil : GoodIn wsX10_wish (wsV RX10 135 RX10 yX10_isPupil wsX10_isPupil) := goodIn_app (goodIn_of _ (by decide +kernel)) ggX10_wish_X10_isPupil
set_option maxRecDepth 20000 in
theorem ggX10_wish_X10_isCourse : GoodIn wsX10_wish wsX10_isCourse := goodIn_r _ [16, 1, 17, 18, 10, 11, 7, 12, 104, 105, 106, 107, 108, 109, 110, 111, 112, 113, 114, 115, 122, 123, 124, 125, 126, 127] (by decide +kernel) (by decide +kernel)
set_option maxRecDepth 20000 in
theorem gX10_wish_X10_isCourse : GoodIn wsX10_wish (wsV RX10 139 RX10 yX10_isCourse wsX10_isCourse) := goodIn_app (goodIn_of _ (by decide +kernel)) ggX10_wish_X10_isCourse
set_option maxRecDepth 20000 in
theorem ggX10_wish_X4_rankOf : GoodIn wsX10_wish wsX4_rankOf := goodIn_r _ [23, 24, 25, 26, 27, 22, 28, 29, 116, 117, 118, 119, 120, 121] (by decide +kernel) (by decide +kernel)
set_option maxRecDepth 20000 in
theorem gX10_wish_X4_rankOf : GoodIn wsX10_wish (wsV RX10 145 RX4 yX4_rankOf wsX4_rankOf) := goodIn_app (goodIn_of _ (by decide +kernel)) ggX10_wish_X4_rankOf
set_option maxRecDepth 20000 in
theorem ggX10_wish_X4_addWish : GoodIn wsX10_wish wsX4_addWish := goodIn_r _ [33, 24, 29, 116, 117, 118, 119, 120, 121] (by decide +kernel) (by decide +kernel)
set_option maxRecDepth 20000 in
theorem gX10_wish_X4_addWish : GoodIn wsX10_wish (wsV RX10 149 RX4 yX4_addWish wsX4_addWish) := goodIn_app (goodIn_of _ (by decide +kernel)) ggX10_wish_X4_addWish
set_option maxRecDepth 20000 in
theorem ggX10_wish_X6_moveUp : GoodIn wsX10_wish wsX6_moveUp := goodIn_r _ [38, 39, 40, 41, 37, 42, 43, 44, 45, 46, 47, 26, 27, 22, 28, 29, 48, 49, 50, 51, 52, 53, 54, 55, 56, 57, 58, 59, 60, 61, 62, 63, 64, 65, 66, 67, 20, 21, 23, 24, 25, 68, 69, 70, 71, 72, 73, 74, 75, 76, 77, 78, 79, 80, 81, 82, 83, 84, 85, 86, 87, 88, 89, 90, 91, 92, 93, 94, 95, 96, 97, 98, 99, 100, 101, 102, 103, 110, 111, 112, 113, 114, 115, 116, 117, 118, 119, 120, 121, 128, 129, 130, 131, 132, 122, 123, 124, 125, 126, 127, 133, 134, 135, 136, 137, 138] (by decide +kernel) (by decide +kernel)
set_option maxRecDepth 20000 in
theorem gX10_wish_X6_moveUp : GoodIn wsX10_wish (wsV RX10 152 RX6 yX6_moveUp wsX6_moveUp) := goodIn_app (goodIn_of _ (by decide +kernel)) ggX10_wish_X6_moveUp
theorem dX10_wish_0 : decode cX10_wish 0 = .ok (.aload_n 0, 1) := by decide +kernel
theorem dX10_wish_1 : decode cX10_wish 1 = .ok (.iload_n 1, 1) := by decide +kernel
theorem dX10_wish_2 : decode cX10_wish 2 = .ok (.invokevirtual 135, 3) := by decide +kernel
theorem dX10_wish_5 : decode cX10_wish 5 = .ok (.ifCond .eq 11, 3) := by decide +kernel
theorem dX10_wish_8 : decode cX10_wish 8 = .ok (.aload_n 0, 1) := by decide +kernel
theorem dX10_wish_9 : decode cX10_wish 9 = .ok (.iload_n 2, 1) := by decide +kernel
theorem dX10_wish_10 : decode cX10_wish 10 = .ok (.invokevirtual 139, 3) := by decide +kernel
theorem dX10_wish_13 : decode cX10_wish 13 = .ok (.ifCond .ne 5, 3) := by decide +kernel
theorem dX10_wish_16 : decode cX10_wish 16 = .ok (.iconst (-1), 1) := by decide +kernel
theorem dX10_wish_17 : decode cX10_wish 17 = .ok (.ireturn, 1) := by decide +kernel
theorem dX10_wish_18 : decode cX10_wish 18 = .ok (.aload_n 0, 1) := by decide +kernel
theorem dX10_wish_19 : decode cX10_wish 19 = .ok (.getfield 30, 3) := by decide +kernel
theorem dX10_wish_22 : decode cX10_wish 22 = .ok (.getfield 119, 3) := by decide +kernel
theorem dX10_wish_25 : decode cX10_wish 25 = .ok (.astore_n 3, 1) := by decide +kernel
theorem dX10_wish_26 : decode cX10_wish 26 = .ok (.aload_n 3, 1) := by decide +kernel
theorem dX10_wish_27 : decode cX10_wish 27 = .ok (.getfield 142, 3) := by decide +kernel
theorem dX10_wish_30 : decode cX10_wish 30 = .ok (.iload_n 1, 1) := by decide +kernel
theorem dX10_wish_31 : decode cX10_wish 31 = .ok (.iaload, 1) := by decide +kernel
theorem dX10_wish_32 : decode cX10_wish 32 = .ok (.bipush 6, 2) := by decide +kernel
theorem dX10_wish_34 : decode cX10_wish 34 = .ok (.if_icmp .ge 13, 3) := by decide +kernel
theorem dX10_wish_37 : decode cX10_wish 37 = .ok (.aload_n 3, 1) := by decide +kernel
theorem dX10_wish_38 : decode cX10_wish 38 = .ok (.iload_n 1, 1) := by decide +kernel
theorem dX10_wish_39 : decode cX10_wish 39 = .ok (.iload_n 2, 1) := by decide +kernel
theorem dX10_wish_40 : decode cX10_wish 40 = .ok (.invokevirtual 145, 3) := by decide +kernel
theorem dX10_wish_43 : decode cX10_wish 43 = .ok (.iconst (-1), 1) := by decide +kernel
theorem dX10_wish_44 : decode cX10_wish 44 = .ok (.if_icmp .eq 5, 3) := by decide +kernel
theorem dX10_wish_47 : decode cX10_wish 47 = .ok (.iconst (-1), 1) := by decide +kernel
theorem dX10_wish_48 : decode cX10_wish 48 = .ok (.ireturn, 1) := by decide +kernel
theorem dX10_wish_49 : decode cX10_wish 49 = .ok (.aload_n 3, 1) := by decide +kernel
theorem dX10_wish_50 : decode cX10_wish 50 = .ok (.iload_n 1, 1) := by decide +kernel
theorem dX10_wish_51 : decode cX10_wish 51 = .ok (.iload_n 2, 1) := by decide +kernel
theorem dX10_wish_52 : decode cX10_wish 52 = .ok (.invokevirtual 149, 3) := by decide +kernel
theorem dX10_wish_55 : decode cX10_wish 55 = .ok (.istore 4, 2) := by decide +kernel
theorem dX10_wish_57 : decode cX10_wish 57 = .ok (.aload_n 0, 1) := by decide +kernel
theorem dX10_wish_58 : decode cX10_wish 58 = .ok (.getfield 30, 3) := by decide +kernel
theorem dX10_wish_61 : decode cX10_wish 61 = .ok (.invokevirtual 152, 3) := by decide +kernel
theorem dX10_wish_64 : decode cX10_wish 64 = .ok (.iload 4, 2) := by decide +kernel
theorem dX10_wish_66 : decode cX10_wish 66 = .ok (.ireturn, 1) := by decide +kernel
set_option maxRecDepth 20000 in
theorem ggX10_canHold_X10_furnishSet : GoodIn wsX10_canHold wsX10_furnishSet := goodIn_r _ [5, 6, 7, 8, 9, 10, 11, 12, 13, 14, 15, 16, 17, 18, 19, 20, 21, 22, 23, 24, 25, 26, 27, 28, 29, 30, 31, 32, 33, 34, 35, 36, 37, 38, 39, 40, 41, 42, 43, 44, 45, 46, 47, 48, 49, 50, 51, 52, 53, 54, 55, 56, 57, 58, 59, 60, 61, 62, 63, 64, 65, 66, 67, 68, 69, 70, 71, 72, 73, 74, 75, 76, 77, 78, 79, 80, 81, 82, 83, 84, 85, 86, 87, 88, 89, 90, 91, 92, 93, 94, 95, 96, 97, 98, 99, 100, 101, 102, 103, 104, 105, 106, 107, 108, 109, 110, 111, 112, 113, 114, 115, 116, 117] (by decide +kernel) (by decide +kernel)
set_option maxRecDepth 20000 in
theorem gX10_canHold_X10_furnishSet : GoodIn wsX10_canHold (wsV RX10 155 RX10 yX10_furnishSet wsX10_furnishSet) := goodIn_app (goodIn_of _ (by decide +kernel)) ggX10_canHold_X10_furnishSet
theorem dX10_canHold_0 : decode cX10_canHold 0 = .ok (.aload_n 0, 1) := by decide +kernel
theorem dX10_canHold_1 : decode cX10_canHold 1 = .ok (.iload_n 1, 1) := by decide +kernel
theorem dX10_canHold_2 : decode cX10_canHold 2 = .ok (.invokevirtual 155, 3) := by decide +kernel
theorem dX10_canHold_5 : decode cX10_canHold 5 = .ok (.ireturn, 1) := by decide +kernel
set_option maxRecDepth 20000 in
theorem ggX10_points_X10_furnishSet : GoodIn wsX10_points wsX10_furnishSet := goodIn_r _ [7, 2, 8, 9, 1, 10, 11, 12, 13, 14, 15, 16, 17, 18, 19, 20, 21, 22, 23, 24, 25, 26, 27, 28, 29, 30, 31, 32, 33, 34, 35, 36, 37, 38, 39, 40, 41, 42, 43, 44, 45, 46, 47, 48, 49, 50, 51, 52, 53, 54, 55, 56, 57, 58, 59, 60, 61, 62, 63, 64, 65, 66, 67, 68, 69, 70, 71, 72, 73, 74, 75, 76, 116, 117, 118, 119, 120, 121, 122, 123, 124, 125, 126, 127, 128, 129, 130, 131, 132, 133, 134, 135, 136, 137, 138, 139, 140, 141, 142, 143, 144, 145, 146, 147, 148, 149, 150, 151, 152, 153, 154, 155, 156] (by decide +kernel) (by decide +kernel)
set_option maxRecDepth 20000 in
theorem gX10_points_X10_furnishSet : GoodIn wsX10_points (wsV RX10 155 RX10 yX10_furnishSet wsX10_furnishSet) := goodIn_app (goodIn_of _ (by decide +kernel)) ggX10_points_X10_furnishSet
set_option maxRecDepth 20000 in
theorem ggX10_points_X3_placePupils : GoodIn wsX10_points wsX3_placePupils := goodIn_r _ [80, 46, 47, 81, 82, 25, 26, 32, 33, 34, 35, 83, 84, 85, 13, 86, 27, 87, 28, 20, 24, 88, 89, 90, 53, 91, 59, 92, 93, 94, 95, 96, 97, 98, 36, 37, 38, 39, 40, 41, 99, 100, 101, 102, 23, 103, 104, 105, 106, 58, 107, 108, 109, 110, 57, 111, 112, 113, 114, 22, 115, 76, 61, 62, 63, 64, 55, 134, 135, 136, 137, 138, 139, 140, 141, 142, 143, 152, 153, 154, 155, 156, 122, 123, 124, 125, 126, 127, 146, 147, 148, 149, 150, 151, 128, 129, 130, 131, 132, 133] (by decide +kernel) (by decide +kernel)
set_option maxRecDepth 20000 in
theorem gX10_points_X3_placePupils : GoodIn wsX10_points (wsV RX10 158 RX3 yX3_placePupils wsX3_placePupils) := goodIn_app (goodIn_of _ (by decide +kernel)) ggX10_points_X3_placePupils
theorem dX10_points_0 : decode cX10_points 0 = .ok (.aload_n 0, 1) := by decide +kernel
theorem dX10_points_1 : decode cX10_points 1 = .ok (.iload_n 1, 1) := by decide +kernel
theorem dX10_points_2 : decode cX10_points 2 = .ok (.invokevirtual 155, 3) := by decide +kernel
theorem dX10_points_5 : decode cX10_points 5 = .ok (.ifCond .ne 5, 3) := by decide +kernel
theorem dX10_points_8 : decode cX10_points 8 = .ok (.iconst (-1), 1) := by decide +kernel
theorem dX10_points_9 : decode cX10_points 9 = .ok (.ireturn, 1) := by decide +kernel
theorem dX10_points_10 : decode cX10_points 10 = .ok (.aload_n 0, 1) := by decide +kernel
theorem dX10_points_11 : decode cX10_points 11 = .ok (.getfield 23, 3) := by decide +kernel
theorem dX10_points_14 : decode cX10_points 14 = .ok (.aload_n 0, 1) := by decide +kernel
theorem dX10_points_15 : decode cX10_points 15 = .ok (.getfield 30, 3) := by decide +kernel
theorem dX10_points_18 : decode cX10_points 18 = .ok (.invokevirtual 158, 3) := by decide +kernel
theorem dX10_points_21 : decode cX10_points 21 = .ok (.ireturn, 1) := by decide +kernel
set_option maxRecDepth 20000 in
theorem ggX10_open_X8_isOn : GoodIn wsX10_open wsX8_isOn := goodIn_r _ [10, 11, 218, 219, 220, 221, 222, 223] (by decide +kernel) (by decide +kernel)
set_option maxRecDepth 20000 in
theorem gX10_open_X8_isOn : GoodIn wsX10_open (wsV RX10 80 RX8 yX8_isOn wsX8_isOn) := goodIn_app (goodIn_of _ (by decide +kernel)) ggX10_open_X8_isOn
set_option maxRecDepth 20000 in
theorem ggX10_open_X3_planBest : GoodIn wsX10_open wsX3_planBest := goodIn_r _ [16, 17, 18, 19, 20, 21, 22, 15, 23, 24, 25, 26, 27, 28, 29, 30, 31, 32, 33, 34, 35, 36, 37, 38, 39, 40, 41, 42, 43, 44, 45, 46, 47, 48, 49, 50, 51, 52, 53, 54, 55, 56, 57, 58, 59, 60, 61, 62, 63, 64, 65, 66, 67, 68, 69, 70, 71, 72, 73, 74, 75, 76, 77, 78, 79, 80, 81, 82, 83, 84, 85, 86, 87, 88, 89, 90, 91, 92, 93, 94, 95, 96, 97, 98, 99, 100, 101, 102, 103, 104, 105, 106, 107, 108, 109, 110, 111, 112, 113, 114, 115, 116, 117, 118, 119, 120, 121, 122, 123, 124, 125, 126, 202, 203, 204, 205, 206, 207, 224, 225, 226, 227, 228, 229, 208, 209, 210, 211, 212, 213, 214, 215, 216, 217, 230, 231, 232, 233, 234, 235, 236, 237, 238, 239, 240, 241, 242] (by decide +kernel) (by decide +kernel)
set_option maxRecDepth 20000 in
theorem gX10_open_X3_planBest : GoodIn wsX10_open (wsV RX10 162 RX3 yX3_planBest wsX3_planBest) := goodIn_app (goodIn_of _ (by decide +kernel)) ggX10_open_X3_planBest
set_option maxRecDepth 20000 in
theorem ggX10_open_X7_copyFrom : GoodIn wsX10_open wsX7_copyFrom := goodIn_r _ [130, 67, 68, 131, 132, 133, 134, 69, 70, 71, 238, 239, 240, 241, 242] (by decide +kernel) (by decide +kernel)
set_option maxRecDepth 20000 in
theorem gX10_open_X7_copyFrom : GoodIn wsX10_open (wsV RX10 172 RX7 yX7_copyFrom wsX7_copyFrom) := goodIn_app (goodIn_of _ (by decide +kernel)) ggX10_open_X7_copyFrom
set_option maxRecDepth 20000 in
theorem ggX10_open_X8_beginAnew : GoodIn wsX10_open wsX8_beginAnew := goodIn_r _ [138, 11, 139, 140, 141, 142, 143, 144, 40, 41, 42, 218, 219, 220, 221, 222, 223] (by decide +kernel) (by decide +kernel)
set_option maxRecDepth 20000 in
theorem gX10_open_X8_beginAnew : GoodIn wsX10_open (wsV RX10 177 RX8 yX8_beginAnew wsX8_beginAnew) := goodIn_app (goodIn_of _ (by decide +kernel)) ggX10_open_X8_beginAnew
set_option maxRecDepth 20000 in
theorem ggX10_open_X6_moveUp : GoodIn wsX10_open wsX6_moveUp := goodIn_r _ [149, 150, 151, 152, 148, 153, 154, 155, 156, 157, 158, 44, 45, 46, 47, 48, 159, 119, 120, 65, 121, 70, 69, 160, 161, 162, 163, 164, 165, 166, 167, 168, 169, 170, 71, 171, 172, 173, 174, 175, 176, 177, 74, 75, 76, 67, 178, 179, 180, 181, 182, 183, 100, 101, 102, 103, 104, 105, 106, 107, 108, 109, 184, 185, 186, 187, 188, 189, 190, 191, 192, 193, 194, 195, 115, 116, 117, 202, 203, 204, 205, 206, 207, 232, 233, 234, 235, 236, 237, 238, 239, 240, 241, 242, 224, 225, 226, 227, 228, 229, 218, 219, 220, 221, 222, 223] (by decide +kernel) (by decide +kernel)
set_option maxRecDepth 20000 in
theorem gX10_open_X6_moveUp : GoodIn wsX10_open (wsV RX10 152 RX6 yX6_moveUp wsX6_moveUp) := goodIn_app (goodIn_of _ (by decide +kernel)) ggX10_open_X6_moveUp
theorem dX10_open_0 : decode cX10_open 0 = .ok (.aload_n 0, 1) := by decide +kernel
theorem dX10_open_1 : decode cX10_open 1 = .ok (.getfield 30, 3) := by decide +kernel
theorem dX10_open_4 : decode cX10_open 4 = .ok (.getfield 76, 3) := by decide +kernel
theorem dX10_open_7 : decode cX10_open 7 = .ok (.invokevirtual 80, 3) := by decide +kernel
theorem dX10_open_10 : decode cX10_open 10 = .ok (.ifCond .eq 5, 3) := by decide +kernel
theorem dX10_open_13 : decode cX10_open 13 = .ok (.iconst (-1), 1) := by decide +kernel
theorem dX10_open_14 : decode cX10_open 14 = .ok (.ireturn, 1) := by decide +kernel
theorem dX10_open_15 : decode cX10_open 15 = .ok (.aload_n 0, 1) := by decide +kernel
theorem dX10_open_16 : decode cX10_open 16 = .ok (.getfield 23, 3) := by decide +kernel
theorem dX10_open_19 : decode cX10_open 19 = .ok (.aload_n 0, 1) := by decide +kernel
theorem dX10_open_20 : decode cX10_open 20 = .ok (.getfield 30, 3) := by decide +kernel
theorem dX10_open_23 : decode cX10_open 23 = .ok (.invokevirtual 162, 3) := by decide +kernel
theorem dX10_open_26 : decode cX10_open 26 = .ok (.istore_n 1, 1) := by decide +kernel
theorem dX10_open_27 : decode cX10_open 27 = .ok (.aload_n 0, 1) := by decide +kernel
theorem dX10_open_28 : decode cX10_open 28 = .ok (.getfield 30, 3) := by decide +kernel
theorem dX10_open_31 : decode cX10_open 31 = .ok (.getfield 165, 3) := by decide +kernel
theorem dX10_open_34 : decode cX10_open 34 = .ok (.aload_n 0, 1) := by decide +kernel
theorem dX10_open_35 : decode cX10_open 35 = .ok (.getfield 23, 3) := by decide +kernel
theorem dX10_open_38 : decode cX10_open 38 = .ok (.getfield 169, 3) := by decide +kernel
theorem dX10_open_41 : decode cX10_open 41 = .ok (.invokevirtual 172, 3) := by decide +kernel
theorem dX10_open_44 : decode cX10_open 44 = .ok (.aload_n 0, 1) := by decide +kernel
theorem dX10_open_45 : decode cX10_open 45 = .ok (.getfield 30, 3) := by decide +kernel
theorem dX10_open_48 : decode cX10_open 48 = .ok (.getfield 76, 3) := by decide +kernel
theorem dX10_open_51 : decode cX10_open 51 = .ok (.iconst 0, 1) := by decide +kernel
theorem dX10_open_52 : decode cX10_open 52 = .ok (.invokevirtual 177, 3) := by decide +kernel
theorem dX10_open_55 : decode cX10_open 55 = .ok (.aload_n 0, 1) := by decide +kernel
theorem dX10_open_56 : decode cX10_open 56 = .ok (.getfield 30, 3) := by decide +kernel
theorem dX10_open_59 : decode cX10_open 59 = .ok (.invokevirtual 152, 3) := by decide +kernel
theorem dX10_open_62 : decode cX10_open 62 = .ok (.iload_n 1, 1) := by decide +kernel
theorem dX10_open_63 : decode cX10_open 63 = .ok (.ireturn, 1) := by decide +kernel
set_option maxRecDepth 20000 in
theorem ggX10_close_X8_isOn : GoodIn wsX10_close wsX8_isOn := goodIn_r _ [9, 10, 47, 48, 49, 50, 51, 52] (by decide +kernel) (by decide +kernel)
set_option maxRecDepth 20000 in
theorem gX10_close_X8_isOn : GoodIn wsX10_close (wsV RX10 80 RX8 yX8_isOn wsX8_isOn) := goodIn_app (goodIn_of _ (by decide +kernel)) ggX10_close_X8_isOn
set_option maxRecDepth 20000 in
theorem ggX10_close_X7_clear : GoodIn wsX10_close wsX7_clear := goodIn_r _ [15, 16, 17, 18, 19, 20, 21, 22, 23, 24, 53, 54, 55, 56, 57] (by decide +kernel) (by decide +kernel)
set_option maxRecDepth 20000 in
theorem gX10_close_X7_clear : GoodIn wsX10_close (wsV RX10 183 RX7 yX7_clear wsX7_clear) := goodIn_app (goodIn_of _ (by decide +kernel)) ggX10_close_X7_clear
set_option maxRecDepth 20000 in
theorem ggX10_close_X8_beginAnew : GoodIn wsX10_close wsX8_beginAnew := goodIn_r _ [28, 10, 29, 30, 31, 32, 33, 34, 22, 23, 24, 47, 48, 49, 50, 51, 52] (by decide +kernel) (by decide +kernel)
set_option maxRecDepth 20000 in
theorem gX10_close_X8_beginAnew : GoodIn wsX10_close (wsV RX10 177 RX8 yX8_beginAnew wsX8_beginAnew) := goodIn_app (goodIn_of _ (by decide +kernel)) ggX10_close_X8_beginAnew
theorem dX10_close_0 : decode cX10_close 0 = .ok (.aload_n 0, 1) := by decide +kernel
theorem dX10_close_1 : decode cX10_close 1 = .ok (.getfield 30, 3) := by decide +kernel
theorem dX10_close_4 : decode cX10_close 4 = .ok (.getfield 76, 3) := by decide +kernel
theorem dX10_close_7 : decode cX10_close 7 = .ok (.invokevirtual 80, 3) := by decide +kernel
theorem dX10_close_10 : decode cX10_close 10 = .ok (.ifCond .ne 5, 3) := by decide +kernel
theorem dX10_close_13 : decode cX10_close 13 = .ok (.iconst (-1), 1) := by decide +kernel
theorem dX10_close_14 : decode cX10_close 14 = .ok (.ireturn, 1) := by decide +kernel
theorem dX10_close_15 : decode cX10_close 15 = .ok (.aload_n 0, 1) := by decide +kernel
theorem dX10_close_16 : decode cX10_close 16 = .ok (.getfield 30, 3) := by decide +kernel
theorem dX10_close_19 : decode cX10_close 19 = .ok (.getfield 76, 3) := by decide +kernel
theorem dX10_close_22 : decode cX10_close 22 = .ok (.getfield 180, 3) := by decide +kernel
theorem dX10_close_25 : decode cX10_close 25 = .ok (.istore_n 1, 1) := by decide +kernel
theorem dX10_close_26 : decode cX10_close 26 = .ok (.aload_n 0, 1) := by decide +kernel
theorem dX10_close_27 : decode cX10_close 27 = .ok (.getfield 30, 3) := by decide +kernel
theorem dX10_close_30 : decode cX10_close 30 = .ok (.getfield 165, 3) := by decide +kernel
theorem dX10_close_33 : decode cX10_close 33 = .ok (.invokevirtual 183, 3) := by decide +kernel
theorem dX10_close_36 : decode cX10_close 36 = .ok (.aload_n 0, 1) := by decide +kernel
theorem dX10_close_37 : decode cX10_close 37 = .ok (.getfield 30, 3) := by decide +kernel
theorem dX10_close_40 : decode cX10_close 40 = .ok (.getfield 76, 3) := by decide +kernel
theorem dX10_close_43 : decode cX10_close 43 = .ok (.iconst (-1), 1) := by decide +kernel
theorem dX10_close_44 : decode cX10_close 44 = .ok (.invokevirtual 177, 3) := by decide +kernel
theorem dX10_close_47 : decode cX10_close 47 = .ok (.iload_n 1, 1) := by decide +kernel
theorem dX10_close_48 : decode cX10_close 48 = .ok (.ireturn, 1) := by decide +kernel
set_option maxRecDepth 20000 in
theorem ggX10_weeks_X8_isOn : GoodIn wsX10_weeks wsX8_isOn := goodIn_r _ [8, 9, 127, 128, 129, 130, 131, 132] (by decide +kernel) (by decide +kernel)
set_option maxRecDepth 20000 in
theorem gX10_weeks_X8_isOn : GoodIn wsX10_weeks (wsV RX10 80 RX8 yX8_isOn wsX8_isOn) := goodIn_app (goodIn_of _ (by decide +kernel)) ggX10_weeks_X8_isOn
set_option maxRecDepth 20000 in
theorem ggX10_weeks_X10_isWithin : GoodIn wsX10_weeks wsX10_isWithin := goodIn_r _ [13] (by decide +kernel) (by decide +kernel)
set_option maxRecDepth 20000 in
theorem gX10_weeks_X10_isWithin : GoodIn wsX10_weeks (va_wsS RX10 89 yX10_isWithin wsX10_isWithin) := goodIn_app (goodIn_of _ (by decide +kernel)) ggX10_weeks_X10_isWithin
set_option maxRecDepth 20000 in
theorem ggX10_weeks_X6_passWeek : GoodIn wsX10_weeks wsX6_passWeek := goodIn_r _ [18, 19, 20, 21, 22, 23, 24, 25, 26, 27, 28, 29, 30, 31, 32, 33, 34, 17, 35, 36, 37, 38, 39, 40, 41, 42, 43, 44, 45, 46, 47, 48, 49, 50, 51, 52, 53, 54, 55, 56, 57, 58, 59, 60, 61, 62, 63, 64, 65, 66, 67, 68, 69, 70, 71, 72, 73, 74, 75, 76, 77, 78, 79, 80, 81, 82, 83, 84, 85, 86, 87, 88, 89, 90, 91, 92, 93, 94, 95, 96, 97, 98, 99, 100, 101, 102, 103, 104, 105, 106, 107, 108, 109, 110, 111, 112, 113, 114, 121, 122, 123, 124, 125, 126, 127, 128, 129, 130, 131, 132, 133, 134, 135, 136, 137, 138, 139, 140, 141, 142, 143, 144, 145, 146, 147, 148, 149] (by decide +kernel) (by decide +kernel)
set_option maxRecDepth 20000 in
theorem gX10_weeks_X6_passWeek : GoodIn wsX10_weeks (wsV RX10 186 RX6 yX6_passWeek wsX6_passWeek) := goodIn_app (goodIn_of _ (by decide +kernel)) ggX10_weeks_X6_passWeek
theorem dX10_weeks_0 : decode cX10_weeks 0 = .ok (.aload_n 0, 1) := by decide +kernel
theorem dX10_weeks_1 : decode cX10_weeks 1 = .ok (.getfield 30, 3) := by decide +kernel
theorem dX10_weeks_4 : decode cX10_weeks 4 = .ok (.getfield 76, 3) := by decide +kernel
theorem dX10_weeks_7 : decode cX10_weeks 7 = .ok (.invokevirtual 80, 3) := by decide +kernel
theorem dX10_weeks_10 : decode cX10_weeks 10 = .ok (.ifCond .eq 13, 3) := by decide +kernel
theorem dX10_weeks_13 : decode cX10_weeks 13 = .ok (.iload_n 1, 1) := by decide +kernel
theorem dX10_weeks_14 : decode cX10_weeks 14 = .ok (.iconst 1, 1) := by decide +kernel
theorem dX10_weeks_15 : decode cX10_weeks 15 = .ok (.bipush 20, 2) := by decide +kernel
theorem dX10_weeks_17 : decode cX10_weeks 17 = .ok (.invokestatic 89, 3) := by decide +kernel
theorem dX10_weeks_20 : decode cX10_weeks 20 = .ok (.ifCond .ne 5, 3) := by decide +kernel
theorem dX10_weeks_23 : decode cX10_weeks 23 = .ok (.iconst (-1), 1) := by decide +kernel
theorem dX10_weeks_24 : decode cX10_weeks 24 = .ok (.ireturn, 1) := by decide +kernel
theorem dX10_weeks_25 : decode cX10_weeks 25 = .ok (.iconst 0, 1) := by decide +kernel
theorem dX10_weeks_26 : decode cX10_weeks 26 = .ok (.istore_n 2, 1) := by decide +kernel
theorem dX10_weeks_27 : decode cX10_weeks 27 = .ok (.iload_n 2, 1) := by decide +kernel
theorem dX10_weeks_28 : decode cX10_weeks 28 = .ok (.iload_n 1, 1) := by decide +kernel
theorem dX10_weeks_29 : decode cX10_weeks 29 = .ok (.if_icmp .ge 16, 3) := by decide +kernel
theorem dX10_weeks_32 : decode cX10_weeks 32 = .ok (.aload_n 0, 1) := by decide +kernel
theorem dX10_weeks_33 : decode cX10_weeks 33 = .ok (.getfield 30, 3) := by decide +kernel
theorem dX10_weeks_36 : decode cX10_weeks 36 = .ok (.invokevirtual 186, 3) := by decide +kernel
theorem dX10_weeks_39 : decode cX10_weeks 39 = .ok (.iinc 2 1, 3) := by decide +kernel
theorem dX10_weeks_42 : decode cX10_weeks 42 = .ok (.goto (-15), 3) := by decide +kernel
theorem dX10_weeks_45 : decode cX10_weeks 45 = .ok (.aload_n 0, 1) := by decide +kernel
theorem dX10_weeks_46 : decode cX10_weeks 46 = .ok (.getfield 30, 3) := by decide +kernel
theorem dX10_weeks_49 : decode cX10_weeks 49 = .ok (.getfield 76, 3) := by decide +kernel
theorem dX10_weeks_52 : decode cX10_weeks 52 = .ok (.getfield 180, 3) := by decide +kernel
theorem dX10_weeks_55 : decode cX10_weeks 55 = .ok (.ireturn, 1) := by decide +kernel
set_option maxRecDepth 20000 in
theorem ggX10_quit_X10_isPupil : GoodIn wsX10_quit wsX10_isPupil := goodIn_r _ [8, 1, 3, 9, 10, 11, 7, 12, 106, 107, 108, 109, 110, 111, 112, 113, 114, 115, 116, 117, 118, 119, 120, 121, 122, 123] (by decide +kernel) (by decide +kernel)
set_option maxRecDepth 20000 in
theorem gX10_quit_X10_isPupil : GoodIn wsX10_quit (wsV RX10 135 RX10 yX10_isPupil wsX10_isPupil) := goodIn_app (goodIn_of _ (by decide +kernel)) ggX10_quit_X10_isPupil
set_option maxRecDepth 20000 in
theorem ggX10_quit_X10_isCourse : GoodIn wsX10_quit wsX10_isCourse := goodIn_r _ [16, 1, 17, 18, 10, 11, 7, 12, 106, 107, 108, 109, 110, 111, 112, 113, 114, 115, 116, 117, 124, 125, 126, 127, 128, 129] (by decide +kernel) (by decide +kernel)
set_option maxRecDepth 20000 in
theorem gX10_quit_X10_isCourse : GoodIn wsX10_quit (wsV RX10 139 RX10 yX10_isCourse wsX10_isCourse) := goodIn_app (goodIn_of _ (by decide +kernel)) ggX10_quit_X10_isCourse
set_option maxRecDepth 20000 in
theorem ggX10_quit_X7_hasCourse : GoodIn wsX10_quit wsX7_hasCourse := goodIn_r _ [23, 24, 130, 131, 132, 133, 134] (by decide +kernel) (by decide +kernel)
set_option maxRecDepth 20000 in
theorem gX10_quit_X7_hasCourse : GoodIn wsX10_quit (wsV RX10 189 RX7 yX7_hasCourse wsX7_hasCourse) := goodIn_app (goodIn_of _ (by decide +kernel)) ggX10_quit_X7_hasCourse
set_option maxRecDepth 20000 in
theorem ggX10_quit_X7_takeAway : GoodIn wsX10_quit wsX7_takeAway := goodIn_r _ [28, 24, 29, 130, 131, 132, 133, 134] (by decide +kernel) (by decide +kernel)
set_option maxRecDepth 20000 in
theorem gX10_quit_X7_takeAway : GoodIn wsX10_quit (wsV RX10 193 RX7 yX7_takeAway wsX7_takeAway) := goodIn_app (goodIn_of _ (by decide +kernel)) ggX10_quit_X7_takeAway
set_option maxRecDepth 20000 in
theorem ggX10_quit_X4_dropWish : GoodIn wsX10_quit wsX4_dropWish := goodIn_r _ [34, 35, 36, 37, 38, 39, 33, 40, 41, 42, 43, 44, 118, 119, 120, 121, 122, 123] (by decide +kernel) (by decide +kernel)
set_option maxRecDepth 20000 in
theorem gX10_quit_X4_dropWish : GoodIn wsX10_quit (wsV RX10 197 RX4 yX4_dropWish wsX4_dropWish) := goodIn_app (goodIn_of _ (by decide +kernel)) ggX10_quit_X4_dropWish
set_option maxRecDepth 20000 in
theorem ggX10_quit_X6_moveUp : GoodIn wsX10_quit wsX6_moveUp := goodIn_r _ [49, 50, 51, 52, 48, 53, 54, 55, 56, 57, 58, 42, 43, 33, 44, 36, 59, 60, 61, 22, 62, 29, 63, 64, 65, 66, 67, 68, 69, 70, 71, 20, 21, 23, 24, 72, 38, 39, 40, 35, 41, 73, 74, 75, 76, 77, 78, 79, 80, 81, 82, 83, 84, 85, 86, 87, 88, 89, 90, 91, 92, 93, 94, 95, 96, 97, 98, 99, 100, 101, 26, 27, 28, 102, 103, 104, 105, 112, 113, 114, 115, 116, 117, 118, 119, 120, 121, 122, 123, 130, 131, 132, 133, 134, 124, 125, 126, 127, 128, 129, 135, 136, 137, 138, 139, 140] (by decide +kernel) (by decide +kernel)
set_option maxRecDepth 20000 in
theorem gX10_quit_X6_moveUp : GoodIn wsX10_quit (wsV RX10 152 RX6 yX6_moveUp wsX6_moveUp) := goodIn_app (goodIn_of _ (by decide +kernel)) ggX10_quit_X6_moveUp
theorem dX10_quit_0 : decode cX10_quit 0 = .ok (.aload_n 0, 1) := by decide +kernel
theorem dX10_quit_1 : decode cX10_quit 1 = .ok (.iload_n 1, 1) := by decide +kernel
theorem dX10_quit_2 : decode cX10_quit 2 = .ok (.invokevirtual 135, 3) := by decide +kernel
theorem dX10_quit_5 : decode cX10_quit 5 = .ok (.ifCond .eq 26, 3) := by decide +kernel
theorem dX10_quit_8 : decode cX10_quit 8 = .ok (.aload_n 0, 1) := by decide +kernel
theorem dX10_quit_9 : decode cX10_quit 9 = .ok (.iload_n 2, 1) := by decide +kernel
theorem dX10_quit_10 : decode cX10_quit 10 = .ok (.invokevirtual 139, 3) := by decide +kernel
theorem dX10_quit_13 : decode cX10_quit 13 = .ok (.ifCond .eq 18, 3) := by decide +kernel
theorem dX10_quit_16 : decode cX10_quit 16 = .ok (.aload_n 0, 1) := by decide +kernel
theorem dX10_quit_17 : decode cX10_quit 17 = .ok (.getfield 30, 3) := by decide +kernel
theorem dX10_quit_20 : decode cX10_quit 20 = .ok (.getfield 165, 3) := by decide +kernel
theorem dX10_quit_23 : decode cX10_quit 23 = .ok (.iload_n 1, 1) := by decide +kernel
theorem dX10_quit_24 : decode cX10_quit 24 = .ok (.iload_n 2, 1) := by decide +kernel
theorem dX10_quit_25 : decode cX10_quit 25 = .ok (.invokevirtual 189, 3) := by decide +kernel
theorem dX10_quit_28 : decode cX10_quit 28 = .ok (.ifCond .ne 5, 3) := by decide +kernel
theorem dX10_quit_31 : decode cX10_quit 31 = .ok (.iconst 0, 1) := by decide +kernel
theorem dX10_quit_32 : decode cX10_quit 32 = .ok (.ireturn, 1) := by decide +kernel
theorem dX10_quit_33 : decode cX10_quit 33 = .ok (.aload_n 0, 1) := by decide +kernel
theorem dX10_quit_34 : decode cX10_quit 34 = .ok (.getfield 30, 3) := by decide +kernel
theorem dX10_quit_37 : decode cX10_quit 37 = .ok (.getfield 165, 3) := by decide +kernel
theorem dX10_quit_40 : decode cX10_quit 40 = .ok (.iload_n 1, 1) := by decide +kernel
theorem dX10_quit_41 : decode cX10_quit 41 = .ok (.iload_n 2, 1) := by decide +kernel
theorem dX10_quit_42 : decode cX10_quit 42 = .ok (.invokevirtual 193, 3) := by decide +kernel
theorem dX10_quit_45 : decode cX10_quit 45 = .ok (.aload_n 0, 1) := by decide +kernel
theorem dX10_quit_46 : decode cX10_quit 46 = .ok (.getfield 30, 3) := by decide +kernel
theorem dX10_quit_49 : decode cX10_quit 49 = .ok (.getfield 119, 3) := by decide +kernel
theorem dX10_quit_52 : decode cX10_quit 52 = .ok (.iload_n 1, 1) := by decide +kernel
theorem dX10_quit_53 : decode cX10_quit 53 = .ok (.iload_n 2, 1) := by decide +kernel
theorem dX10_quit_54 : decode cX10_quit 54 = .ok (.invokevirtual 197, 3) := by decide +kernel
theorem dX10_quit_57 : decode cX10_quit 57 = .ok (.aload_n 0, 1) := by decide +kernel
theorem dX10_quit_58 : decode cX10_quit 58 = .ok (.getfield 30, 3) := by decide +kernel
theorem dX10_quit_61 : decode cX10_quit 61 = .ok (.invokevirtual 152, 3) := by decide +kernel
theorem dX10_quit_64 : decode cX10_quit 64 = .ok (.iconst 1, 1) := by decide +kernel
theorem dX10_quit_65 : decode cX10_quit 65 = .ok (.ireturn, 1) := by decide +kernel
set_option maxRecDepth 20000 in
theorem ggX10_tell_X10_isCourse : GoodIn wsX10_tell wsX10_isCourse := goodIn_r _ [18, 1, 2, 19, 20, 21, 17, 22, 29, 30, 31, 32, 33, 34, 35, 36, 37, 38, 39, 40, 41, 42, 43, 44, 45, 46] (by decide +kernel) (by decide +kernel)
set_option maxRecDepth 20000 in
theorem gX10_tell_X10_isCourse : GoodIn wsX10_tell (wsV RX10 139 RX10 yX10_isCourse wsX10_isCourse) := goodIn_app (goodIn_of _ (by decide +kernel)) ggX10_tell_X10_isCourse
set_option maxRecDepth 20000 in
theorem ggX10_tell_X7_isHeld : GoodIn wsX10_tell wsX7_isHeld := goodIn_r _ [27, 28, 47, 48, 49, 50, 51] (by decide +kernel) (by decide +kernel)
set_option maxRecDepth 20000 in
theorem gX10_tell_X7_isHeld : GoodIn wsX10_tell (wsV RX10 200 RX7 yX7_isHeld wsX7_isHeld) := goodIn_app (goodIn_of _ (by decide +kernel)) ggX10_tell_X7_isHeld
theorem dX10_tell_0 : decode cX10_tell 0 = .ok (.aload_n 0, 1) := by decide +kernel
theorem dX10_tell_1 : decode cX10_tell 1 = .ok (.iload_n 1, 1) := by decide +kernel
theorem dX10_tell_2 : decode cX10_tell 2 = .ok (.invokevirtual 139, 3) := by decide +kernel
theorem dX10_tell_5 : decode cX10_tell 5 = .ok (.ifCond .ne 5, 3) := by decide +kernel
theorem dX10_tell_8 : decode cX10_tell 8 = .ok (.iconst (-1), 1) := by decide +kernel
theorem dX10_tell_9 : decode cX10_tell 9 = .ok (.ireturn, 1) := by decide +kernel
theorem dX10_tell_10 : decode cX10_tell 10 = .ok (.iload_n 2, 1) := by decide +kernel
theorem dX10_tell_11 : decode cX10_tell 11 = .ok (.tableswitch 190 0 9 #[53, 66, 79, 92, 105, 118, 138, 151, 164, 177], 53) := by decide +kernel
theorem dX10_tell_64 : decode cX10_tell 64 = .ok (.aload_n 0, 1) := by decide +kernel
theorem dX10_tell_65 : decode cX10_tell 65 = .ok (.getfield 30, 3) := by decide +kernel
theorem dX10_tell_68 : decode cX10_tell 68 = .ok (.getfield 97, 3) := by decide +kernel
theorem dX10_tell_71 : decode cX10_tell 71 = .ok (.getfield 104, 3) := by decide +kernel
theorem dX10_tell_74 : decode cX10_tell 74 = .ok (.iload_n 1, 1) := by decide +kernel
theorem dX10_tell_75 : decode cX10_tell 75 = .ok (.iaload, 1) := by decide +kernel
theorem dX10_tell_76 : decode cX10_tell 76 = .ok (.ireturn, 1) := by decide +kernel
theorem dX10_tell_77 : decode cX10_tell 77 = .ok (.aload_n 0, 1) := by decide +kernel
theorem dX10_tell_78 : decode cX10_tell 78 = .ok (.getfield 30, 3) := by decide +kernel
theorem dX10_tell_81 : decode cX10_tell 81 = .ok (.getfield 97, 3) := by decide +kernel
theorem dX10_tell_84 : decode cX10_tell 84 = .ok (.getfield 107, 3) := by decide +kernel
theorem dX10_tell_87 : decode cX10_tell 87 = .ok (.iload_n 1, 1) := by decide +kernel
theorem dX10_tell_88 : decode cX10_tell 88 = .ok (.iaload, 1) := by decide +kernel
theorem dX10_tell_89 : decode cX10_tell 89 = .ok (.ireturn, 1) := by decide +kernel
theorem dX10_tell_90 : decode cX10_tell 90 = .ok (.aload_n 0, 1) := by decide +kernel
theorem dX10_tell_91 : decode cX10_tell 91 = .ok (.getfield 30, 3) := by decide +kernel
theorem dX10_tell_94 : decode cX10_tell 94 = .ok (.getfield 97, 3) := by decide +kernel
theorem dX10_tell_97 : decode cX10_tell 97 = .ok (.getfield 110, 3) := by decide +kernel
theorem dX10_tell_100 : decode cX10_tell 100 = .ok (.iload_n 1, 1) := by decide +kernel
theorem dX10_tell_101 : decode cX10_tell 101 = .ok (.iaload, 1) := by decide +kernel
theorem dX10_tell_102 : decode cX10_tell 102 = .ok (.ireturn, 1) := by decide +kernel
theorem dX10_tell_103 : decode cX10_tell 103 = .ok (.aload_n 0, 1) := by decide +kernel
theorem dX10_tell_104 : decode cX10_tell 104 = .ok (.getfield 30, 3) := by decide +kernel
theorem dX10_tell_107 : decode cX10_tell 107 = .ok (.getfield 97, 3) := by decide +kernel
theorem dX10_tell_110 : decode cX10_tell 110 = .ok (.getfield 113, 3) := by decide +kernel
theorem dX10_tell_113 : decode cX10_tell 113 = .ok (.iload_n 1, 1) := by decide +kernel
theorem dX10_tell_114 : decode cX10_tell 114 = .ok (.iaload, 1) := by decide +kernel
theorem dX10_tell_115 : decode cX10_tell 115 = .ok (.ireturn, 1) := by decide +kernel
theorem dX10_tell_116 : decode cX10_tell 116 = .ok (.aload_n 0, 1) := by decide +kernel
theorem dX10_tell_117 : decode cX10_tell 117 = .ok (.getfield 30, 3) := by decide +kernel
theorem dX10_tell_120 : decode cX10_tell 120 = .ok (.getfield 97, 3) := by decide +kernel
theorem dX10_tell_123 : decode cX10_tell 123 = .ok (.getfield 116, 3) := by decide +kernel
theorem dX10_tell_126 : decode cX10_tell 126 = .ok (.iload_n 1, 1) := by decide +kernel
theorem dX10_tell_127 : decode cX10_tell 127 = .ok (.iaload, 1) := by decide +kernel
theorem dX10_tell_128 : decode cX10_tell 128 = .ok (.ireturn, 1) := by decide +kernel
theorem dX10_tell_129 : decode cX10_tell 129 = .ok (.aload_n 0, 1) := by decide +kernel
theorem dX10_tell_130 : decode cX10_tell 130 = .ok (.getfield 30, 3) := by decide +kernel
theorem dX10_tell_133 : decode cX10_tell 133 = .ok (.getfield 165, 3) := by decide +kernel
theorem dX10_tell_136 : decode cX10_tell 136 = .ok (.iload_n 1, 1) := by decide +kernel
theorem dX10_tell_137 : decode cX10_tell 137 = .ok (.invokevirtual 200, 3) := by decide +kernel
theorem dX10_tell_140 : decode cX10_tell 140 = .ok (.ifCond .eq 7, 3) := by decide +kernel
theorem dX10_tell_143 : decode cX10_tell 143 = .ok (.iconst 1, 1) := by decide +kernel
theorem dX10_tell_144 : decode cX10_tell 144 = .ok (.goto 4, 3) := by decide +kernel
theorem dX10_tell_147 : decode cX10_tell 147 = .ok (.iconst 0, 1) := by decide +kernel
theorem dX10_tell_148 : decode cX10_tell 148 = .ok (.ireturn, 1) := by decide +kernel
theorem dX10_tell_149 : decode cX10_tell 149 = .ok (.aload_n 0, 1) := by decide +kernel
theorem dX10_tell_150 : decode cX10_tell 150 = .ok (.getfield 30, 3) := by decide +kernel
theorem dX10_tell_153 : decode cX10_tell 153 = .ok (.getfield 165, 3) := by decide +kernel
theorem dX10_tell_156 : decode cX10_tell 156 = .ok (.getfield 203, 3) := by decide +kernel
theorem dX10_tell_159 : decode cX10_tell 159 = .ok (.iload_n 1, 1) := by decide +kernel
theorem dX10_tell_160 : decode cX10_tell 160 = .ok (.iaload, 1) := by decide +kernel
theorem dX10_tell_161 : decode cX10_tell 161 = .ok (.ireturn, 1) := by decide +kernel
theorem dX10_tell_162 : decode cX10_tell 162 = .ok (.aload_n 0, 1) := by decide +kernel
theorem dX10_tell_163 : decode cX10_tell 163 = .ok (.getfield 30, 3) := by decide +kernel
theorem dX10_tell_166 : decode cX10_tell 166 = .ok (.getfield 165, 3) := by decide +kernel
theorem dX10_tell_169 : decode cX10_tell 169 = .ok (.getfield 206, 3) := by decide +kernel
theorem dX10_tell_172 : decode cX10_tell 172 = .ok (.iload_n 1, 1) := by decide +kernel
theorem dX10_tell_173 : decode cX10_tell 173 = .ok (.iaload, 1) := by decide +kernel
theorem dX10_tell_174 : decode cX10_tell 174 = .ok (.ireturn, 1) := by decide +kernel
theorem dX10_tell_175 : decode cX10_tell 175 = .ok (.aload_n 0, 1) := by decide +kernel
theorem dX10_tell_176 : decode cX10_tell 176 = .ok (.getfield 30, 3) := by decide +kernel
theorem dX10_tell_179 : decode cX10_tell 179 = .ok (.getfield 165, 3) := by decide +kernel
theorem dX10_tell_182 : decode cX10_tell 182 = .ok (.getfield 209, 3) := by decide +kernel
theorem dX10_tell_185 : decode cX10_tell 185 = .ok (.iload_n 1, 1) := by decide +kernel
theorem dX10_tell_186 : decode cX10_tell 186 = .ok (.iaload, 1) := by decide +kernel
theorem dX10_tell_187 : decode cX10_tell 187 = .ok (.ireturn, 1) := by decide +kernel
theorem dX10_tell_188 : decode cX10_tell 188 = .ok (.aload_n 0, 1) := by decide +kernel
theorem dX10_tell_189 : decode cX10_tell 189 = .ok (.getfield 30, 3) := by decide +kernel
theorem dX10_tell_192 : decode cX10_tell 192 = .ok (.getfield 76, 3) := by decide +kernel
theorem dX10_tell_195 : decode cX10_tell 195 = .ok (.getfield 212, 3) := by decide +kernel
theorem dX10_tell_198 : decode cX10_tell 198 = .ok (.iload_n 1, 1) := by decide +kernel
theorem dX10_tell_199 : decode cX10_tell 199 = .ok (.iaload, 1) := by decide +kernel
theorem dX10_tell_200 : decode cX10_tell 200 = .ok (.ireturn, 1) := by decide +kernel
theorem dX10_tell_201 : decode cX10_tell 201 = .ok (.iconst (-1), 1) := by decide +kernel
theorem dX10_tell_202 : decode cX10_tell 202 = .ok (.ireturn, 1) := by decide +kernel
set_option maxRecDepth 20000 in
theorem ggX10_person_X10_isPupil : GoodIn wsX10_person wsX10_isPupil := goodIn_r _ [15, 1, 2, 16, 17, 18, 14, 19, 48, 49, 50, 51, 52, 53, 54, 55, 56, 57, 58, 59, 60, 61, 62, 63, 64, 65] (by decide +kernel) (by decide +kernel)
set_option maxRecDepth 20000 in
theorem gX10_person_X10_isPupil : GoodIn wsX10_person (wsV RX10 135 RX10 yX10_isPupil wsX10_isPupil) := goodIn_app (goodIn_of _ (by decide +kernel)) ggX10_person_X10_isPupil
set_option maxRecDepth 20000 in
theorem ggX10_person_X6_courseOn : GoodIn wsX10_person wsX6_courseOn := goodIn_r _ [24, 25, 26, 27, 28, 29, 30, 31, 32, 33, 34, 54, 55, 56, 57, 58, 59, 77, 78, 79, 80, 81, 82, 66, 67, 68, 69, 70] (by decide +kernel) (by decide +kernel)
set_option maxRecDepth 20000 in
theorem gX10_person_X6_courseOn : GoodIn wsX10_person (wsV RX10 215 RX6 yX6_courseOn wsX6_courseOn) := goodIn_app (goodIn_of _ (by decide +kernel)) ggX10_person_X6_courseOn
set_option maxRecDepth 20000 in
theorem ggX10_person_X4_courseOfRank : GoodIn wsX10_person wsX4_courseOfRank := goodIn_r _ [39, 40, 60, 61, 62, 63, 64, 65] (by decide +kernel) (by decide +kernel)
set_option maxRecDepth 20000 in
theorem gX10_person_X4_courseOfRank : GoodIn wsX10_person (wsV RX10 218 RX4 yX4_courseOfRank wsX4_courseOfRank) := goodIn_app (goodIn_of _ (by decide +kernel)) ggX10_person_X4_courseOfRank
set_option maxRecDepth 20000 in
theorem ggX10_person_X6_pointsOf : GoodIn wsX10_person wsX6_pointsOf := goodIn_r _ [44, 45, 46, 28, 47, 36, 37, 38, 39, 40, 29, 30, 31, 32, 33, 34, 54, 55, 56, 57, 58, 59, 60, 61, 62, 63, 64, 65, 66, 67, 68, 69, 70] (by decide +kernel) (by decide +kernel)
set_option maxRecDepth 20000 in
theorem gX10_person_X6_pointsOf : GoodIn wsX10_person (wsV RX10 224 RX6 yX6_pointsOf wsX6_pointsOf) := goodIn_app (goodIn_of _ (by decide +kernel)) ggX10_person_X6_pointsOf
theorem dX10_person_0 : decode cX10_person 0 = .ok (.aload_n 0, 1) := by decide +kernel
theorem dX10_person_1 : decode cX10_person 1 = .ok (.iload_n 1, 1) := by decide +kernel
theorem dX10_person_2 : decode cX10_person 2 = .ok (.invokevirtual 135, 3) := by decide +kernel
theorem dX10_person_5 : decode cX10_person 5 = .ok (.ifCond .ne 5, 3) := by decide +kernel
theorem dX10_person_8 : decode cX10_person 8 = .ok (.iconst (-1), 1) := by decide +kernel
theorem dX10_person_9 : decode cX10_person 9 = .ok (.ireturn, 1) := by decide +kernel
theorem dX10_person_10 : decode cX10_person 10 = .ok (.iload_n 2, 1) := by decide +kernel
theorem dX10_person_11 : decode cX10_person 11 = .ok (.bipush 20, 2) := by decide +kernel
theorem dX10_person_13 : decode cX10_person 13 = .ok (.if_icmp .lt 22, 3) := by decide +kernel
theorem dX10_person_16 : decode cX10_person 16 = .ok (.iload_n 2, 1) := by decide +kernel
theorem dX10_person_17 : decode cX10_person 17 = .ok (.bipush 25, 2) := by decide +kernel
theorem dX10_person_19 : decode cX10_person 19 = .ok (.if_icmp .ge 16, 3) := by decide +kernel
theorem dX10_person_22 : decode cX10_person 22 = .ok (.aload_n 0, 1) := by decide +kernel
theorem dX10_person_23 : decode cX10_person 23 = .ok (.getfield 30, 3) := by decide +kernel
theorem dX10_person_26 : decode cX10_person 26 = .ok (.iload_n 1, 1) := by decide +kernel
theorem dX10_person_27 : decode cX10_person 27 = .ok (.iload_n 2, 1) := by decide +kernel
theorem dX10_person_28 : decode cX10_person 28 = .ok (.bipush 20, 2) := by decide +kernel
theorem dX10_person_30 : decode cX10_person 30 = .ok (.isub, 1) := by decide +kernel
theorem dX10_person_31 : decode cX10_person 31 = .ok (.invokevirtual 215, 3) := by decide +kernel
theorem dX10_person_34 : decode cX10_person 34 = .ok (.ireturn, 1) := by decide +kernel
theorem dX10_person_35 : decode cX10_person 35 = .ok (.iload_n 2, 1) := by decide +kernel
theorem dX10_person_36 : decode cX10_person 36 = .ok (.bipush 10, 2) := by decide +kernel
theorem dX10_person_38 : decode cX10_person 38 = .ok (.if_icmp .lt 38, 3) := by decide +kernel
theorem dX10_person_41 : decode cX10_person 41 = .ok (.iload_n 2, 1) := by decide +kernel
theorem dX10_person_42 : decode cX10_person 42 = .ok (.bipush 10, 2) := by decide +kernel
theorem dX10_person_44 : decode cX10_person 44 = .ok (.aload_n 0, 1) := by decide +kernel
theorem dX10_person_45 : decode cX10_person 45 = .ok (.getfield 30, 3) := by decide +kernel
theorem dX10_person_48 : decode cX10_person 48 = .ok (.getfield 119, 3) := by decide +kernel
theorem dX10_person_51 : decode cX10_person 51 = .ok (.getfield 142, 3) := by decide +kernel
theorem dX10_person_54 : decode cX10_person 54 = .ok (.iload_n 1, 1) := by decide +kernel
theorem dX10_person_55 : decode cX10_person 55 = .ok (.iaload, 1) := by decide +kernel
theorem dX10_person_56 : decode cX10_person 56 = .ok (.iadd, 1) := by decide +kernel
theorem dX10_person_57 : decode cX10_person 57 = .ok (.if_icmp .ge 19, 3) := by decide +kernel
theorem dX10_person_60 : decode cX10_person 60 = .ok (.aload_n 0, 1) := by decide +kernel
theorem dX10_person_61 : decode cX10_person 61 = .ok (.getfield 30, 3) := by decide +kernel
theorem dX10_person_64 : decode cX10_person 64 = .ok (.getfield 119, 3) := by decide +kernel
theorem dX10_person_67 : decode cX10_person 67 = .ok (.iload_n 1, 1) := by decide +kernel
theorem dX10_person_68 : decode cX10_person 68 = .ok (.iload_n 2, 1) := by decide +kernel
theorem dX10_person_69 : decode cX10_person 69 = .ok (.bipush 10, 2) := by decide +kernel
theorem dX10_person_71 : decode cX10_person 71 = .ok (.isub, 1) := by decide +kernel
theorem dX10_person_72 : decode cX10_person 72 = .ok (.invokevirtual 218, 3) := by decide +kernel
theorem dX10_person_75 : decode cX10_person 75 = .ok (.ireturn, 1) := by decide +kernel
theorem dX10_person_76 : decode cX10_person 76 = .ok (.iload_n 2, 1) := by decide +kernel
theorem dX10_person_77 : decode cX10_person 77 = .ok (.tableswitch 130 0 6 #[43, 56, 69, 82, 95, 108, 117], 43) := by decide +kernel
theorem dX10_person_120 : decode cX10_person 120 = .ok (.aload_n 0, 1) := by decide +kernel
theorem dX10_person_121 : decode cX10_person 121 = .ok (.getfield 30, 3) := by decide +kernel
theorem dX10_person_124 : decode cX10_person 124 = .ok (.getfield 119, 3) := by decide +kernel
theorem dX10_person_127 : decode cX10_person 127 = .ok (.getfield 126, 3) := by decide +kernel
theorem dX10_person_130 : decode cX10_person 130 = .ok (.iload_n 1, 1) := by decide +kernel
theorem dX10_person_131 : decode cX10_person 131 = .ok (.iaload, 1) := by decide +kernel
theorem dX10_person_132 : decode cX10_person 132 = .ok (.ireturn, 1) := by decide +kernel
theorem dX10_person_133 : decode cX10_person 133 = .ok (.aload_n 0, 1) := by decide +kernel
theorem dX10_person_134 : decode cX10_person 134 = .ok (.getfield 30, 3) := by decide +kernel
theorem dX10_person_137 : decode cX10_person 137 = .ok (.getfield 119, 3) := by decide +kernel
theorem dX10_person_140 : decode cX10_person 140 = .ok (.getfield 129, 3) := by decide +kernel
theorem dX10_person_143 : decode cX10_person 143 = .ok (.iload_n 1, 1) := by decide +kernel
theorem dX10_person_144 : decode cX10_person 144 = .ok (.iaload, 1) := by decide +kernel
theorem dX10_person_145 : decode cX10_person 145 = .ok (.ireturn, 1) := by decide +kernel
theorem dX10_person_146 : decode cX10_person 146 = .ok (.aload_n 0, 1) := by decide +kernel
theorem dX10_person_147 : decode cX10_person 147 = .ok (.getfield 30, 3) := by decide +kernel
theorem dX10_person_150 : decode cX10_person 150 = .ok (.getfield 119, 3) := by decide +kernel
theorem dX10_person_153 : decode cX10_person 153 = .ok (.getfield 132, 3) := by decide +kernel
theorem dX10_person_156 : decode cX10_person 156 = .ok (.iload_n 1, 1) := by decide +kernel
theorem dX10_person_157 : decode cX10_person 157 = .ok (.iaload, 1) := by decide +kernel
theorem dX10_person_158 : decode cX10_person 158 = .ok (.ireturn, 1) := by decide +kernel
theorem dX10_person_159 : decode cX10_person 159 = .ok (.aload_n 0, 1) := by decide +kernel
theorem dX10_person_160 : decode cX10_person 160 = .ok (.getfield 30, 3) := by decide +kernel
theorem dX10_person_163 : decode cX10_person 163 = .ok (.getfield 165, 3) := by decide +kernel
theorem dX10_person_166 : decode cX10_person 166 = .ok (.getfield 221, 3) := by decide +kernel
theorem dX10_person_169 : decode cX10_person 169 = .ok (.iload_n 1, 1) := by decide +kernel
theorem dX10_person_170 : decode cX10_person 170 = .ok (.iaload, 1) := by decide +kernel
theorem dX10_person_171 : decode cX10_person 171 = .ok (.ireturn, 1) := by decide +kernel
theorem dX10_person_172 : decode cX10_person 172 = .ok (.aload_n 0, 1) := by decide +kernel
theorem dX10_person_173 : decode cX10_person 173 = .ok (.getfield 30, 3) := by decide +kernel
theorem dX10_person_176 : decode cX10_person 176 = .ok (.getfield 119, 3) := by decide +kernel
theorem dX10_person_179 : decode cX10_person 179 = .ok (.getfield 142, 3) := by decide +kernel
theorem dX10_person_182 : decode cX10_person 182 = .ok (.iload_n 1, 1) := by decide +kernel
theorem dX10_person_183 : decode cX10_person 183 = .ok (.iaload, 1) := by decide +kernel
theorem dX10_person_184 : decode cX10_person 184 = .ok (.ireturn, 1) := by decide +kernel
theorem dX10_person_185 : decode cX10_person 185 = .ok (.aload_n 0, 1) := by decide +kernel
theorem dX10_person_186 : decode cX10_person 186 = .ok (.getfield 30, 3) := by decide +kernel
theorem dX10_person_189 : decode cX10_person 189 = .ok (.iload_n 1, 1) := by decide +kernel
theorem dX10_person_190 : decode cX10_person 190 = .ok (.invokevirtual 224, 3) := by decide +kernel
theorem dX10_person_193 : decode cX10_person 193 = .ok (.ireturn, 1) := by decide +kernel
theorem dX10_person_194 : decode cX10_person 194 = .ok (.aload_n 0, 1) := by decide +kernel
theorem dX10_person_195 : decode cX10_person 195 = .ok (.getfield 30, 3) := by decide +kernel
theorem dX10_person_198 : decode cX10_person 198 = .ok (.getfield 76, 3) := by decide +kernel
theorem dX10_person_201 : decode cX10_person 201 = .ok (.getfield 228, 3) := by decide +kernel
theorem dX10_person_204 : decode cX10_person 204 = .ok (.iload_n 1, 1) := by decide +kernel
theorem dX10_person_205 : decode cX10_person 205 = .ok (.iaload, 1) := by decide +kernel
theorem dX10_person_206 : decode cX10_person 206 = .ok (.ireturn, 1) := by decide +kernel
theorem dX10_person_207 : decode cX10_person 207 = .ok (.iconst (-1), 1) := by decide +kernel
theorem dX10_person_208 : decode cX10_person 208 = .ok (.ireturn, 1) := by decide +kernel
set_option maxRecDepth 20000 in
theorem ggX10_why_X10_isPupil : GoodIn wsX10_why wsX10_isPupil := goodIn_r _ [6, 1, 7, 8, 9, 10, 5, 11, 66, 67, 68, 69, 70, 71, 72, 73, 74, 75, 76, 77, 78, 79, 80, 81, 82, 83] (by decide +kernel) (by decide +kernel)
set_option maxRecDepth 20000 in
theorem gX10_why_X10_isPupil : GoodIn wsX10_why (wsV RX10 135 RX10 yX10_isPupil wsX10_isPupil) := goodIn_app (goodIn_of _ (by decide +kernel)) ggX10_why_X10_isPupil
set_option maxRecDepth 20000 in
theorem ggX10_why_X10_isCourse : GoodIn wsX10_why wsX10_isCourse := goodIn_r _ [15, 1, 16, 17, 9, 10, 5, 11, 66, 67, 68, 69, 70, 71, 72, 73, 74, 75, 76, 77, 84, 85, 86, 87, 88, 89] (by decide +kernel) (by decide +kernel)
set_option maxRecDepth 20000 in
theorem gX10_why_X10_isCourse : GoodIn wsX10_why (wsV RX10 139 RX10 yX10_isCourse wsX10_isCourse) := goodIn_app (goodIn_of _ (by decide +kernel)) ggX10_why_X10_isCourse
set_option maxRecDepth 20000 in
theorem ggX10_why_X6_reasonFor : GoodIn wsX10_why wsX6_reasonFor := goodIn_r _ [22, 23, 24, 25, 26, 27, 28, 29, 30, 31, 32, 33, 34, 35, 36, 37, 38, 39, 40, 41, 42, 43, 44, 45, 46, 47, 48, 49, 50, 51, 52, 21, 53, 54, 55, 56, 57, 58, 59, 60, 61, 62, 63, 64, 65, 72, 73, 74, 75, 76, 77, 84, 85, 86, 87, 88, 89, 78, 79, 80, 81, 82, 83, 90, 91, 92, 93, 94] (by decide +kernel) (by decide +kernel)
set_option maxRecDepth 20000 in
theorem gX10_why_X6_reasonFor : GoodIn wsX10_why (wsV RX10 231 RX6 yX6_reasonFor wsX6_reasonFor) := goodIn_app (goodIn_of _ (by decide +kernel)) ggX10_why_X6_reasonFor
theorem dX10_why_0 : decode cX10_why 0 = .ok (.aload_n 0, 1) := by decide +kernel
theorem dX10_why_1 : decode cX10_why 1 = .ok (.iload_n 1, 1) := by decide +kernel
theorem dX10_why_2 : decode cX10_why 2 = .ok (.invokevirtual 135, 3) := by decide +kernel
theorem dX10_why_5 : decode cX10_why 5 = .ok (.ifCond .eq 23, 3) := by decide +kernel
theorem dX10_why_8 : decode cX10_why 8 = .ok (.aload_n 0, 1) := by decide +kernel
theorem dX10_why_9 : decode cX10_why 9 = .ok (.iload_n 2, 1) := by decide +kernel
theorem dX10_why_10 : decode cX10_why 10 = .ok (.invokevirtual 139, 3) := by decide +kernel
theorem dX10_why_13 : decode cX10_why 13 = .ok (.ifCond .eq 15, 3) := by decide +kernel
theorem dX10_why_16 : decode cX10_why 16 = .ok (.aload_n 0, 1) := by decide +kernel
theorem dX10_why_17 : decode cX10_why 17 = .ok (.getfield 30, 3) := by decide +kernel
theorem dX10_why_20 : decode cX10_why 20 = .ok (.iload_n 1, 1) := by decide +kernel
theorem dX10_why_21 : decode cX10_why 21 = .ok (.iload_n 2, 1) := by decide +kernel
theorem dX10_why_22 : decode cX10_why 22 = .ok (.invokevirtual 231, 3) := by decide +kernel
theorem dX10_why_25 : decode cX10_why 25 = .ok (.goto 4, 3) := by decide +kernel
theorem dX10_why_28 : decode cX10_why 28 = .ok (.iconst (-1), 1) := by decide +kernel
theorem dX10_why_29 : decode cX10_why 29 = .ok (.ireturn, 1) := by decide +kernel
set_option maxRecDepth 20000 in
theorem ggX10_hours_X10_isWithin : GoodIn wsX10_hours wsX10_isWithin := goodIn_r _ [10] (by decide +kernel) (by decide +kernel)
set_option maxRecDepth 20000 in
theorem gX10_hours_X10_isWithin : GoodIn wsX10_hours (va_wsS RX10 89 yX10_isWithin wsX10_isWithin) := goodIn_app (goodIn_of _ (by decide +kernel)) ggX10_hours_X10_isWithin
theorem dX10_hours_0 : decode cX10_hours 0 = .ok (.iload_n 1, 1) := by decide +kernel
theorem dX10_hours_1 : decode cX10_hours 1 = .ok (.ifCond .ne 25, 3) := by decide +kernel
theorem dX10_hours_4 : decode cX10_hours 4 = .ok (.iload_n 2, 1) := by decide +kernel
theorem dX10_hours_5 : decode cX10_hours 5 = .ok (.iconst 0, 1) := by decide +kernel
theorem dX10_hours_6 : decode cX10_hours 6 = .ok (.iconst 5, 1) := by decide +kernel
theorem dX10_hours_7 : decode cX10_hours 7 = .ok (.invokestatic 89, 3) := by decide +kernel
theorem dX10_hours_10 : decode cX10_hours 10 = .ok (.ifCond .eq 16, 3) := by decide +kernel
theorem dX10_hours_13 : decode cX10_hours 13 = .ok (.aload_n 0, 1) := by decide +kernel
theorem dX10_hours_14 : decode cX10_hours 14 = .ok (.getfield 30, 3) := by decide +kernel
theorem dX10_hours_17 : decode cX10_hours 17 = .ok (.getfield 76, 3) := by decide +kernel
theorem dX10_hours_20 : decode cX10_hours 20 = .ok (.getfield 234, 3) := by decide +kernel
theorem dX10_hours_23 : decode cX10_hours 23 = .ok (.iload_n 2, 1) := by decide +kernel
theorem dX10_hours_24 : decode cX10_hours 24 = .ok (.iaload, 1) := by decide +kernel
theorem dX10_hours_25 : decode cX10_hours 25 = .ok (.ireturn, 1) := by decide +kernel
theorem dX10_hours_26 : decode cX10_hours 26 = .ok (.iload_n 1, 1) := by decide +kernel
theorem dX10_hours_27 : decode cX10_hours 27 = .ok (.iconst 1, 1) := by decide +kernel
theorem dX10_hours_28 : decode cX10_hours 28 = .ok (.if_icmp .ne 36, 3) := by decide +kernel
theorem dX10_hours_31 : decode cX10_hours 31 = .ok (.iload_n 2, 1) := by decide +kernel
theorem dX10_hours_32 : decode cX10_hours 32 = .ok (.iconst 0, 1) := by decide +kernel
theorem dX10_hours_33 : decode cX10_hours 33 = .ok (.aload_n 0, 1) := by decide +kernel
theorem dX10_hours_34 : decode cX10_hours 34 = .ok (.getfield 30, 3) := by decide +kernel
theorem dX10_hours_37 : decode cX10_hours 37 = .ok (.getfield 72, 3) := by decide +kernel
theorem dX10_hours_40 : decode cX10_hours 40 = .ok (.getfield 86, 3) := by decide +kernel
theorem dX10_hours_43 : decode cX10_hours 43 = .ok (.iconst 1, 1) := by decide +kernel
theorem dX10_hours_44 : decode cX10_hours 44 = .ok (.isub, 1) := by decide +kernel
theorem dX10_hours_45 : decode cX10_hours 45 = .ok (.invokestatic 89, 3) := by decide +kernel
theorem dX10_hours_48 : decode cX10_hours 48 = .ok (.ifCond .eq 16, 3) := by decide +kernel
theorem dX10_hours_51 : decode cX10_hours 51 = .ok (.aload_n 0, 1) := by decide +kernel
theorem dX10_hours_52 : decode cX10_hours 52 = .ok (.getfield 30, 3) := by decide +kernel
theorem dX10_hours_55 : decode cX10_hours 55 = .ok (.getfield 76, 3) := by decide +kernel
theorem dX10_hours_58 : decode cX10_hours 58 = .ok (.getfield 237, 3) := by decide +kernel
theorem dX10_hours_61 : decode cX10_hours 61 = .ok (.iload_n 2, 1) := by decide +kernel
theorem dX10_hours_62 : decode cX10_hours 62 = .ok (.iaload, 1) := by decide +kernel
theorem dX10_hours_63 : decode cX10_hours 63 = .ok (.ireturn, 1) := by decide +kernel
theorem dX10_hours_64 : decode cX10_hours 64 = .ok (.iconst (-1), 1) := by decide +kernel
theorem dX10_hours_65 : decode cX10_hours 65 = .ok (.ireturn, 1) := by decide +kernel
set_option maxRecDepth 20000 in
theorem ggX10_bill_X10_isPupil : GoodIn wsX10_bill wsX10_isPupil := goodIn_r _ [8, 1, 9, 10, 11, 12, 7, 13, 100, 101, 102, 103, 104, 105, 106, 107, 108, 109, 110, 111, 120, 121, 122, 123, 124, 125] (by decide +kernel) (by decide +kernel)
set_option maxRecDepth 20000 in
theorem gX10_bill_X10_isPupil : GoodIn wsX10_bill (wsV RX10 135 RX10 yX10_isPupil wsX10_isPupil) := goodIn_app (goodIn_of _ (by decide +kernel)) ggX10_bill_X10_isPupil
set_option maxRecDepth 20000 in
theorem ggX10_bill_X6_sumBehind : GoodIn wsX10_bill wsX6_sumBehind := goodIn_r _ [18, 19, 20, 21, 22, 23, 17, 24, 25, 26, 27, 28, 29, 30, 31, 32, 33, 34, 35, 36, 37, 38, 39, 40, 41, 42, 43, 44, 45, 46, 47, 48, 49, 50, 51, 52, 53, 54, 55, 56, 57, 58, 59, 60, 61, 62, 63, 64, 65, 66, 67, 68, 69, 70, 71, 72, 73, 74, 75, 76, 77, 78, 79, 80, 81, 82, 83, 84, 85, 86, 87, 88, 89, 90, 91, 92, 93, 94, 95, 96, 97, 98, 99, 106, 107, 108, 109, 110, 111, 112, 113, 114, 115, 116, 117, 118, 119, 126, 127, 128, 129, 130, 131, 132, 133, 134, 135, 136, 120, 121, 122, 123, 124, 125, 137, 138, 139, 140, 141, 142] (by decide +kernel) (by decide +kernel)
set_option maxRecDepth 20000 in
theorem gX10_bill_X6_sumBehind : GoodIn wsX10_bill (wsV RX10 240 RX6 yX6_sumBehind wsX6_sumBehind) := goodIn_app (goodIn_of _ (by decide +kernel)) ggX10_bill_X6_sumBehind
theorem dX10_bill_0 : decode cX10_bill 0 = .ok (.aload_n 0, 1) := by decide +kernel
theorem dX10_bill_1 : decode cX10_bill 1 = .ok (.iload_n 1, 1) := by decide +kernel
theorem dX10_bill_2 : decode cX10_bill 2 = .ok (.invokevirtual 135, 3) := by decide +kernel
theorem dX10_bill_5 : decode cX10_bill 5 = .ok (.ifCond .eq 24, 3) := by decide +kernel
theorem dX10_bill_8 : decode cX10_bill 8 = .ok (.aload_n 0, 1) := by decide +kernel
theorem dX10_bill_9 : decode cX10_bill 9 = .ok (.getfield 30, 3) := by decide +kernel
theorem dX10_bill_12 : decode cX10_bill 12 = .ok (.iload_n 1, 1) := by decide +kernel
theorem dX10_bill_13 : decode cX10_bill 13 = .ok (.aload_n 0, 1) := by decide +kernel
theorem dX10_bill_14 : decode cX10_bill 14 = .ok (.getfield 30, 3) := by decide +kernel
theorem dX10_bill_17 : decode cX10_bill 17 = .ok (.getfield 50, 3) := by decide +kernel
theorem dX10_bill_20 : decode cX10_bill 20 = .ok (.getfield 63, 3) := by decide +kernel
theorem dX10_bill_23 : decode cX10_bill 23 = .ok (.invokevirtual 240, 3) := by decide +kernel
theorem dX10_bill_26 : decode cX10_bill 26 = .ok (.goto 4, 3) := by decide +kernel
theorem dX10_bill_29 : decode cX10_bill 29 = .ok (.iconst (-1), 1) := by decide +kernel
theorem dX10_bill_30 : decode cX10_bill 30 = .ok (.ireturn, 1) := by decide +kernel
set_option maxRecDepth 20000 in
theorem ggX10_line_X10_isPupil : GoodIn wsX10_line wsX10_isPupil := goodIn_r _ [9, 1, 10, 11, 12, 13, 8, 14, 101, 102, 103, 104, 105, 106, 107, 108, 109, 110, 111, 112, 121, 122, 123, 124, 125, 126] (by decide +kernel) (by decide +kernel)
set_option maxRecDepth 20000 in
theorem gX10_line_X10_isPupil : GoodIn wsX10_line (wsV RX10 135 RX10 yX10_isPupil wsX10_isPupil) := goodIn_app (goodIn_of _ (by decide +kernel)) ggX10_line_X10_isPupil
set_option maxRecDepth 20000 in
theorem ggX10_line_X10_isWithin : GoodIn wsX10_line wsX10_isWithin := goodIn_r _ [14] (by decide +kernel) (by decide +kernel)
set_option maxRecDepth 20000 in
theorem gX10_line_X10_isWithin : GoodIn wsX10_line (va_wsS RX10 89 yX10_isWithin wsX10_isWithin) := goodIn_app (goodIn_of _ (by decide +kernel)) ggX10_line_X10_isWithin
set_option maxRecDepth 20000 in
theorem ggX10_line_X6_sumBehind : GoodIn wsX10_line wsX6_sumBehind := goodIn_r _ [19, 20, 21, 22, 23, 24, 18, 25, 26, 27, 28, 29, 30, 31, 32, 33, 34, 35, 36, 37, 38, 39, 40, 41, 42, 43, 44, 45, 46, 47, 48, 49, 50, 51, 52, 53, 54, 55, 56, 57, 58, 59, 60, 61, 62, 63, 64, 65, 66, 67, 68, 69, 70, 71, 72, 73, 74, 75, 76, 77, 78, 79, 80, 81, 82, 83, 84, 85, 86, 87, 88, 89, 90, 91, 92, 93, 94, 95, 96, 97, 98, 99, 100, 107, 108, 109, 110, 111, 112, 113, 114, 115, 116, 117, 118, 119, 120, 127, 128, 129, 130, 131, 132, 133, 134, 135, 136, 137, 121, 122, 123, 124, 125, 126, 138, 139, 140, 141, 142, 143] (by decide +kernel) (by decide +kernel)
set_option maxRecDepth 20000 in
theorem gX10_line_X6_sumBehind : GoodIn wsX10_line (wsV RX10 240 RX6 yX6_sumBehind wsX6_sumBehind) := goodIn_app (goodIn_of _ (by decide +kernel)) ggX10_line_X6_sumBehind
theorem dX10_line_0 : decode cX10_line 0 = .ok (.aload_n 0, 1) := by decide +kernel
theorem dX10_line_1 : decode cX10_line 1 = .ok (.iload_n 1, 1) := by decide +kernel
theorem dX10_line_2 : decode cX10_line 2 = .ok (.invokevirtual 135, 3) := by decide +kernel
theorem dX10_line_5 : decode cX10_line 5 = .ok (.ifCond .eq 23, 3) := by decide +kernel
theorem dX10_line_8 : decode cX10_line 8 = .ok (.iload_n 2, 1) := by decide +kernel
theorem dX10_line_9 : decode cX10_line 9 = .ok (.iconst 0, 1) := by decide +kernel
theorem dX10_line_10 : decode cX10_line 10 = .ok (.aload_n 0, 1) := by decide +kernel
theorem dX10_line_11 : decode cX10_line 11 = .ok (.getfield 30, 3) := by decide +kernel
theorem dX10_line_14 : decode cX10_line 14 = .ok (.getfield 50, 3) := by decide +kernel
theorem dX10_line_17 : decode cX10_line 17 = .ok (.getfield 63, 3) := by decide +kernel
theorem dX10_line_20 : decode cX10_line 20 = .ok (.iconst 1, 1) := by decide +kernel
theorem dX10_line_21 : decode cX10_line 21 = .ok (.isub, 1) := by decide +kernel
theorem dX10_line_22 : decode cX10_line 22 = .ok (.invokestatic 89, 3) := by decide +kernel
theorem dX10_line_25 : decode cX10_line 25 = .ok (.ifCond .ne 6, 3) := by decide +kernel
theorem dX10_line_28 : decode cX10_line 28 = .ok (.ldc 243, 2) := by decide +kernel
theorem dX10_line_30 : decode cX10_line 30 = .ok (.ireturn, 1) := by decide +kernel
theorem dX10_line_31 : decode cX10_line 31 = .ok (.aload_n 0, 1) := by decide +kernel
theorem dX10_line_32 : decode cX10_line 32 = .ok (.getfield 30, 3) := by decide +kernel
theorem dX10_line_35 : decode cX10_line 35 = .ok (.iload_n 1, 1) := by decide +kernel
theorem dX10_line_36 : decode cX10_line 36 = .ok (.iload_n 2, 1) := by decide +kernel
theorem dX10_line_37 : decode cX10_line 37 = .ok (.iconst 1, 1) := by decide +kernel
theorem dX10_line_38 : decode cX10_line 38 = .ok (.iadd, 1) := by decide +kernel
theorem dX10_line_39 : decode cX10_line 39 = .ok (.invokevirtual 240, 3) := by decide +kernel
theorem dX10_line_42 : decode cX10_line 42 = .ok (.aload_n 0, 1) := by decide +kernel
theorem dX10_line_43 : decode cX10_line 43 = .ok (.getfield 30, 3) := by decide +kernel
theorem dX10_line_46 : decode cX10_line 46 = .ok (.iload_n 1, 1) := by decide +kernel
theorem dX10_line_47 : decode cX10_line 47 = .ok (.iload_n 2, 1) := by decide +kernel
theorem dX10_line_48 : decode cX10_line 48 = .ok (.invokevirtual 240, 3) := by decide +kernel
theorem dX10_line_51 : decode cX10_line 51 = .ok (.isub, 1) := by decide +kernel
theorem dX10_line_52 : decode cX10_line 52 = .ok (.ireturn, 1) := by decide +kernel
set_option maxRecDepth 20000 in
theorem ggX10_count_J6_bitCount_0f7a4 : GoodIn wsX10_count wsJ6_bitCount_0f7a4 := goodIn_r _ [18, 19, 20, 21] (by decide +kernel) (by decide +kernel)
set_option maxRecDepth 20000 in
theorem gX10_count_J6_bitCount_0f7a4 : GoodIn wsX10_count (va_wsS RX10 247 yJ6_bitCount_0f7a4 wsJ6_bitCount_0f7a4) := goodIn_app (goodIn_of _ (by decide +kernel)) ggX10_count_J6_bitCount_0f7a4
set_option maxRecDepth 20000 in
theorem ggX10_count_X6_placesHad : GoodIn wsX10_count wsX6_placesHad := goodIn_r _ [26, 27, 28, 29, 30, 60, 61, 62, 63, 64, 65, 68, 69, 70, 71, 72, 73, 80, 81, 82, 83, 84] (by decide +kernel) (by decide +kernel)
set_option maxRecDepth 20000 in
theorem gX10_count_X6_placesHad : GoodIn wsX10_count (wsV RX10 252 RX6 yX6_placesHad wsX6_placesHad) := goodIn_app (goodIn_of _ (by decide +kernel)) ggX10_count_X6_placesHad
set_option maxRecDepth 20000 in
theorem ggX10_count_X6_pointsInAll : GoodIn wsX10_count wsX6_pointsInAll := goodIn_r _ [34, 35, 36, 37, 38, 39, 25, 40, 41, 29, 42, 43, 44, 45, 46, 47, 48, 49, 50, 51, 52, 53, 60, 61, 62, 63, 64, 65, 74, 75, 76, 77, 78, 79, 80, 81, 82, 83, 84] (by decide +kernel) (by decide +kernel)
set_option maxRecDepth 20000 in
theorem gX10_count_X6_pointsInAll : GoodIn wsX10_count (wsV RX10 256 RX6 yX6_pointsInAll wsX6_pointsInAll) := goodIn_app (goodIn_of _ (by decide +kernel)) ggX10_count_X6_pointsInAll
theorem dX10_count_0 : decode cX10_count 0 = .ok (.iload_n 1, 1) := by decide +kernel
theorem dX10_count_1 : decode cX10_count 1 = .ok (.tableswitch 147 0 8 #[51, 62, 73, 84, 98, 106, 114, 125, 136], 51) := by decide +kernel
theorem dX10_count_52 : decode cX10_count 52 = .ok (.aload_n 0, 1) := by decide +kernel
theorem dX10_count_53 : decode cX10_count 53 = .ok (.getfield 30, 3) := by decide +kernel
theorem dX10_count_56 : decode cX10_count 56 = .ok (.getfield 72, 3) := by decide +kernel
theorem dX10_count_59 : decode cX10_count 59 = .ok (.getfield 86, 3) := by decide +kernel
theorem dX10_count_62 : decode cX10_count 62 = .ok (.ireturn, 1) := by decide +kernel
theorem dX10_count_63 : decode cX10_count 63 = .ok (.aload_n 0, 1) := by decide +kernel
theorem dX10_count_64 : decode cX10_count 64 = .ok (.getfield 30, 3) := by decide +kernel
theorem dX10_count_67 : decode cX10_count 67 = .ok (.getfield 97, 3) := by decide +kernel
theorem dX10_count_70 : decode cX10_count 70 = .ok (.getfield 101, 3) := by decide +kernel
theorem dX10_count_73 : decode cX10_count 73 = .ok (.ireturn, 1) := by decide +kernel
theorem dX10_count_74 : decode cX10_count 74 = .ok (.aload_n 0, 1) := by decide +kernel
theorem dX10_count_75 : decode cX10_count 75 = .ok (.getfield 30, 3) := by decide +kernel
theorem dX10_count_78 : decode cX10_count 78 = .ok (.getfield 119, 3) := by decide +kernel
theorem dX10_count_81 : decode cX10_count 81 = .ok (.getfield 123, 3) := by decide +kernel
theorem dX10_count_84 : decode cX10_count 84 = .ok (.ireturn, 1) := by decide +kernel
theorem dX10_count_85 : decode cX10_count 85 = .ok (.aload_n 0, 1) := by decide +kernel
theorem dX10_count_86 : decode cX10_count 86 = .ok (.getfield 30, 3) := by decide +kernel
theorem dX10_count_89 : decode cX10_count 89 = .ok (.getfield 165, 3) := by decide +kernel
theorem dX10_count_92 : decode cX10_count 92 = .ok (.getfield 244, 3) := by decide +kernel
theorem dX10_count_95 : decode cX10_count 95 = .ok (.invokestatic 247, 3) := by decide +kernel
theorem dX10_count_98 : decode cX10_count 98 = .ok (.ireturn, 1) := by decide +kernel
theorem dX10_count_99 : decode cX10_count 99 = .ok (.aload_n 0, 1) := by decide +kernel
theorem dX10_count_100 : decode cX10_count 100 = .ok (.getfield 30, 3) := by decide +kernel
theorem dX10_count_103 : decode cX10_count 103 = .ok (.invokevirtual 252, 3) := by decide +kernel
theorem dX10_count_106 : decode cX10_count 106 = .ok (.ireturn, 1) := by decide +kernel
theorem dX10_count_107 : decode cX10_count 107 = .ok (.aload_n 0, 1) := by decide +kernel
theorem dX10_count_108 : decode cX10_count 108 = .ok (.getfield 30, 3) := by decide +kernel
theorem dX10_count_111 : decode cX10_count 111 = .ok (.invokevirtual 256, 3) := by decide +kernel
theorem dX10_count_114 : decode cX10_count 114 = .ok (.ireturn, 1) := by decide +kernel
theorem dX10_count_115 : decode cX10_count 115 = .ok (.aload_n 0, 1) := by decide +kernel
theorem dX10_count_116 : decode cX10_count 116 = .ok (.getfield 30, 3) := by decide +kernel
theorem dX10_count_119 : decode cX10_count 119 = .ok (.getfield 76, 3) := by decide +kernel
theorem dX10_count_122 : decode cX10_count 122 = .ok (.getfield 180, 3) := by decide +kernel
theorem dX10_count_125 : decode cX10_count 125 = .ok (.ireturn, 1) := by decide +kernel
theorem dX10_count_126 : decode cX10_count 126 = .ok (.aload_n 0, 1) := by decide +kernel
theorem dX10_count_127 : decode cX10_count 127 = .ok (.getfield 30, 3) := by decide +kernel
theorem dX10_count_130 : decode cX10_count 130 = .ok (.getfield 50, 3) := by decide +kernel
theorem dX10_count_133 : decode cX10_count 133 = .ok (.getfield 63, 3) := by decide +kernel
theorem dX10_count_136 : decode cX10_count 136 = .ok (.ireturn, 1) := by decide +kernel
theorem dX10_count_137 : decode cX10_count 137 = .ok (.aload_n 0, 1) := by decide +kernel
theorem dX10_count_138 : decode cX10_count 138 = .ok (.getfield 30, 3) := by decide +kernel
theorem dX10_count_141 : decode cX10_count 141 = .ok (.getfield 76, 3) := by decide +kernel
theorem dX10_count_144 : decode cX10_count 144 = .ok (.getfield 259, 3) := by decide +kernel
theorem dX10_count_147 : decode cX10_count 147 = .ok (.ireturn, 1) := by decide +kernel
theorem dX10_count_148 : decode cX10_count 148 = .ok (.iconst (-1), 1) := by decide +kernel
theorem dX10_count_149 : decode cX10_count 149 = .ok (.ireturn, 1) := by decide +kernel
set_option maxRecDepth 20000 in
theorem ggX10_waits_X10_isCourse : GoodIn wsX10_waits wsX10_isCourse := goodIn_r _ [8, 1, 9, 10, 11, 12, 7, 13, 62, 63, 64, 65, 66, 67, 68, 69, 70, 71, 72, 73, 80, 81, 82, 83, 84, 85] (by decide +kernel) (by decide +kernel)
set_option maxRecDepth 20000 in
theorem gX10_waits_X10_isCourse : GoodIn wsX10_waits (wsV RX10 139 RX10 yX10_isCourse wsX10_isCourse) := goodIn_app (goodIn_of _ (by decide +kernel)) ggX10_waits_X10_isCourse
set_option maxRecDepth 20000 in
theorem ggX10_waits_X6_reasonFor : GoodIn wsX10_waits wsX6_reasonFor := goodIn_r _ [18, 19, 20, 21, 22, 23, 24, 25, 26, 27, 28, 29, 30, 31, 32, 33, 34, 35, 36, 37, 38, 39, 40, 41, 42, 43, 44, 45, 46, 47, 48, 17, 49, 50, 51, 52, 53, 54, 55, 56, 57, 58, 59, 60, 61, 68, 69, 70, 71, 72, 73, 80, 81, 82, 83, 84, 85, 74, 75, 76, 77, 78, 79, 86, 87, 88, 89, 90] (by decide +kernel) (by decide +kernel)
set_option maxRecDepth 20000 in
theorem gX10_waits_X6_reasonFor : GoodIn wsX10_waits (wsV RX10 231 RX6 yX6_reasonFor wsX6_reasonFor) := goodIn_app (goodIn_of _ (by decide +kernel)) ggX10_waits_X6_reasonFor
theorem dX10_waits_0 : decode cX10_waits 0 = .ok (.aload_n 0, 1) := by decide +kernel
theorem dX10_waits_1 : decode cX10_waits 1 = .ok (.iload_n 1, 1) := by decide +kernel
theorem dX10_waits_2 : decode cX10_waits 2 = .ok (.invokevirtual 139, 3) := by decide +kernel
theorem dX10_waits_5 : decode cX10_waits 5 = .ok (.ifCond .eq 7, 3) := by decide +kernel
theorem dX10_waits_8 : decode cX10_waits 8 = .ok (.iload_n 2, 1) := by decide +kernel
theorem dX10_waits_9 : decode cX10_waits 9 = .ok (.ifCond .ge 5, 3) := by decide +kernel
theorem dX10_waits_12 : decode cX10_waits 12 = .ok (.iconst (-1), 1) := by decide +kernel
theorem dX10_waits_13 : decode cX10_waits 13 = .ok (.ireturn, 1) := by decide +kernel
theorem dX10_waits_14 : decode cX10_waits 14 = .ok (.iconst 0, 1) := by decide +kernel
theorem dX10_waits_15 : decode cX10_waits 15 = .ok (.istore_n 3, 1) := by decide +kernel
theorem dX10_waits_16 : decode cX10_waits 16 = .ok (.iconst 0, 1) := by decide +kernel
theorem dX10_waits_17 : decode cX10_waits 17 = .ok (.istore 4, 2) := by decide +kernel
theorem dX10_waits_19 : decode cX10_waits 19 = .ok (.iload 4, 2) := by decide +kernel
theorem dX10_waits_21 : decode cX10_waits 21 = .ok (.aload_n 0, 1) := by decide +kernel
theorem dX10_waits_22 : decode cX10_waits 22 = .ok (.getfield 30, 3) := by decide +kernel
theorem dX10_waits_25 : decode cX10_waits 25 = .ok (.getfield 119, 3) := by decide +kernel
theorem dX10_waits_28 : decode cX10_waits 28 = .ok (.getfield 123, 3) := by decide +kernel
theorem dX10_waits_31 : decode cX10_waits 31 = .ok (.if_icmp .ge 34, 3) := by decide +kernel
theorem dX10_waits_34 : decode cX10_waits 34 = .ok (.aload_n 0, 1) := by decide +kernel
theorem dX10_waits_35 : decode cX10_waits 35 = .ok (.getfield 30, 3) := by decide +kernel
theorem dX10_waits_38 : decode cX10_waits 38 = .ok (.iload 4, 2) := by decide +kernel
theorem dX10_waits_40 : decode cX10_waits 40 = .ok (.iload_n 1, 1) := by decide +kernel
theorem dX10_waits_41 : decode cX10_waits 41 = .ok (.invokevirtual 231, 3) := by decide +kernel
theorem dX10_waits_44 : decode cX10_waits 44 = .ok (.iconst 5, 1) := by decide +kernel
theorem dX10_waits_45 : decode cX10_waits 45 = .ok (.if_icmp .ne 14, 3) := by decide +kernel
theorem dX10_waits_48 : decode cX10_waits 48 = .ok (.iload_n 3, 1) := by decide +kernel
theorem dX10_waits_49 : decode cX10_waits 49 = .ok (.iload_n 2, 1) := by decide +kernel
theorem dX10_waits_50 : decode cX10_waits 50 = .ok (.if_icmp .ne 6, 3) := by decide +kernel
theorem dX10_waits_53 : decode cX10_waits 53 = .ok (.iload 4, 2) := by decide +kernel
theorem dX10_waits_55 : decode cX10_waits 55 = .ok (.ireturn, 1) := by decide +kernel
theorem dX10_waits_56 : decode cX10_waits 56 = .ok (.iinc 3 1, 3) := by decide +kernel
theorem dX10_waits_59 : decode cX10_waits 59 = .ok (.iinc 4 1, 3) := by decide +kernel
theorem dX10_waits_62 : decode cX10_waits 62 = .ok (.goto (-43), 3) := by decide +kernel
theorem dX10_waits_65 : decode cX10_waits 65 = .ok (.iconst (-1), 1) := by decide +kernel
theorem dX10_waits_66 : decode cX10_waits 66 = .ok (.ireturn, 1) := by decide +kernel
set_option maxRecDepth 20000 in
theorem ggX10_image_X10_isWithin : GoodIn wsX10_image wsX10_isWithin := goodIn_r _ [9] (by decide +kernel) (by decide +kernel)
set_option maxRecDepth 20000 in
theorem gX10_image_X10_isWithin : GoodIn wsX10_image (va_wsS RX10 89 yX10_isWithin wsX10_isWithin) := goodIn_app (goodIn_of _ (by decide +kernel)) ggX10_image_X10_isWithin
set_option maxRecDepth 20000 in
theorem ggX10_image_X6_init : GoodIn wsX10_image wsX6_init := goodIn_r _ [11, 12, 13, 14, 15, 16, 17, 18, 19, 20, 21, 22, 23, 24, 25, 26, 27, 28, 29, 30, 31, 32, 33, 34, 35, 36, 37, 38, 39, 40, 41, 42, 43, 44, 45, 46, 47, 48, 49, 50, 51, 52, 53, 54, 55, 56, 57, 58, 59, 60, 61, 62, 63, 64, 65, 66, 67, 68, 69, 70, 71, 72, 73, 74, 75, 76, 77, 78, 79, 80, 81, 82, 83, 84, 85, 86, 87, 88, 89, 145, 146, 139, 140, 141, 142, 143, 144, 147, 148, 149, 150, 151, 152, 153, 154, 155, 156, 157, 158, 159, 160, 161, 162, 163, 164, 165, 166, 167, 168, 169, 170, 171, 172, 173, 174, 175, 176, 177] (by decide +kernel) (by decide +kernel)
set_option maxRecDepth 20000 in
theorem gX10_image_X6_init_n29 : GoodIn wsX10_image (wsX6_init) := ggX10_image_X6_init
set_option maxRecDepth 20000 in
theorem ggX10_image_X6_copyFrom : GoodIn wsX10_image wsX6_copyFrom := goodIn_r _ [93, 18, 22, 26, 30, 34, 38, 94, 95, 96, 17, 97, 98, 43, 99, 100, 101, 102, 103, 104, 105, 21, 106, 107, 47, 108, 48, 49, 50, 51, 109, 110, 111, 25, 112, 113, 55, 114, 56, 57, 58, 59, 115, 116, 117, 29, 118, 119, 64, 120, 65, 66, 67, 121, 122, 123, 33, 124, 75, 125, 76, 126, 77, 78, 79, 127, 128, 129, 37, 130, 131, 83, 132, 84, 85, 86, 87, 88, 89, 139, 140, 141, 142, 143, 144, 145, 146, 147, 148, 149, 150, 151, 152, 153, 154, 155, 156, 157, 158, 159, 160, 161, 162, 163, 164, 165, 166, 167, 168, 169, 170, 171, 172, 173, 174, 175, 176, 177] (by decide +kernel) (by decide +kernel)
set_option maxRecDepth 20000 in
theorem gX10_image_X6_copyFrom : GoodIn wsX10_image (wsV RX10 262 RX6 yX6_copyFrom wsX6_copyFrom) := goodIn_app (goodIn_of _ (by decide +kernel)) ggX10_image_X6_copyFrom
theorem dX10_image_0 : decode cX10_image 0 = .ok (.iload_n 1, 1) := by decide +kernel
theorem dX10_image_1 : decode cX10_image 1 = .ok (.iconst 0, 1) := by decide +kernel
theorem dX10_image_2 : decode cX10_image 2 = .ok (.iconst 2, 1) := by decide +kernel
theorem dX10_image_3 : decode cX10_image 3 = .ok (.invokestatic 89, 3) := by decide +kernel
theorem dX10_image_6 : decode cX10_image 6 = .ok (.ifCond .ne 5, 3) := by decide +kernel
theorem dX10_image_9 : decode cX10_image 9 = .ok (.iconst 0, 1) := by decide +kernel
theorem dX10_image_10 : decode cX10_image 10 = .ok (.ireturn, 1) := by decide +kernel
theorem dX10_image_11 : decode cX10_image 11 = .ok (.aload_n 0, 1) := by decide +kernel
theorem dX10_image_12 : decode cX10_image 12 = .ok (.getfield 34, 3) := by decide +kernel
theorem dX10_image_15 : decode cX10_image 15 = .ok (.iload_n 1, 1) := by decide +kernel
theorem dX10_image_16 : decode cX10_image 16 = .ok (.aaload, 1) := by decide +kernel
theorem dX10_image_17 : decode cX10_image 17 = .ok (.ifnonnull 16, 3) := by decide +kernel
theorem dX10_image_20 : decode cX10_image 20 = .ok (.aload_n 0, 1) := by decide +kernel
theorem dX10_image_21 : decode cX10_image 21 = .ok (.getfield 34, 3) := by decide +kernel
theorem dX10_image_24 : decode cX10_image 24 = .ok (.iload_n 1, 1) := by decide +kernel
theorem dX10_image_25 : decode cX10_image 25 = .ok (.new 27, 3) := by decide +kernel
theorem dX10_image_28 : decode cX10_image 28 = .ok (.dup, 1) := by decide +kernel
theorem dX10_image_29 : decode cX10_image 29 = .ok (.invokespecial 29, 3) := by decide +kernel
theorem dX10_image_32 : decode cX10_image 32 = .ok (.aastore, 1) := by decide +kernel
theorem dX10_image_33 : decode cX10_image 33 = .ok (.aload_n 0, 1) := by decide +kernel
theorem dX10_image_34 : decode cX10_image 34 = .ok (.getfield 34, 3) := by decide +kernel
theorem dX10_image_37 : decode cX10_image 37 = .ok (.iload_n 1, 1) := by decide +kernel
theorem dX10_image_38 : decode cX10_image 38 = .ok (.aaload, 1) := by decide +kernel
theorem dX10_image_39 : decode cX10_image 39 = .ok (.aload_n 0, 1) := by decide +kernel
theorem dX10_image_40 : decode cX10_image 40 = .ok (.getfield 30, 3) := by decide +kernel
theorem dX10_image_43 : decode cX10_image 43 = .ok (.invokevirtual 262, 3) := by decide +kernel
theorem dX10_image_46 : decode cX10_image 46 = .ok (.iconst 1, 1) := by decide +kernel
theorem dX10_image_47 : decode cX10_image 47 = .ok (.ireturn, 1) := by decide +kernel
set_option maxRecDepth 20000 in
theorem ggX10_again_X10_isWithin : GoodIn wsX10_again wsX10_isWithin := goodIn_r _ [6] (by decide +kernel) (by decide +kernel)
set_option maxRecDepth 20000 in
theorem gX10_again_X10_isWithin : GoodIn wsX10_again (va_wsS RX10 89 yX10_isWithin wsX10_isWithin) := goodIn_app (goodIn_of _ (by decide +kernel)) ggX10_again_X10_isWithin
set_option maxRecDepth 20000 in
theorem ggX10_again_X6_copyFrom : GoodIn wsX10_again wsX6_copyFrom := goodIn_r _ [11, 12, 13, 14, 15, 16, 17, 18, 19, 20, 21, 22, 23, 24, 25, 26, 27, 28, 29, 30, 31, 32, 33, 34, 35, 36, 37, 38, 39, 40, 41, 42, 43, 44, 45, 46, 47, 48, 49, 50, 51, 52, 53, 54, 55, 56, 57, 58, 59, 60, 61, 62, 63, 64, 65, 66, 67, 68, 69, 70, 71, 72, 73, 74, 75, 76, 77, 78, 79, 80, 81, 82, 83, 84, 85, 86, 87, 88, 89, 96, 97, 98, 99, 100, 101, 102, 103, 104, 105, 106, 107, 108, 109, 110, 111, 112, 113, 114, 115, 116, 117, 118, 119, 120, 121, 122, 123, 124, 125, 126, 127, 128, 129, 130, 131, 132, 133, 134] (by decide +kernel) (by decide +kernel)
set_option maxRecDepth 20000 in
theorem gX10_again_X6_copyFrom : GoodIn wsX10_again (wsV RX10 262 RX6 yX6_copyFrom wsX6_copyFrom) := goodIn_app (goodIn_of _ (by decide +kernel)) ggX10_again_X6_copyFrom
theorem dX10_again_0 : decode cX10_again 0 = .ok (.iload_n 1, 1) := by decide +kernel
theorem dX10_again_1 : decode cX10_again 1 = .ok (.iconst 0, 1) := by decide +kernel
theorem dX10_again_2 : decode cX10_again 2 = .ok (.iconst 2, 1) := by decide +kernel
theorem dX10_again_3 : decode cX10_again 3 = .ok (.invokestatic 89, 3) := by decide +kernel
theorem dX10_again_6 : decode cX10_again 6 = .ok (.ifCond .eq 12, 3) := by decide +kernel
theorem dX10_again_9 : decode cX10_again 9 = .ok (.aload_n 0, 1) := by decide +kernel
theorem dX10_again_10 : decode cX10_again 10 = .ok (.getfield 34, 3) := by decide +kernel
theorem dX10_again_13 : decode cX10_again 13 = .ok (.iload_n 1, 1) := by decide +kernel
theorem dX10_again_14 : decode cX10_again 14 = .ok (.aaload, 1) := by decide +kernel
theorem dX10_again_15 : decode cX10_again 15 = .ok (.ifnonnull 5, 3) := by decide +kernel
theorem dX10_again_18 : decode cX10_again 18 = .ok (.iconst 0, 1) := by decide +kernel
theorem dX10_again_19 : decode cX10_again 19 = .ok (.ireturn, 1) := by decide +kernel
theorem dX10_again_20 : decode cX10_again 20 = .ok (.aload_n 0, 1) := by decide +kernel
theorem dX10_again_21 : decode cX10_again 21 = .ok (.getfield 30, 3) := by decide +kernel
theorem dX10_again_24 : decode cX10_again 24 = .ok (.aload_n 0, 1) := by decide +kernel
theorem dX10_again_25 : decode cX10_again 25 = .ok (.getfield 34, 3) := by decide +kernel
theorem dX10_again_28 : decode cX10_again 28 = .ok (.iload_n 1, 1) := by decide +kernel
theorem dX10_again_29 : decode cX10_again 29 = .ok (.aaload, 1) := by decide +kernel
theorem dX10_again_30 : decode cX10_again 30 = .ok (.invokevirtual 262, 3) := by decide +kernel
theorem dX10_again_33 : decode cX10_again 33 = .ok (.iconst 1, 1) := by decide +kernel
theorem dX10_again_34 : decode cX10_again 34 = .ok (.ireturn, 1) := by decide +kernel
theorem dX10_isWithin_0 : decode cX10_isWithin 0 = .ok (.iload_n 0, 1) := by decide +kernel
theorem dX10_isWithin_1 : decode cX10_isWithin 1 = .ok (.iload_n 1, 1) := by decide +kernel
theorem dX10_isWithin_2 : decode cX10_isWithin 2 = .ok (.if_icmp .lt 12, 3) := by decide +kernel
theorem dX10_isWithin_5 : decode cX10_isWithin 5 = .ok (.iload_n 0, 1) := by decide +kernel
theorem dX10_isWithin_6 : decode cX10_isWithin 6 = .ok (.iload_n 2, 1) := by decide +kernel
theorem dX10_isWithin_7 : decode cX10_isWithin 7 = .ok (.if_icmp .gt 7, 3) := by decide +kernel
theorem dX10_isWithin_10 : decode cX10_isWithin 10 = .ok (.iconst 1, 1) := by decide +kernel
theorem dX10_isWithin_11 : decode cX10_isWithin 11 = .ok (.goto 4, 3) := by decide +kernel
theorem dX10_isWithin_14 : decode cX10_isWithin 14 = .ok (.iconst 0, 1) := by decide +kernel
theorem dX10_isWithin_15 : decode cX10_isWithin 15 = .ok (.ireturn, 1) := by decide +kernel
set_option maxRecDepth 20000 in
theorem ggX10_isPupil_X10_isWithin : GoodIn wsX10_isPupil wsX10_isWithin := goodIn_r _ [7] (by decide +kernel) (by decide +kernel)
set_option maxRecDepth 20000 in
theorem gX10_isPupil_X10_isWithin : GoodIn wsX10_isPupil (va_wsS RX10 89 yX10_isWithin wsX10_isWithin) := goodIn_app (goodIn_of _ (by decide +kernel)) ggX10_isPupil_X10_isWithin
theorem dX10_isPupil_0 : decode cX10_isPupil 0 = .ok (.iload_n 1, 1) := by decide +kernel
theorem dX10_isPupil_1 : decode cX10_isPupil 1 = .ok (.iconst 0, 1) := by decide +kernel
theorem dX10_isPupil_2 : decode cX10_isPupil 2 = .ok (.aload_n 0, 1) := by decide +kernel
theorem dX10_isPupil_3 : decode cX10_isPupil 3 = .ok (.getfield 30, 3) := by decide +kernel
theorem dX10_isPupil_6 : decode cX10_isPupil 6 = .ok (.getfield 119, 3) := by decide +kernel
theorem dX10_isPupil_9 : decode cX10_isPupil 9 = .ok (.getfield 123, 3) := by decide +kernel
theorem dX10_isPupil_12 : decode cX10_isPupil 12 = .ok (.iconst 1, 1) := by decide +kernel
theorem dX10_isPupil_13 : decode cX10_isPupil 13 = .ok (.isub, 1) := by decide +kernel
theorem dX10_isPupil_14 : decode cX10_isPupil 14 = .ok (.invokestatic 89, 3) := by decide +kernel
theorem dX10_isPupil_17 : decode cX10_isPupil 17 = .ok (.ireturn, 1) := by decide +kernel
set_option maxRecDepth 20000 in
theorem ggX10_isCourse_X10_isWithin : GoodIn wsX10_isCourse wsX10_isWithin := goodIn_r _ [7] (by decide +kernel) (by decide +kernel)
set_option maxRecDepth 20000 in
theorem gX10_isCourse_X10_isWithin : GoodIn wsX10_isCourse (va_wsS RX10 89 yX10_isWithin wsX10_isWithin) := goodIn_app (goodIn_of _ (by decide +kernel)) ggX10_isCourse_X10_isWithin
theorem dX10_isCourse_0 : decode cX10_isCourse 0 = .ok (.iload_n 1, 1) := by decide +kernel
theorem dX10_isCourse_1 : decode cX10_isCourse 1 = .ok (.iconst 0, 1) := by decide +kernel
theorem dX10_isCourse_2 : decode cX10_isCourse 2 = .ok (.aload_n 0, 1) := by decide +kernel
theorem dX10_isCourse_3 : decode cX10_isCourse 3 = .ok (.getfield 30, 3) := by decide +kernel
theorem dX10_isCourse_6 : decode cX10_isCourse 6 = .ok (.getfield 97, 3) := by decide +kernel
theorem dX10_isCourse_9 : decode cX10_isCourse 9 = .ok (.getfield 101, 3) := by decide +kernel
theorem dX10_isCourse_12 : decode cX10_isCourse 12 = .ok (.iconst 1, 1) := by decide +kernel
theorem dX10_isCourse_13 : decode cX10_isCourse 13 = .ok (.isub, 1) := by decide +kernel
theorem dX10_isCourse_14 : decode cX10_isCourse 14 = .ok (.invokestatic 89, 3) := by decide +kernel
theorem dX10_isCourse_17 : decode cX10_isCourse 17 = .ok (.ireturn, 1) := by decide +kernel
theorem dX10_putOnTape_0 : decode cX10_putOnTape 0 = .ok (.bipush 24, 2) := by decide +kernel
theorem dX10_putOnTape_2 : decode cX10_putOnTape 2 = .ok (.istore_n 2, 1) := by decide +kernel
theorem dX10_putOnTape_3 : decode cX10_putOnTape 3 = .ok (.iload_n 2, 1) := by decide +kernel
theorem dX10_putOnTape_4 : decode cX10_putOnTape 4 = .ok (.ifCond .lt 32, 3) := by decide +kernel
theorem dX10_putOnTape_7 : decode cX10_putOnTape 7 = .ok (.aload_n 0, 1) := by decide +kernel
theorem dX10_putOnTape_8 : decode cX10_putOnTape 8 = .ok (.getfield 9, 3) := by decide +kernel
theorem dX10_putOnTape_11 : decode cX10_putOnTape 11 = .ok (.aload_n 0, 1) := by decide +kernel
