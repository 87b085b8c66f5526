theorem dX0_init_0 : decode cX0_init 0 = .ok (.aload_n 0, 1) := by decide +kernel
theorem dX0_init_1 : decode cX0_init 1 = .ok (.invokespecial 3, 3) := by decide +kernel
theorem dX0_init_4 : decode cX0_init 4 = .ok (.aload_n 0, 1) := by decide +kernel
theorem dX0_init_5 : decode cX0_init 5 = .ok (.bipush 10, 2) := by decide +kernel
theorem dX0_init_7 : decode cX0_init 7 = .ok (.newarray .int, 2) := by decide +kernel
theorem dX0_init_9 : decode cX0_init 9 = .ok (.putfield 9, 3) := by decide +kernel
theorem dX0_init_12 : decode cX0_init 12 = .ok (.aload_n 0, 1) := by decide +kernel
theorem dX0_init_13 : decode cX0_init 13 = .ok (.bipush 10, 2) := by decide +kernel
theorem dX0_init_15 : decode cX0_init 15 = .ok (.newarray .int, 2) := by decide +kernel
theorem dX0_init_17 : decode cX0_init 17 = .ok (.putfield 15, 3) := by decide +kernel
theorem dX0_init_20 : decode cX0_init 20 = .ok (.aload_n 0, 1) := by decide +kernel
theorem dX0_init_21 : decode cX0_init 21 = .ok (.bipush 10, 2) := by decide +kernel
theorem dX0_init_23 : decode cX0_init 23 = .ok (.newarray .int, 2) := by decide +kernel
theorem dX0_init_25 : decode cX0_init 25 = .ok (.putfield 18, 3) := by decide +kernel
theorem dX0_init_28 : decode cX0_init 28 = .ok (.aload_n 0, 1) := by decide +kernel
theorem dX0_init_29 : decode cX0_init 29 = .ok (.bipush 10, 2) := by decide +kernel
theorem dX0_init_31 : decode cX0_init 31 = .ok (.newarray .int, 2) := by decide +kernel
theorem dX0_init_33 : decode cX0_init 33 = .ok (.putfield 21, 3) := by decide +kernel
theorem dX0_init_36 : decode cX0_init 36 = .ok (.aload_n 0, 1) := by decide +kernel
theorem dX0_init_37 : decode cX0_init 37 = .ok (.bipush 10, 2) := by decide +kernel
theorem dX0_init_39 : decode cX0_init 39 = .ok (.newarray .int, 2) := by decide +kernel
theorem dX0_init_41 : decode cX0_init 41 = .ok (.putfield 24, 3) := by decide +kernel
theorem dX0_init_44 : decode cX0_init 44 = .ok (.return_, 1) := by decide +kernel
theorem dX0_copyFrom_0 : decode cX0_copyFrom 0 = .ok (.aload_n 0, 1) := by decide +kernel
theorem dX0_copyFrom_1 : decode cX0_copyFrom 1 = .ok (.aload_n 1, 1) := by decide +kernel
theorem dX0_copyFrom_2 : decode cX0_copyFrom 2 = .ok (.getfield 27, 3) := by decide +kernel
theorem dX0_copyFrom_5 : decode cX0_copyFrom 5 = .ok (.putfield 27, 3) := by decide +kernel
theorem dX0_copyFrom_8 : decode cX0_copyFrom 8 = .ok (.aload_n 1, 1) := by decide +kernel
theorem dX0_copyFrom_9 : decode cX0_copyFrom 9 = .ok (.getfield 9, 3) := by decide +kernel
theorem dX0_copyFrom_12 : decode cX0_copyFrom 12 = .ok (.iconst 0, 1) := by decide +kernel
theorem dX0_copyFrom_13 : decode cX0_copyFrom 13 = .ok (.aload_n 0, 1) := by decide +kernel
theorem dX0_copyFrom_14 : decode cX0_copyFrom 14 = .ok (.getfield 9, 3) := by decide +kernel
theorem dX0_copyFrom_17 : decode cX0_copyFrom 17 = .ok (.iconst 0, 1) := by decide +kernel
theorem dX0_copyFrom_18 : decode cX0_copyFrom 18 = .ok (.bipush 10, 2) := by decide +kernel
theorem dX0_copyFrom_20 : decode cX0_copyFrom 20 = .ok (.invokestatic 31, 3) := by decide +kernel
theorem dX0_copyFrom_23 : decode cX0_copyFrom 23 = .ok (.aload_n 1, 1) := by decide +kernel
theorem dX0_copyFrom_24 : decode cX0_copyFrom 24 = .ok (.getfield 15, 3) := by decide +kernel
theorem dX0_copyFrom_27 : decode cX0_copyFrom 27 = .ok (.iconst 0, 1) := by decide +kernel
theorem dX0_copyFrom_28 : decode cX0_copyFrom 28 = .ok (.aload_n 0, 1) := by decide +kernel
theorem dX0_copyFrom_29 : decode cX0_copyFrom 29 = .ok (.getfield 15, 3) := by decide +kernel
theorem dX0_copyFrom_32 : decode cX0_copyFrom 32 = .ok (.iconst 0, 1) := by decide +kernel
theorem dX0_copyFrom_33 : decode cX0_copyFrom 33 = .ok (.bipush 10, 2) := by decide +kernel
theorem dX0_copyFrom_35 : decode cX0_copyFrom 35 = .ok (.invokestatic 31, 3) := by decide +kernel
theorem dX0_copyFrom_38 : decode cX0_copyFrom 38 = .ok (.aload_n 1, 1) := by decide +kernel
theorem dX0_copyFrom_39 : decode cX0_copyFrom 39 = .ok (.getfield 18, 3) := by decide +kernel
theorem dX0_copyFrom_42 : decode cX0_copyFrom 42 = .ok (.iconst 0, 1) := by decide +kernel
theorem dX0_copyFrom_43 : decode cX0_copyFrom 43 = .ok (.aload_n 0, 1) := by decide +kernel
theorem dX0_copyFrom_44 : decode cX0_copyFrom 44 = .ok (.getfield 18, 3) := by decide +kernel
theorem dX0_copyFrom_47 : decode cX0_copyFrom 47 = .ok (.iconst 0, 1) := by decide +kernel
theorem dX0_copyFrom_48 : decode cX0_copyFrom 48 = .ok (.bipush 10, 2) := by decide +kernel
theorem dX0_copyFrom_50 : decode cX0_copyFrom 50 = .ok (.invokestatic 31, 3) := by decide +kernel
theorem dX0_copyFrom_53 : decode cX0_copyFrom 53 = .ok (.aload_n 1, 1) := by decide +kernel
theorem dX0_copyFrom_54 : decode cX0_copyFrom 54 = .ok (.getfield 21, 3) := by decide +kernel
theorem dX0_copyFrom_57 : decode cX0_copyFrom 57 = .ok (.iconst 0, 1) := by decide +kernel
theorem dX0_copyFrom_58 : decode cX0_copyFrom 58 = .ok (.aload_n 0, 1) := by decide +kernel
theorem dX0_copyFrom_59 : decode cX0_copyFrom 59 = .ok (.getfield 21, 3) := by decide +kernel
theorem dX0_copyFrom_62 : decode cX0_copyFrom 62 = .ok (.iconst 0, 1) := by decide +kernel
theorem dX0_copyFrom_63 : decode cX0_copyFrom 63 = .ok (.bipush 10, 2) := by decide +kernel
theorem dX0_copyFrom_65 : decode cX0_copyFrom 65 = .ok (.invokestatic 31, 3) := by decide +kernel
theorem dX0_copyFrom_68 : decode cX0_copyFrom 68 = .ok (.aload_n 1, 1) := by decide +kernel
theorem dX0_copyFrom_69 : decode cX0_copyFrom 69 = .ok (.getfield 24, 3) := by decide +kernel
theorem dX0_copyFrom_72 : decode cX0_copyFrom 72 = .ok (.iconst 0, 1) := by decide +kernel
theorem dX0_copyFrom_73 : decode cX0_copyFrom 73 = .ok (.aload_n 0, 1) := by decide +kernel
theorem dX0_copyFrom_74 : decode cX0_copyFrom 74 = .ok (.getfield 24, 3) := by decide +kernel
theorem dX0_copyFrom_77 : decode cX0_copyFrom 77 = .ok (.iconst 0, 1) := by decide +kernel
theorem dX0_copyFrom_78 : decode cX0_copyFrom 78 = .ok (.bipush 10, 2) := by decide +kernel
theorem dX0_copyFrom_80 : decode cX0_copyFrom 80 = .ok (.invokestatic 31, 3) := by decide +kernel
theorem dX0_copyFrom_83 : decode cX0_copyFrom 83 = .ok (.return_, 1) := by decide +kernel
set_option maxRecDepth 20000 in
theorem ggX1_init_X9_init : GoodIn wsX1_init wsX9_init := goodIn_r _ [15, 16, 2, 3, 17, 18, 19, 20, 31, 32, 33, 34] (by decide +kernel) (by decide +kernel)
set_option maxRecDepth 20000 in
theorem gX1_init_X9_init_n11 : GoodIn wsX1_init (wsX9_init) := ggX1_init_X9_init
set_option maxRecDepth 20000 in
theorem ggX1_init_X2_init : GoodIn wsX1_init wsX2_init := goodIn_r _ [22, 23, 2, 3, 17, 24, 25, 26, 27, 28, 29, 30, 40, 41, 42, 43, 44, 45, 46, 47] (by decide +kernel) (by decide +kernel)
set_option maxRecDepth 20000 in
theorem gX1_init_X2_init_n20 : GoodIn wsX1_init (wsX2_init) := ggX1_init_X2_init
theorem dX1_init_0 : decode cX1_init 0 = .ok (.aload_n 0, 1) := by decide +kernel
theorem dX1_init_1 : decode cX1_init 1 = .ok (.invokespecial 3, 3) := by decide +kernel
theorem dX1_init_4 : decode cX1_init 4 = .ok (.aload_n 0, 1) := by decide +kernel
theorem dX1_init_5 : decode cX1_init 5 = .ok (.new 9, 3) := by decide +kernel
theorem dX1_init_8 : decode cX1_init 8 = .ok (.dup, 1) := by decide +kernel
theorem dX1_init_9 : decode cX1_init 9 = .ok (.invokespecial 11, 3) := by decide +kernel
theorem dX1_init_12 : decode cX1_init 12 = .ok (.putfield 12, 3) := by decide +kernel
theorem dX1_init_15 : decode cX1_init 15 = .ok (.aload_n 0, 1) := by decide +kernel
theorem dX1_init_16 : decode cX1_init 16 = .ok (.new 18, 3) := by decide +kernel
theorem dX1_init_19 : decode cX1_init 19 = .ok (.dup, 1) := by decide +kernel
theorem dX1_init_20 : decode cX1_init 20 = .ok (.invokespecial 20, 3) := by decide +kernel
theorem dX1_init_23 : decode cX1_init 23 = .ok (.putfield 21, 3) := by decide +kernel
theorem dX1_init_26 : decode cX1_init 26 = .ok (.aload_n 0, 1) := by decide +kernel
theorem dX1_init_27 : decode cX1_init 27 = .ok (.iconst 0, 1) := by decide +kernel
theorem dX1_init_28 : decode cX1_init 28 = .ok (.putfield 25, 3) := by decide +kernel
theorem dX1_init_31 : decode cX1_init 31 = .ok (.aload_n 0, 1) := by decide +kernel
theorem dX1_init_32 : decode cX1_init 32 = .ok (.iconst (-1), 1) := by decide +kernel
theorem dX1_init_33 : decode cX1_init 33 = .ok (.putfield 29, 3) := by decide +kernel
theorem dX1_init_36 : decode cX1_init 36 = .ok (.return_, 1) := by decide +kernel
set_option maxRecDepth 20000 in
theorem ggX1_readText_X9_scan : GoodIn wsX1_readText wsX9_scan := goodIn_r _ [11, 12, 13, 14, 10, 15, 16, 17, 18, 19, 20, 21, 22, 23, 24, 25, 26, 27, 28, 29, 30, 31, 32, 33, 34, 35, 36, 37, 38, 39, 40, 41, 42, 43, 44, 45, 46, 47, 48, 49, 50, 51, 52, 53, 54, 55, 56, 57, 58, 59, 60, 61, 62, 63, 64, 65, 66, 67, 68, 69, 70, 71, 72, 73, 74, 75, 76, 77, 78, 79, 80, 81, 82, 83, 84, 85, 86, 87, 88, 89, 90, 91, 167, 168, 169, 170] (by decide +kernel) (by decide +kernel)
set_option maxRecDepth 20000 in
theorem gX1_readText_X9_scan : GoodIn wsX1_readText (wsV RX1 32 RX9 yX9_scan wsX9_scan) := goodIn_app (goodIn_of _ (by decide +kernel)) ggX1_readText_X9_scan
set_option maxRecDepth 20000 in
theorem ggX1_readText_X1_kindHere : GoodIn wsX1_readText wsX1_kindHere := goodIn_r _ [96, 4, 1, 97, 98, 154, 155, 156, 157, 158, 167, 168, 169, 170] (by decide +kernel) (by decide +kernel)
set_option maxRecDepth 20000 in
theorem gX1_readText_X1_kindHere : GoodIn wsX1_readText (wsV RX1 42 RX1 yX1_kindHere wsX1_kindHere) := goodIn_app (goodIn_of _ (by decide +kernel)) ggX1_readText_X1_kindHere
set_option maxRecDepth 20000 in
theorem ggX1_readText_X1_readLine : GoodIn wsX1_readText wsX1_readLine := goodIn_r _ [102, 5, 103, 104, 105, 95, 106, 2, 3, 107, 108, 109, 110, 4, 1, 97, 111, 112, 113, 114, 115, 116, 117, 118, 119, 120, 121, 92, 93, 94, 96, 98, 122, 123, 124, 125, 126, 127, 128, 129, 130, 131, 132, 133, 134, 135, 136, 137, 138, 139, 140, 141, 142, 143, 144, 145, 146, 147, 148, 149, 150, 151, 152, 153, 154, 155, 156, 157, 158, 167, 168, 169, 170, 159, 160, 161, 162, 163, 164, 165, 166] (by decide +kernel) (by decide +kernel)
set_option maxRecDepth 20000 in
theorem gX1_readText_X1_readLine : GoodIn wsX1_readText (wsV RX1 46 RX1 yX1_readLine wsX1_readLine) := goodIn_app (goodIn_of _ (by decide +kernel)) ggX1_readText_X1_readLine
set_option maxRecDepth 20000 in
theorem ggX1_readText_X1_placeHere : GoodIn wsX1_readText wsX1_placeHere := goodIn_r _ [110, 4, 1, 97, 111, 154, 155, 156, 157, 158, 167, 168, 169, 170] (by decide +kernel) (by decide +kernel)
set_option maxRecDepth 20000 in
theorem gX1_readText_X1_placeHere : GoodIn wsX1_readText (wsV RX1 50 RX1 yX1_placeHere wsX1_placeHere) := goodIn_app (goodIn_of _ (by decide +kernel)) ggX1_readText_X1_placeHere
theorem dX1_readText_0 : decode cX1_readText 0 = .ok (.aload_n 0, 1) := by decide +kernel
theorem dX1_readText_1 : decode cX1_readText 1 = .ok (.getfield 12, 3) := by decide +kernel
theorem dX1_readText_4 : decode cX1_readText 4 = .ok (.aload_n 1, 1) := by decide +kernel
theorem dX1_readText_5 : decode cX1_readText 5 = .ok (.iload_n 2, 1) := by decide +kernel
theorem dX1_readText_6 : decode cX1_readText 6 = .ok (.invokevirtual 32, 3) := by decide +kernel
theorem dX1_readText_9 : decode cX1_readText 9 = .ok (.aload_n 0, 1) := by decide +kernel
theorem dX1_readText_10 : decode cX1_readText 10 = .ok (.iconst 0, 1) := by decide +kernel
theorem dX1_readText_11 : decode cX1_readText 11 = .ok (.putfield 25, 3) := by decide +kernel
theorem dX1_readText_14 : decode cX1_readText 14 = .ok (.aload_n 0, 1) := by decide +kernel
theorem dX1_readText_15 : decode cX1_readText 15 = .ok (.iconst (-1), 1) := by decide +kernel
theorem dX1_readText_16 : decode cX1_readText 16 = .ok (.putfield 29, 3) := by decide +kernel
theorem dX1_readText_19 : decode cX1_readText 19 = .ok (.aload_n 0, 1) := by decide +kernel
theorem dX1_readText_20 : decode cX1_readText 20 = .ok (.iconst 0, 1) := by decide +kernel
theorem dX1_readText_21 : decode cX1_readText 21 = .ok (.putfield 36, 3) := by decide +kernel
theorem dX1_readText_24 : decode cX1_readText 24 = .ok (.aload_n 0, 1) := by decide +kernel
theorem dX1_readText_25 : decode cX1_readText 25 = .ok (.getfield 21, 3) := by decide +kernel
theorem dX1_readText_28 : decode cX1_readText 28 = .ok (.iconst 0, 1) := by decide +kernel
theorem dX1_readText_29 : decode cX1_readText 29 = .ok (.putfield 39, 3) := by decide +kernel
theorem dX1_readText_32 : decode cX1_readText 32 = .ok (.iconst 1, 1) := by decide +kernel
theorem dX1_readText_33 : decode cX1_readText 33 = .ok (.istore_n 3, 1) := by decide +kernel
theorem dX1_readText_34 : decode cX1_readText 34 = .ok (.iconst 0, 1) := by decide +kernel
theorem dX1_readText_35 : decode cX1_readText 35 = .ok (.istore 4, 2) := by decide +kernel
theorem dX1_readText_37 : decode cX1_readText 37 = .ok (.iload_n 3, 1) := by decide +kernel
theorem dX1_readText_38 : decode cX1_readText 38 = .ok (.ifCond .eq 31, 3) := by decide +kernel
theorem dX1_readText_41 : decode cX1_readText 41 = .ok (.iload 4, 2) := by decide +kernel
theorem dX1_readText_43 : decode cX1_readText 43 = .ok (.sipush 500, 3) := by decide +kernel
theorem dX1_readText_46 : decode cX1_readText 46 = .ok (.if_icmp .ge 23, 3) := by decide +kernel
theorem dX1_readText_49 : decode cX1_readText 49 = .ok (.aload_n 0, 1) := by decide +kernel
theorem dX1_readText_50 : decode cX1_readText 50 = .ok (.invokevirtual 42, 3) := by decide +kernel
theorem dX1_readText_53 : decode cX1_readText 53 = .ok (.ifCond .eq 16, 3) := by decide +kernel
theorem dX1_readText_56 : decode cX1_readText 56 = .ok (.aload_n 0, 1) := by decide +kernel
theorem dX1_readText_57 : decode cX1_readText 57 = .ok (.iload 4, 2) := by decide +kernel
theorem dX1_readText_59 : decode cX1_readText 59 = .ok (.invokevirtual 46, 3) := by decide +kernel
theorem dX1_readText_62 : decode cX1_readText 62 = .ok (.istore_n 3, 1) := by decide +kernel
theorem dX1_readText_63 : decode cX1_readText 63 = .ok (.iinc 4 1, 3) := by decide +kernel
theorem dX1_readText_66 : decode cX1_readText 66 = .ok (.goto (-29), 3) := by decide +kernel
theorem dX1_readText_69 : decode cX1_readText 69 = .ok (.iload_n 3, 1) := by decide +kernel
theorem dX1_readText_70 : decode cX1_readText 70 = .ok (.ifCond .ne 16, 3) := by decide +kernel
theorem dX1_readText_73 : decode cX1_readText 73 = .ok (.aload_n 0, 1) := by decide +kernel
theorem dX1_readText_74 : decode cX1_readText 74 = .ok (.iconst 1, 1) := by decide +kernel
theorem dX1_readText_75 : decode cX1_readText 75 = .ok (.putfield 25, 3) := by decide +kernel
theorem dX1_readText_78 : decode cX1_readText 78 = .ok (.aload_n 0, 1) := by decide +kernel
theorem dX1_readText_79 : decode cX1_readText 79 = .ok (.aload_n 0, 1) := by decide +kernel
theorem dX1_readText_80 : decode cX1_readText 80 = .ok (.invokevirtual 50, 3) := by decide +kernel
theorem dX1_readText_83 : decode cX1_readText 83 = .ok (.putfield 29, 3) := by decide +kernel
theorem dX1_readText_86 : decode cX1_readText 86 = .ok (.aload_n 0, 1) := by decide +kernel
theorem dX1_readText_87 : decode cX1_readText 87 = .ok (.getfield 25, 3) := by decide +kernel
theorem dX1_readText_90 : decode cX1_readText 90 = .ok (.ifCond .ne 7, 3) := by decide +kernel
theorem dX1_readText_93 : decode cX1_readText 93 = .ok (.iconst 1, 1) := by decide +kernel
theorem dX1_readText_94 : decode cX1_readText 94 = .ok (.goto 4, 3) := by decide +kernel
theorem dX1_readText_97 : decode cX1_readText 97 = .ok (.iconst 0, 1) := by decide +kernel
theorem dX1_readText_98 : decode cX1_readText 98 = .ok (.ireturn, 1) := by decide +kernel
set_option maxRecDepth 20000 in
theorem ggX1_readLine_X1_noteFault : GoodIn wsX1_readLine wsX1_noteFault := goodIn_r _ [6, 7, 8, 9, 10, 11, 5, 12, 13, 14, 15, 16, 64, 65, 66, 67, 68, 69, 70, 71, 72] (by decide +kernel) (by decide +kernel)
set_option maxRecDepth 20000 in
theorem gX1_readLine_X1_noteFault : GoodIn wsX1_readLine (wsV RX1 53 RX1 yX1_noteFault wsX1_noteFault) := goodIn_app (goodIn_of _ (by decide +kernel)) ggX1_readLine_X1_noteFault
set_option maxRecDepth 20000 in
theorem ggX1_readLine_X2_startLine : GoodIn wsX1_readLine wsX2_startLine := goodIn_r _ [21, 22, 73, 74, 75, 76, 77, 78, 79, 80] (by decide +kernel) (by decide +kernel)
set_option maxRecDepth 20000 in
theorem gX1_readLine_X2_startLine : GoodIn wsX1_readLine (wsV RX1 57 RX2 yX2_startLine wsX2_startLine) := goodIn_app (goodIn_of _ (by decide +kernel)) ggX1_readLine_X2_startLine
set_option maxRecDepth 20000 in
theorem ggX1_readLine_X1_pass : GoodIn wsX1_readLine wsX1_pass := goodIn_r _ [26, 13, 27, 28, 29, 5, 30, 14, 15, 31, 64, 65, 66, 67, 68, 69, 70, 71, 72] (by decide +kernel) (by decide +kernel)
set_option maxRecDepth 20000 in
theorem gX1_readLine_X1_pass : GoodIn wsX1_readLine (wsV RX1 60 RX1 yX1_pass wsX1_pass) := goodIn_app (goodIn_of _ (by decide +kernel)) ggX1_readLine_X1_pass
set_option maxRecDepth 20000 in
theorem ggX1_readLine_X1_readTests : GoodIn wsX1_readLine wsX1_readTests := goodIn_r _ [35, 2, 3, 4, 5, 6, 7, 8, 9, 10, 11, 12, 13, 14, 15, 16, 36, 37, 38, 39, 1, 27, 28, 29, 30, 31, 40, 41, 42, 43, 44, 23, 24, 25, 26, 45, 46, 47, 20, 48, 49, 50, 51, 22, 64, 65, 66, 67, 68, 69, 70, 71, 72, 73, 74, 75, 76, 77, 78, 79, 80] (by decide +kernel) (by decide +kernel)
set_option maxRecDepth 20000 in
theorem gX1_readLine_X1_readTests : GoodIn wsX1_readLine (wsV RX1 63 RX1 yX1_readTests wsX1_readTests) := goodIn_app (goodIn_of _ (by decide +kernel)) ggX1_readLine_X1_readTests
set_option maxRecDepth 20000 in
theorem ggX1_readLine_X1_readAct : GoodIn wsX1_readLine wsX1_readAct := goodIn_r _ [55, 13, 1, 27, 28, 29, 5, 30, 14, 15, 31, 40, 41, 42, 43, 44, 23, 24, 25, 26, 2, 3, 4, 6, 7, 8, 9, 10, 11, 12, 16, 56, 57, 58, 20, 59, 60, 61, 62, 63, 64, 65, 66, 67, 68, 69, 70, 71, 72, 73, 74, 75, 76, 77, 78, 79, 80] (by decide +kernel) (by decide +kernel)
set_option maxRecDepth 20000 in
theorem gX1_readLine_X1_readAct : GoodIn wsX1_readLine (wsV RX1 66 RX1 yX1_readAct wsX1_readAct) := goodIn_app (goodIn_of _ (by decide +kernel)) ggX1_readLine_X1_readAct
theorem dX1_readLine_0 : decode cX1_readLine 0 = .ok (.iload_n 1, 1) := by decide +kernel
theorem dX1_readLine_1 : decode cX1_readLine 1 = .ok (.bipush 16, 2) := by decide +kernel
theorem dX1_readLine_3 : decode cX1_readLine 3 = .ok (.if_icmp .ne 8, 3) := by decide +kernel
theorem dX1_readLine_6 : decode cX1_readLine 6 = .ok (.aload_n 0, 1) := by decide +kernel
theorem dX1_readLine_7 : decode cX1_readLine 7 = .ok (.iconst 3, 1) := by decide +kernel
theorem dX1_readLine_8 : decode cX1_readLine 8 = .ok (.invokevirtual 53, 3) := by decide +kernel
theorem dX1_readLine_11 : decode cX1_readLine 11 = .ok (.aload_n 0, 1) := by decide +kernel
theorem dX1_readLine_12 : decode cX1_readLine 12 = .ok (.getfield 21, 3) := by decide +kernel
theorem dX1_readLine_15 : decode cX1_readLine 15 = .ok (.iload_n 1, 1) := by decide +kernel
theorem dX1_readLine_16 : decode cX1_readLine 16 = .ok (.invokevirtual 57, 3) := by decide +kernel
theorem dX1_readLine_19 : decode cX1_readLine 19 = .ok (.aload_n 0, 1) := by decide +kernel
theorem dX1_readLine_20 : decode cX1_readLine 20 = .ok (.sipush 201, 3) := by decide +kernel
theorem dX1_readLine_23 : decode cX1_readLine 23 = .ok (.invokevirtual 60, 3) := by decide +kernel
theorem dX1_readLine_26 : decode cX1_readLine 26 = .ok (.ifCond .eq 13, 3) := by decide +kernel
theorem dX1_readLine_29 : decode cX1_readLine 29 = .ok (.aload_n 0, 1) := by decide +kernel
theorem dX1_readLine_30 : decode cX1_readLine 30 = .ok (.iload_n 1, 1) := by decide +kernel
theorem dX1_readLine_31 : decode cX1_readLine 31 = .ok (.invokevirtual 63, 3) := by decide +kernel
theorem dX1_readLine_34 : decode cX1_readLine 34 = .ok (.ifCond .ne 5, 3) := by decide +kernel
theorem dX1_readLine_37 : decode cX1_readLine 37 = .ok (.iconst 0, 1) := by decide +kernel
theorem dX1_readLine_38 : decode cX1_readLine 38 = .ok (.ireturn, 1) := by decide +kernel
theorem dX1_readLine_39 : decode cX1_readLine 39 = .ok (.aload_n 0, 1) := by decide +kernel
theorem dX1_readLine_40 : decode cX1_readLine 40 = .ok (.iload_n 1, 1) := by decide +kernel
theorem dX1_readLine_41 : decode cX1_readLine 41 = .ok (.invokevirtual 66, 3) := by decide +kernel
theorem dX1_readLine_44 : decode cX1_readLine 44 = .ok (.ifCond .eq 16, 3) := by decide +kernel
theorem dX1_readLine_47 : decode cX1_readLine 47 = .ok (.aload_n 0, 1) := by decide +kernel
theorem dX1_readLine_48 : decode cX1_readLine 48 = .ok (.bipush 59, 2) := by decide +kernel
theorem dX1_readLine_50 : decode cX1_readLine 50 = .ok (.invokevirtual 60, 3) := by decide +kernel
theorem dX1_readLine_53 : decode cX1_readLine 53 = .ok (.ifCond .eq 7, 3) := by decide +kernel
theorem dX1_readLine_56 : decode cX1_readLine 56 = .ok (.iconst 1, 1) := by decide +kernel
theorem dX1_readLine_57 : decode cX1_readLine 57 = .ok (.goto 4, 3) := by decide +kernel
theorem dX1_readLine_60 : decode cX1_readLine 60 = .ok (.iconst 0, 1) := by decide +kernel
theorem dX1_readLine_61 : decode cX1_readLine 61 = .ok (.ireturn, 1) := by decide +kernel
set_option maxRecDepth 20000 in
theorem ggX1_readTests_X1_noteFault : GoodIn wsX1_readTests wsX1_noteFault := goodIn_r _ [5, 6, 7, 8, 9, 10, 4, 11, 12, 13, 14, 15, 44, 45, 46, 47, 48, 49, 50, 51, 52] (by decide +kernel) (by decide +kernel)
set_option maxRecDepth 20000 in
theorem gX1_readTests_X1_noteFault : GoodIn wsX1_readTests (wsV RX1 53 RX1 yX1_noteFault wsX1_noteFault) := goodIn_app (goodIn_of _ (by decide +kernel)) ggX1_readTests_X1_noteFault
set_option maxRecDepth 20000 in
theorem ggX1_readTests_X1_readTest : GoodIn wsX1_readTests wsX1_readTest := goodIn_r _ [19, 12, 20, 21, 22, 23, 4, 24, 13, 14, 25, 26, 27, 28, 29, 30, 31, 32, 33, 34, 35, 36, 37, 38, 39, 40, 41, 42, 43, 44, 45, 46, 47, 48, 49, 50, 51, 52, 53, 54, 55, 56, 57, 58, 59, 60] (by decide +kernel) (by decide +kernel)
set_option maxRecDepth 20000 in
theorem gX1_readTests_X1_readTest : GoodIn wsX1_readTests (wsV RX1 69 RX1 yX1_readTest wsX1_readTest) := goodIn_app (goodIn_of _ (by decide +kernel)) ggX1_readTests_X1_readTest
set_option maxRecDepth 20000 in
theorem ggX1_readTests_X1_pass : GoodIn wsX1_readTests wsX1_pass := goodIn_r _ [34, 12, 21, 22, 23, 4, 24, 13, 14, 25, 44, 45, 46, 47, 48, 49, 50, 51, 52] (by decide +kernel) (by decide +kernel)
set_option maxRecDepth 20000 in
theorem gX1_readTests_X1_pass : GoodIn wsX1_readTests (wsV RX1 60 RX1 yX1_pass wsX1_pass) := goodIn_app (goodIn_of _ (by decide +kernel)) ggX1_readTests_X1_pass
theorem dX1_readTests_0 : decode cX1_readTests 0 = .ok (.iconst 1, 1) := by decide +kernel
theorem dX1_readTests_1 : decode cX1_readTests 1 = .ok (.istore_n 2, 1) := by decide +kernel
theorem dX1_readTests_2 : decode cX1_readTests 2 = .ok (.iconst 0, 1) := by decide +kernel
theorem dX1_readTests_3 : decode cX1_readTests 3 = .ok (.istore_n 3, 1) := by decide +kernel
theorem dX1_readTests_4 : decode cX1_readTests 4 = .ok (.iload_n 2, 1) := by decide +kernel
theorem dX1_readTests_5 : decode cX1_readTests 5 = .ok (.ifCond .eq 45, 3) := by decide +kernel
theorem dX1_readTests_8 : decode cX1_readTests 8 = .ok (.iload_n 3, 1) := by decide +kernel
theorem dX1_readTests_9 : decode cX1_readTests 9 = .ok (.sipush 500, 3) := by decide +kernel
theorem dX1_readTests_12 : decode cX1_readTests 12 = .ok (.if_icmp .ge 38, 3) := by decide +kernel
theorem dX1_readTests_15 : decode cX1_readTests 15 = .ok (.iload_n 3, 1) := by decide +kernel
theorem dX1_readTests_16 : decode cX1_readTests 16 = .ok (.iconst 4, 1) := by decide +kernel
theorem dX1_readTests_17 : decode cX1_readTests 17 = .ok (.if_icmp .ne 8, 3) := by decide +kernel
theorem dX1_readTests_20 : decode cX1_readTests 20 = .ok (.aload_n 0, 1) := by decide +kernel
theorem dX1_readTests_21 : decode cX1_readTests 21 = .ok (.iconst 3, 1) := by decide +kernel
theorem dX1_readTests_22 : decode cX1_readTests 22 = .ok (.invokevirtual 53, 3) := by decide +kernel
theorem dX1_readTests_25 : decode cX1_readTests 25 = .ok (.aload_n 0, 1) := by decide +kernel
theorem dX1_readTests_26 : decode cX1_readTests 26 = .ok (.iload_n 1, 1) := by decide +kernel
theorem dX1_readTests_27 : decode cX1_readTests 27 = .ok (.iload_n 3, 1) := by decide +kernel
theorem dX1_readTests_28 : decode cX1_readTests 28 = .ok (.invokevirtual 69, 3) := by decide +kernel
theorem dX1_readTests_31 : decode cX1_readTests 31 = .ok (.ifCond .ne 5, 3) := by decide +kernel
theorem dX1_readTests_34 : decode cX1_readTests 34 = .ok (.iconst 0, 1) := by decide +kernel
theorem dX1_readTests_35 : decode cX1_readTests 35 = .ok (.ireturn, 1) := by decide +kernel
theorem dX1_readTests_36 : decode cX1_readTests 36 = .ok (.aload_n 0, 1) := by decide +kernel
theorem dX1_readTests_37 : decode cX1_readTests 37 = .ok (.sipush 202, 3) := by decide +kernel
theorem dX1_readTests_40 : decode cX1_readTests 40 = .ok (.invokevirtual 60, 3) := by decide +kernel
theorem dX1_readTests_43 : decode cX1_readTests 43 = .ok (.istore_n 2, 1) := by decide +kernel
theorem dX1_readTests_44 : decode cX1_readTests 44 = .ok (.iinc 3 1, 3) := by decide +kernel
theorem dX1_readTests_47 : decode cX1_readTests 47 = .ok (.goto (-43), 3) := by decide +kernel
theorem dX1_readTests_50 : decode cX1_readTests 50 = .ok (.aload_n 0, 1) := by decide +kernel
theorem dX1_readTests_51 : decode cX1_readTests 51 = .ok (.bipush 58, 2) := by decide +kernel
theorem dX1_readTests_53 : decode cX1_readTests 53 = .ok (.invokevirtual 60, 3) := by decide +kernel
theorem dX1_readTests_56 : decode cX1_readTests 56 = .ok (.ireturn, 1) := by decide +kernel
set_option maxRecDepth 20000 in
theorem ggX1_readTest_X1_kindHere : GoodIn wsX1_readTest wsX1_kindHere := goodIn_r _ [7, 1, 8, 9, 10, 29, 30, 31, 32, 33, 34, 35, 36, 37] (by decide +kernel) (by decide +kernel)
set_option maxRecDepth 20000 in
theorem gX1_readTest_X1_kindHere : GoodIn wsX1_readTest (wsV RX1 42 RX1 yX1_kindHere wsX1_kindHere) := goodIn_app (goodIn_of _ (by decide +kernel)) ggX1_readTest_X1_kindHere
set_option maxRecDepth 20000 in
theorem ggX1_readTest_X1_numberHere : GoodIn wsX1_readTest wsX1_numberHere := goodIn_r _ [14, 1, 8, 9, 15, 29, 30, 31, 32, 33, 34, 35, 36, 37] (by decide +kernel) (by decide +kernel)
set_option maxRecDepth 20000 in
theorem gX1_readTest_X1_numberHere : GoodIn wsX1_readTest (wsV RX1 73 RX1 yX1_numberHere wsX1_numberHere) := goodIn_app (goodIn_of _ (by decide +kernel)) ggX1_readTest_X1_numberHere
set_option maxRecDepth 20000 in
theorem ggX1_readTest_X1_pass : GoodIn wsX1_readTest wsX1_pass := goodIn_r _ [19, 1, 3, 4, 5, 6, 7, 8, 9, 10, 29, 30, 31, 32, 33, 34, 35, 36, 37] (by decide +kernel) (by decide +kernel)
set_option maxRecDepth 20000 in
theorem gX1_readTest_X1_pass : GoodIn wsX1_readTest (wsV RX1 60 RX1 yX1_pass wsX1_pass) := goodIn_app (goodIn_of _ (by decide +kernel)) ggX1_readTest_X1_pass
set_option maxRecDepth 20000 in
theorem ggX1_readTest_X2_setTest : GoodIn wsX1_readTest wsX2_setTest := goodIn_r _ [24, 25, 26, 27, 28, 38, 39, 40, 41, 42, 43, 44, 45] (by decide +kernel) (by decide +kernel)
set_option maxRecDepth 20000 in
theorem gX1_readTest_X2_setTest : GoodIn wsX1_readTest (wsV RX1 76 RX2 yX2_setTest wsX2_setTest) := goodIn_app (goodIn_of _ (by decide +kernel)) ggX1_readTest_X2_setTest
theorem dX1_readTest_0 : decode cX1_readTest 0 = .ok (.aload_n 0, 1) := by decide +kernel
theorem dX1_readTest_1 : decode cX1_readTest 1 = .ok (.invokevirtual 42, 3) := by decide +kernel
theorem dX1_readTest_4 : decode cX1_readTest 4 = .ok (.istore_n 3, 1) := by decide +kernel
theorem dX1_readTest_5 : decode cX1_readTest 5 = .ok (.iload_n 3, 1) := by decide +kernel
theorem dX1_readTest_6 : decode cX1_readTest 6 = .ok (.sipush 203, 3) := by decide +kernel
theorem dX1_readTest_9 : decode cX1_readTest 9 = .ok (.if_icmp .lt 10, 3) := by decide +kernel
theorem dX1_readTest_12 : decode cX1_readTest 12 = .ok (.iload_n 3, 1) := by decide +kernel
theorem dX1_readTest_13 : decode cX1_readTest 13 = .ok (.sipush 208, 3) := by decide +kernel
theorem dX1_readTest_16 : decode cX1_readTest 16 = .ok (.if_icmp .le 5, 3) := by decide +kernel
theorem dX1_readTest_19 : decode cX1_readTest 19 = .ok (.iconst 0, 1) := by decide +kernel
theorem dX1_readTest_20 : decode cX1_readTest 20 = .ok (.ireturn, 1) := by decide +kernel
theorem dX1_readTest_21 : decode cX1_readTest 21 = .ok (.aload_n 0, 1) := by decide +kernel
theorem dX1_readTest_22 : decode cX1_readTest 22 = .ok (.dup, 1) := by decide +kernel
theorem dX1_readTest_23 : decode cX1_readTest 23 = .ok (.getfield 36, 3) := by decide +kernel
theorem dX1_readTest_26 : decode cX1_readTest 26 = .ok (.iconst 1, 1) := by decide +kernel
theorem dX1_readTest_27 : decode cX1_readTest 27 = .ok (.iadd, 1) := by decide +kernel
theorem dX1_readTest_28 : decode cX1_readTest 28 = .ok (.putfield 36, 3) := by decide +kernel
theorem dX1_readTest_31 : decode cX1_readTest 31 = .ok (.aload_n 0, 1) := by decide +kernel
theorem dX1_readTest_32 : decode cX1_readTest 32 = .ok (.invokevirtual 42, 3) := by decide +kernel
theorem dX1_readTest_35 : decode cX1_readTest 35 = .ok (.istore 4, 2) := by decide +kernel
theorem dX1_readTest_37 : decode cX1_readTest 37 = .ok (.iload 4, 2) := by decide +kernel
theorem dX1_readTest_39 : decode cX1_readTest 39 = .ok (.bipush 60, 2) := by decide +kernel
theorem dX1_readTest_41 : decode cX1_readTest 41 = .ok (.if_icmp .eq 19, 3) := by decide +kernel
theorem dX1_readTest_44 : decode cX1_readTest 44 = .ok (.iload 4, 2) := by decide +kernel
theorem dX1_readTest_46 : decode cX1_readTest 46 = .ok (.bipush 62, 2) := by decide +kernel
theorem dX1_readTest_48 : decode cX1_readTest 48 = .ok (.if_icmp .eq 12, 3) := by decide +kernel
theorem dX1_readTest_51 : decode cX1_readTest 51 = .ok (.iload 4, 2) := by decide +kernel
theorem dX1_readTest_53 : decode cX1_readTest 53 = .ok (.bipush 61, 2) := by decide +kernel
theorem dX1_readTest_55 : decode cX1_readTest 55 = .ok (.if_icmp .eq 5, 3) := by decide +kernel
theorem dX1_readTest_58 : decode cX1_readTest 58 = .ok (.iconst 0, 1) := by decide +kernel
theorem dX1_readTest_59 : decode cX1_readTest 59 = .ok (.ireturn, 1) := by decide +kernel
theorem dX1_readTest_60 : decode cX1_readTest 60 = .ok (.aload_n 0, 1) := by decide +kernel
theorem dX1_readTest_61 : decode cX1_readTest 61 = .ok (.dup, 1) := by decide +kernel
theorem dX1_readTest_62 : decode cX1_readTest 62 = .ok (.getfield 36, 3) := by decide +kernel
theorem dX1_readTest_65 : decode cX1_readTest 65 = .ok (.iconst 1, 1) := by decide +kernel
theorem dX1_readTest_66 : decode cX1_readTest 66 = .ok (.iadd, 1) := by decide +kernel
theorem dX1_readTest_67 : decode cX1_readTest 67 = .ok (.putfield 36, 3) := by decide +kernel
theorem dX1_readTest_70 : decode cX1_readTest 70 = .ok (.aload_n 0, 1) := by decide +kernel
theorem dX1_readTest_71 : decode cX1_readTest 71 = .ok (.invokevirtual 73, 3) := by decide +kernel
theorem dX1_readTest_74 : decode cX1_readTest 74 = .ok (.istore 5, 2) := by decide +kernel
theorem dX1_readTest_76 : decode cX1_readTest 76 = .ok (.aload_n 0, 1) := by decide +kernel
theorem dX1_readTest_77 : decode cX1_readTest 77 = .ok (.iconst 2, 1) := by decide +kernel
theorem dX1_readTest_78 : decode cX1_readTest 78 = .ok (.invokevirtual 60, 3) := by decide +kernel
theorem dX1_readTest_81 : decode cX1_readTest 81 = .ok (.ifCond .ne 5, 3) := by decide +kernel
theorem dX1_readTest_84 : decode cX1_readTest 84 = .ok (.iconst 0, 1) := by decide +kernel
theorem dX1_readTest_85 : decode cX1_readTest 85 = .ok (.ireturn, 1) := by decide +kernel
theorem dX1_readTest_86 : decode cX1_readTest 86 = .ok (.aload_n 0, 1) := by decide +kernel
theorem dX1_readTest_87 : decode cX1_readTest 87 = .ok (.getfield 21, 3) := by decide +kernel
theorem dX1_readTest_90 : decode cX1_readTest 90 = .ok (.iload_n 1, 1) := by decide +kernel
theorem dX1_readTest_91 : decode cX1_readTest 91 = .ok (.iload_n 2, 1) := by decide +kernel
theorem dX1_readTest_92 : decode cX1_readTest 92 = .ok (.iload_n 3, 1) := by decide +kernel
theorem dX1_readTest_93 : decode cX1_readTest 93 = .ok (.iload 4, 2) := by decide +kernel
theorem dX1_readTest_95 : decode cX1_readTest 95 = .ok (.iload 5, 2) := by decide +kernel
theorem dX1_readTest_97 : decode cX1_readTest 97 = .ok (.invokevirtual 76, 3) := by decide +kernel
theorem dX1_readTest_100 : decode cX1_readTest 100 = .ok (.iconst 1, 1) := by decide +kernel
theorem dX1_readTest_101 : decode cX1_readTest 101 = .ok (.ireturn, 1) := by decide +kernel
set_option maxRecDepth 20000 in
theorem ggX1_readAct_X1_kindHere : GoodIn wsX1_readAct wsX1_kindHere := goodIn_r _ [7, 1, 8, 9, 10, 40, 41, 42, 43, 44, 45, 46, 47, 48] (by decide +kernel) (by decide +kernel)
set_option maxRecDepth 20000 in
theorem gX1_readAct_X1_kindHere : GoodIn wsX1_readAct (wsV RX1 42 RX1 yX1_kindHere wsX1_kindHere) := goodIn_app (goodIn_of _ (by decide +kernel)) ggX1_readAct_X1_kindHere
set_option maxRecDepth 20000 in
theorem ggX1_readAct_X1_numberHere : GoodIn wsX1_readAct wsX1_numberHere := goodIn_r _ [14, 1, 8, 9, 15, 40, 41, 42, 43, 44, 45, 46, 47, 48] (by decide +kernel) (by decide +kernel)
set_option maxRecDepth 20000 in
theorem gX1_readAct_X1_numberHere : GoodIn wsX1_readAct (wsV RX1 73 RX1 yX1_numberHere wsX1_numberHere) := goodIn_app (goodIn_of _ (by decide +kernel)) ggX1_readAct_X1_numberHere
set_option maxRecDepth 20000 in
theorem ggX1_readAct_X1_pass : GoodIn wsX1_readAct wsX1_pass := goodIn_r _ [19, 1, 3, 4, 5, 6, 7, 8, 9, 10, 40, 41, 42, 43, 44, 45, 46, 47, 48] (by decide +kernel) (by decide +kernel)
set_option maxRecDepth 20000 in
theorem gX1_readAct_X1_pass : GoodIn wsX1_readAct (wsV RX1 60 RX1 yX1_pass wsX1_pass) := goodIn_app (goodIn_of _ (by decide +kernel)) ggX1_readAct_X1_pass
set_option maxRecDepth 20000 in
theorem ggX1_readAct_X1_noteFault : GoodIn wsX1_readAct wsX1_noteFault := goodIn_r _ [23, 24, 25, 26, 27, 28, 6, 29, 1, 8, 9, 30, 40, 41, 42, 43, 44, 45, 46, 47, 48] (by decide +kernel) (by decide +kernel)
set_option maxRecDepth 20000 in
theorem gX1_readAct_X1_noteFault : GoodIn wsX1_readAct (wsV RX1 53 RX1 yX1_noteFault wsX1_noteFault) := goodIn_app (goodIn_of _ (by decide +kernel)) ggX1_readAct_X1_noteFault
set_option maxRecDepth 20000 in
theorem ggX1_readAct_X2_setAct : GoodIn wsX1_readAct wsX2_setAct := goodIn_r _ [35, 36, 37, 38, 39, 49, 50, 51, 52, 53, 54, 55, 56] (by decide +kernel) (by decide +kernel)
set_option maxRecDepth 20000 in
theorem gX1_readAct_X2_setAct : GoodIn wsX1_readAct (wsV RX1 80 RX2 yX2_setAct wsX2_setAct) := goodIn_app (goodIn_of _ (by decide +kernel)) ggX1_readAct_X2_setAct
theorem dX1_readAct_0 : decode cX1_readAct 0 = .ok (.aload_n 0, 1) := by decide +kernel
theorem dX1_readAct_1 : decode cX1_readAct 1 = .ok (.invokevirtual 42, 3) := by decide +kernel
theorem dX1_readAct_4 : decode cX1_readAct 4 = .ok (.istore_n 2, 1) := by decide +kernel
theorem dX1_readAct_5 : decode cX1_readAct 5 = .ok (.iload_n 2, 1) := by decide +kernel
theorem dX1_readAct_6 : decode cX1_readAct 6 = .ok (.sipush 209, 3) := by decide +kernel
theorem dX1_readAct_9 : decode cX1_readAct 9 = .ok (.if_icmp .lt 10, 3) := by decide +kernel
theorem dX1_readAct_12 : decode cX1_readAct 12 = .ok (.iload_n 2, 1) := by decide +kernel
theorem dX1_readAct_13 : decode cX1_readAct 13 = .ok (.sipush 215, 3) := by decide +kernel
theorem dX1_readAct_16 : decode cX1_readAct 16 = .ok (.if_icmp .le 5, 3) := by decide +kernel
theorem dX1_readAct_19 : decode cX1_readAct 19 = .ok (.iconst 0, 1) := by decide +kernel
theorem dX1_readAct_20 : decode cX1_readAct 20 = .ok (.ireturn, 1) := by decide +kernel
theorem dX1_readAct_21 : decode cX1_readAct 21 = .ok (.aload_n 0, 1) := by decide +kernel
theorem dX1_readAct_22 : decode cX1_readAct 22 = .ok (.dup, 1) := by decide +kernel
theorem dX1_readAct_23 : decode cX1_readAct 23 = .ok (.getfield 36, 3) := by decide +kernel
theorem dX1_readAct_26 : decode cX1_readAct 26 = .ok (.iconst 1, 1) := by decide +kernel
theorem dX1_readAct_27 : decode cX1_readAct 27 = .ok (.iadd, 1) := by decide +kernel
theorem dX1_readAct_28 : decode cX1_readAct 28 = .ok (.putfield 36, 3) := by decide +kernel
theorem dX1_readAct_31 : decode cX1_readAct 31 = .ok (.iconst 0, 1) := by decide +kernel
theorem dX1_readAct_32 : decode cX1_readAct 32 = .ok (.istore_n 3, 1) := by decide +kernel
theorem dX1_readAct_33 : decode cX1_readAct 33 = .ok (.iconst 0, 1) := by decide +kernel
theorem dX1_readAct_34 : decode cX1_readAct 34 = .ok (.istore 4, 2) := by decide +kernel
theorem dX1_readAct_36 : decode cX1_readAct 36 = .ok (.iload_n 2, 1) := by decide +kernel
theorem dX1_readAct_37 : decode cX1_readAct 37 = .ok (.sipush 214, 3) := by decide +kernel
theorem dX1_readAct_40 : decode cX1_readAct 40 = .ok (.if_icmp .eq 25, 3) := by decide +kernel
theorem dX1_readAct_43 : decode cX1_readAct 43 = .ok (.iload_n 2, 1) := by decide +kernel
theorem dX1_readAct_44 : decode cX1_readAct 44 = .ok (.sipush 215, 3) := by decide +kernel
theorem dX1_readAct_47 : decode cX1_readAct 47 = .ok (.if_icmp .eq 18, 3) := by decide +kernel
theorem dX1_readAct_50 : decode cX1_readAct 50 = .ok (.aload_n 0, 1) := by decide +kernel
theorem dX1_readAct_51 : decode cX1_readAct 51 = .ok (.invokevirtual 73, 3) := by decide +kernel
theorem dX1_readAct_54 : decode cX1_readAct 54 = .ok (.istore_n 3, 1) := by decide +kernel
theorem dX1_readAct_55 : decode cX1_readAct 55 = .ok (.aload_n 0, 1) := by decide +kernel
theorem dX1_readAct_56 : decode cX1_readAct 56 = .ok (.iconst 2, 1) := by decide +kernel
theorem dX1_readAct_57 : decode cX1_readAct 57 = .ok (.invokevirtual 60, 3) := by decide +kernel
theorem dX1_readAct_60 : decode cX1_readAct 60 = .ok (.ifCond .ne 5, 3) := by decide +kernel
theorem dX1_readAct_63 : decode cX1_readAct 63 = .ok (.iconst 0, 1) := by decide +kernel
theorem dX1_readAct_64 : decode cX1_readAct 64 = .ok (.ireturn, 1) := by decide +kernel
theorem dX1_readAct_65 : decode cX1_readAct 65 = .ok (.iload_n 2, 1) := by decide +kernel
theorem dX1_readAct_66 : decode cX1_readAct 66 = .ok (.sipush 211, 3) := by decide +kernel
theorem dX1_readAct_69 : decode cX1_readAct 69 = .ok (.if_icmp .ne 48, 3) := by decide +kernel
theorem dX1_readAct_72 : decode cX1_readAct 72 = .ok (.aload_n 0, 1) := by decide +kernel
theorem dX1_readAct_73 : decode cX1_readAct 73 = .ok (.bipush 47, 2) := by decide +kernel
theorem dX1_readAct_75 : decode cX1_readAct 75 = .ok (.invokevirtual 60, 3) := by decide +kernel
theorem dX1_readAct_78 : decode cX1_readAct 78 = .ok (.ifCond .ne 5, 3) := by decide +kernel
theorem dX1_readAct_81 : decode cX1_readAct 81 = .ok (.iconst 0, 1) := by decide +kernel
theorem dX1_readAct_82 : decode cX1_readAct 82 = .ok (.ireturn, 1) := by decide +kernel
theorem dX1_readAct_83 : decode cX1_readAct 83 = .ok (.aload_n 0, 1) := by decide +kernel
theorem dX1_readAct_84 : decode cX1_readAct 84 = .ok (.invokevirtual 73, 3) := by decide +kernel
theorem dX1_readAct_87 : decode cX1_readAct 87 = .ok (.istore 4, 2) := by decide +kernel
theorem dX1_readAct_89 : decode cX1_readAct 89 = .ok (.aload_n 0, 1) := by decide +kernel
theorem dX1_readAct_90 : decode cX1_readAct 90 = .ok (.invokevirtual 42, 3) := by decide +kernel
theorem dX1_readAct_93 : decode cX1_readAct 93 = .ok (.iconst 2, 1) := by decide +kernel
theorem dX1_readAct_94 : decode cX1_readAct 94 = .ok (.if_icmp .ne 13, 3) := by decide +kernel
theorem dX1_readAct_97 : decode cX1_readAct 97 = .ok (.iload 4, 2) := by decide +kernel
theorem dX1_readAct_99 : decode cX1_readAct 99 = .ok (.ifCond .ne 8, 3) := by decide +kernel
theorem dX1_readAct_102 : decode cX1_readAct 102 = .ok (.aload_n 0, 1) := by decide +kernel
theorem dX1_readAct_103 : decode cX1_readAct 103 = .ok (.iconst 2, 1) := by decide +kernel
theorem dX1_readAct_104 : decode cX1_readAct 104 = .ok (.invokevirtual 53, 3) := by decide +kernel
theorem dX1_readAct_107 : decode cX1_readAct 107 = .ok (.aload_n 0, 1) := by decide +kernel
theorem dX1_readAct_108 : decode cX1_readAct 108 = .ok (.iconst 2, 1) := by decide +kernel
theorem dX1_readAct_109 : decode cX1_readAct 109 = .ok (.invokevirtual 60, 3) := by decide +kernel
theorem dX1_readAct_112 : decode cX1_readAct 112 = .ok (.ifCond .ne 5, 3) := by decide +kernel
theorem dX1_readAct_115 : decode cX1_readAct 115 = .ok (.iconst 0, 1) := by decide +kernel
theorem dX1_readAct_116 : decode cX1_readAct 116 = .ok (.ireturn, 1) := by decide +kernel
theorem dX1_readAct_117 : decode cX1_readAct 117 = .ok (.aload_n 0, 1) := by decide +kernel
theorem dX1_readAct_118 : decode cX1_readAct 118 = .ok (.getfield 21, 3) := by decide +kernel
theorem dX1_readAct_121 : decode cX1_readAct 121 = .ok (.iload_n 1, 1) := by decide +kernel
theorem dX1_readAct_122 : decode cX1_readAct 122 = .ok (.iload_n 2, 1) := by decide +kernel
theorem dX1_readAct_123 : decode cX1_readAct 123 = .ok (.iload_n 3, 1) := by decide +kernel
theorem dX1_readAct_124 : decode cX1_readAct 124 = .ok (.iload 4, 2) := by decide +kernel
theorem dX1_readAct_126 : decode cX1_readAct 126 = .ok (.invokevirtual 80, 3) := by decide +kernel
theorem dX1_readAct_129 : decode cX1_readAct 129 = .ok (.iconst 1, 1) := by decide +kernel
theorem dX1_readAct_130 : decode cX1_readAct 130 = .ok (.ireturn, 1) := by decide +kernel
theorem dX1_kindHere_0 : decode cX1_kindHere 0 = .ok (.aload_n 0, 1) := by decide +kernel
theorem dX1_kindHere_1 : decode cX1_kindHere 1 = .ok (.getfield 36, 3) := by decide +kernel
theorem dX1_kindHere_4 : decode cX1_kindHere 4 = .ok (.aload_n 0, 1) := by decide +kernel
theorem dX1_kindHere_5 : decode cX1_kindHere 5 = .ok (.getfield 12, 3) := by decide +kernel
theorem dX1_kindHere_8 : decode cX1_kindHere 8 = .ok (.getfield 84, 3) := by decide +kernel
theorem dX1_kindHere_11 : decode cX1_kindHere 11 = .ok (.if_icmp .ge 18, 3) := by decide +kernel
theorem dX1_kindHere_14 : decode cX1_kindHere 14 = .ok (.aload_n 0, 1) := by decide +kernel
theorem dX1_kindHere_15 : decode cX1_kindHere 15 = .ok (.getfield 12, 3) := by decide +kernel
theorem dX1_kindHere_18 : decode cX1_kindHere 18 = .ok (.getfield 85, 3) := by decide +kernel
theorem dX1_kindHere_21 : decode cX1_kindHere 21 = .ok (.aload_n 0, 1) := by decide +kernel
theorem dX1_kindHere_22 : decode cX1_kindHere 22 = .ok (.getfield 36, 3) := by decide +kernel
theorem dX1_kindHere_25 : decode cX1_kindHere 25 = .ok (.iaload, 1) := by decide +kernel
theorem dX1_kindHere_26 : decode cX1_kindHere 26 = .ok (.goto 4, 3) := by decide +kernel
theorem dX1_kindHere_29 : decode cX1_kindHere 29 = .ok (.iconst 0, 1) := by decide +kernel
theorem dX1_kindHere_30 : decode cX1_kindHere 30 = .ok (.ireturn, 1) := by decide +kernel
theorem dX1_numberHere_0 : decode cX1_numberHere 0 = .ok (.aload_n 0, 1) := by decide +kernel
theorem dX1_numberHere_1 : decode cX1_numberHere 1 = .ok (.getfield 36, 3) := by decide +kernel
theorem dX1_numberHere_4 : decode cX1_numberHere 4 = .ok (.aload_n 0, 1) := by decide +kernel
theorem dX1_numberHere_5 : decode cX1_numberHere 5 = .ok (.getfield 12, 3) := by decide +kernel
theorem dX1_numberHere_8 : decode cX1_numberHere 8 = .ok (.getfield 84, 3) := by decide +kernel
theorem dX1_numberHere_11 : decode cX1_numberHere 11 = .ok (.if_icmp .ge 18, 3) := by decide +kernel
theorem dX1_numberHere_14 : decode cX1_numberHere 14 = .ok (.aload_n 0, 1) := by decide +kernel
theorem dX1_numberHere_15 : decode cX1_numberHere 15 = .ok (.getfield 12, 3) := by decide +kernel
theorem dX1_numberHere_18 : decode cX1_numberHere 18 = .ok (.getfield 89, 3) := by decide +kernel
theorem dX1_numberHere_21 : decode cX1_numberHere 21 = .ok (.aload_n 0, 1) := by decide +kernel
theorem dX1_numberHere_22 : decode cX1_numberHere 22 = .ok (.getfield 36, 3) := by decide +kernel
theorem dX1_numberHere_25 : decode cX1_numberHere 25 = .ok (.iaload, 1) := by decide +kernel
theorem dX1_numberHere_26 : decode cX1_numberHere 26 = .ok (.goto 4, 3) := by decide +kernel
theorem dX1_numberHere_29 : decode cX1_numberHere 29 = .ok (.iconst 0, 1) := by decide +kernel
theorem dX1_numberHere_30 : decode cX1_numberHere 30 = .ok (.ireturn, 1) := by decide +kernel
theorem dX1_placeHere_0 : decode cX1_placeHere 0 = .ok (.aload_n 0, 1) := by decide +kernel
theorem dX1_placeHere_1 : decode cX1_placeHere 1 = .ok (.getfield 36, 3) := by decide +kernel
theorem dX1_placeHere_4 : decode cX1_placeHere 4 = .ok (.aload_n 0, 1) := by decide +kernel
theorem dX1_placeHere_5 : decode cX1_placeHere 5 = .ok (.getfield 12, 3) := by decide +kernel
theorem dX1_placeHere_8 : decode cX1_placeHere 8 = .ok (.getfield 84, 3) := by decide +kernel
theorem dX1_placeHere_11 : decode cX1_placeHere 11 = .ok (.if_icmp .ge 18, 3) := by decide +kernel
theorem dX1_placeHere_14 : decode cX1_placeHere 14 = .ok (.aload_n 0, 1) := by decide +kernel
theorem dX1_placeHere_15 : decode cX1_placeHere 15 = .ok (.getfield 12, 3) := by decide +kernel
theorem dX1_placeHere_18 : decode cX1_placeHere 18 = .ok (.getfield 92, 3) := by decide +kernel
theorem dX1_placeHere_21 : decode cX1_placeHere 21 = .ok (.aload_n 0, 1) := by decide +kernel
theorem dX1_placeHere_22 : decode cX1_placeHere 22 = .ok (.getfield 36, 3) := by decide +kernel
theorem dX1_placeHere_25 : decode cX1_placeHere 25 = .ok (.iaload, 1) := by decide +kernel
theorem dX1_placeHere_26 : decode cX1_placeHere 26 = .ok (.goto 4, 3) := by decide +kernel
theorem dX1_placeHere_29 : decode cX1_placeHere 29 = .ok (.iconst (-1), 1) := by decide +kernel
theorem dX1_placeHere_30 : decode cX1_placeHere 30 = .ok (.ireturn, 1) := by decide +kernel
set_option maxRecDepth 20000 in
theorem ggX1_pass_X1_kindHere : GoodIn wsX1_pass wsX1_kindHere := goodIn_r _ [6, 1, 7, 8, 9, 10, 11, 12, 13, 14, 15, 16, 17, 18] (by decide +kernel) (by decide +kernel)
set_option maxRecDepth 20000 in
theorem gX1_pass_X1_kindHere : GoodIn wsX1_pass (wsV RX1 42 RX1 yX1_kindHere wsX1_kindHere) := goodIn_app (goodIn_of _ (by decide +kernel)) ggX1_pass_X1_kindHere
theorem dX1_pass_0 : decode cX1_pass 0 = .ok (.aload_n 0, 1) := by decide +kernel
theorem dX1_pass_1 : decode cX1_pass 1 = .ok (.invokevirtual 42, 3) := by decide +kernel
theorem dX1_pass_4 : decode cX1_pass 4 = .ok (.iload_n 1, 1) := by decide +kernel
theorem dX1_pass_5 : decode cX1_pass 5 = .ok (.if_icmp .eq 5, 3) := by decide +kernel
theorem dX1_pass_8 : decode cX1_pass 8 = .ok (.iconst 0, 1) := by decide +kernel
theorem dX1_pass_9 : decode cX1_pass 9 = .ok (.ireturn, 1) := by decide +kernel
theorem dX1_pass_10 : decode cX1_pass 10 = .ok (.aload_n 0, 1) := by decide +kernel
theorem dX1_pass_11 : decode cX1_pass 11 = .ok (.dup, 1) := by decide +kernel
theorem dX1_pass_12 : decode cX1_pass 12 = .ok (.getfield 36, 3) := by decide +kernel
theorem dX1_pass_15 : decode cX1_pass 15 = .ok (.iconst 1, 1) := by decide +kernel
theorem dX1_pass_16 : decode cX1_pass 16 = .ok (.iadd, 1) := by decide +kernel
theorem dX1_pass_17 : decode cX1_pass 17 = .ok (.putfield 36, 3) := by decide +kernel
theorem dX1_pass_20 : decode cX1_pass 20 = .ok (.iconst 1, 1) := by decide +kernel
theorem dX1_pass_21 : decode cX1_pass 21 = .ok (.ireturn, 1) := by decide +kernel
set_option maxRecDepth 20000 in
theorem ggX1_noteFault_X1_placeHere : GoodIn wsX1_noteFault wsX1_placeHere := goodIn_r _ [7, 8, 9, 10, 11, 12, 13, 14, 15, 16, 17, 18, 19, 20] (by decide +kernel) (by decide +kernel)
set_option maxRecDepth 20000 in
theorem gX1_noteFault_X1_placeHere : GoodIn wsX1_noteFault (wsV RX1 50 RX1 yX1_placeHere wsX1_placeHere) := goodIn_app (goodIn_of _ (by decide +kernel)) ggX1_noteFault_X1_placeHere
theorem dX1_noteFault_0 : decode cX1_noteFault 0 = .ok (.aload_n 0, 1) := by decide +kernel
theorem dX1_noteFault_1 : decode cX1_noteFault 1 = .ok (.getfield 25, 3) := by decide +kernel
theorem dX1_noteFault_4 : decode cX1_noteFault 4 = .ok (.ifCond .ne 16, 3) := by decide +kernel
theorem dX1_noteFault_7 : decode cX1_noteFault 7 = .ok (.aload_n 0, 1) := by decide +kernel
theorem dX1_noteFault_8 : decode cX1_noteFault 8 = .ok (.iload_n 1, 1) := by decide +kernel
theorem dX1_noteFault_9 : decode cX1_noteFault 9 = .ok (.putfield 25, 3) := by decide +kernel
theorem dX1_noteFault_12 : decode cX1_noteFault 12 = .ok (.aload_n 0, 1) := by decide +kernel
theorem dX1_noteFault_13 : decode cX1_noteFault 13 = .ok (.aload_n 0, 1) := by decide +kernel
theorem dX1_noteFault_14 : decode cX1_noteFault 14 = .ok (.invokevirtual 50, 3) := by decide +kernel
theorem dX1_noteFault_17 : decode cX1_noteFault 17 = .ok (.putfield 29, 3) := by decide +kernel
theorem dX1_noteFault_20 : decode cX1_noteFault 20 = .ok (.return_, 1) := by decide +kernel
theorem dX2_init_0 : decode cX2_init 0 = .ok (.aload_n 0, 1) := by decide +kernel
theorem dX2_init_1 : decode cX2_init 1 = .ok (.invokespecial 3, 3) := by decide +kernel
theorem dX2_init_4 : decode cX2_init 4 = .ok (.aload_n 0, 1) := by decide +kernel
theorem dX2_init_5 : decode cX2_init 5 = .ok (.bipush 16, 2) := by decide +kernel
theorem dX2_init_7 : decode cX2_init 7 = .ok (.newarray .int, 2) := by decide +kernel
theorem dX2_init_9 : decode cX2_init 9 = .ok (.putfield 9, 3) := by decide +kernel
theorem dX2_init_12 : decode cX2_init 12 = .ok (.aload_n 0, 1) := by decide +kernel
theorem dX2_init_13 : decode cX2_init 13 = .ok (.bipush 16, 2) := by decide +kernel
theorem dX2_init_15 : decode cX2_init 15 = .ok (.newarray .int, 2) := by decide +kernel
theorem dX2_init_17 : decode cX2_init 17 = .ok (.putfield 15, 3) := by decide +kernel
theorem dX2_init_20 : decode cX2_init 20 = .ok (.aload_n 0, 1) := by decide +kernel
theorem dX2_init_21 : decode cX2_init 21 = .ok (.bipush 16, 2) := by decide +kernel
theorem dX2_init_23 : decode cX2_init 23 = .ok (.newarray .int, 2) := by decide +kernel
theorem dX2_init_25 : decode cX2_init 25 = .ok (.putfield 18, 3) := by decide +kernel
theorem dX2_init_28 : decode cX2_init 28 = .ok (.aload_n 0, 1) := by decide +kernel
theorem dX2_init_29 : decode cX2_init 29 = .ok (.bipush 16, 2) := by decide +kernel
theorem dX2_init_31 : decode cX2_init 31 = .ok (.newarray .int, 2) := by decide +kernel
theorem dX2_init_33 : decode cX2_init 33 = .ok (.putfield 21, 3) := by decide +kernel
theorem dX2_init_36 : decode cX2_init 36 = .ok (.aload_n 0, 1) := by decide +kernel
theorem dX2_init_37 : decode cX2_init 37 = .ok (.bipush 64, 2) := by decide +kernel
theorem dX2_init_39 : decode cX2_init 39 = .ok (.newarray .int, 2) := by decide +kernel
theorem dX2_init_41 : decode cX2_init 41 = .ok (.putfield 24, 3) := by decide +kernel
theorem dX2_init_44 : decode cX2_init 44 = .ok (.aload_n 0, 1) := by decide +kernel
theorem dX2_init_45 : decode cX2_init 45 = .ok (.bipush 64, 2) := by decide +kernel
theorem dX2_init_47 : decode cX2_init 47 = .ok (.newarray .int, 2) := by decide +kernel
theorem dX2_init_49 : decode cX2_init 49 = .ok (.putfield 27, 3) := by decide +kernel
theorem dX2_init_52 : decode cX2_init 52 = .ok (.aload_n 0, 1) := by decide +kernel
theorem dX2_init_53 : decode cX2_init 53 = .ok (.bipush 64, 2) := by decide +kernel
theorem dX2_init_55 : decode cX2_init 55 = .ok (.newarray .int, 2) := by decide +kernel
theorem dX2_init_57 : decode cX2_init 57 = .ok (.putfield 30, 3) := by decide +kernel
theorem dX2_init_60 : decode cX2_init 60 = .ok (.return_, 1) := by decide +kernel
theorem dX2_copyFrom_0 : decode cX2_copyFrom 0 = .ok (.aload_n 0, 1) := by decide +kernel
theorem dX2_copyFrom_1 : decode cX2_copyFrom 1 = .ok (.aload_n 1, 1) := by decide +kernel
theorem dX2_copyFrom_2 : decode cX2_copyFrom 2 = .ok (.getfield 33, 3) := by decide +kernel
theorem dX2_copyFrom_5 : decode cX2_copyFrom 5 = .ok (.putfield 33, 3) := by decide +kernel
theorem dX2_copyFrom_8 : decode cX2_copyFrom 8 = .ok (.aload_n 1, 1) := by decide +kernel
theorem dX2_copyFrom_9 : decode cX2_copyFrom 9 = .ok (.getfield 9, 3) := by decide +kernel
theorem dX2_copyFrom_12 : decode cX2_copyFrom 12 = .ok (.iconst 0, 1) := by decide +kernel
theorem dX2_copyFrom_13 : decode cX2_copyFrom 13 = .ok (.aload_n 0, 1) := by decide +kernel
theorem dX2_copyFrom_14 : decode cX2_copyFrom 14 = .ok (.getfield 9, 3) := by decide +kernel
theorem dX2_copyFrom_17 : decode cX2_copyFrom 17 = .ok (.iconst 0, 1) := by decide +kernel
theorem dX2_copyFrom_18 : decode cX2_copyFrom 18 = .ok (.bipush 16, 2) := by decide +kernel
theorem dX2_copyFrom_20 : decode cX2_copyFrom 20 = .ok (.invokestatic 37, 3) := by decide +kernel
theorem dX2_copyFrom_23 : decode cX2_copyFrom 23 = .ok (.aload_n 1, 1) := by decide +kernel
theorem dX2_copyFrom_24 : decode cX2_copyFrom 24 = .ok (.getfield 15, 3) := by decide +kernel
theorem dX2_copyFrom_27 : decode cX2_copyFrom 27 = .ok (.iconst 0, 1) := by decide +kernel
theorem dX2_copyFrom_28 : decode cX2_copyFrom 28 = .ok (.aload_n 0, 1) := by decide +kernel
theorem dX2_copyFrom_29 : decode cX2_copyFrom 29 = .ok (.getfield 15, 3) := by decide +kernel
theorem dX2_copyFrom_32 : decode cX2_copyFrom 32 = .ok (.iconst 0, 1) := by decide +kernel
theorem dX2_copyFrom_33 : decode cX2_copyFrom 33 = .ok (.bipush 16, 2) := by decide +kernel
theorem dX2_copyFrom_35 : decode cX2_copyFrom 35 = .ok (.invokestatic 37, 3) := by decide +kernel
theorem dX2_copyFrom_38 : decode cX2_copyFrom 38 = .ok (.aload_n 1, 1) := by decide +kernel
theorem dX2_copyFrom_39 : decode cX2_copyFrom 39 = .ok (.getfield 18, 3) := by decide +kernel
theorem dX2_copyFrom_42 : decode cX2_copyFrom 42 = .ok (.iconst 0, 1) := by decide +kernel
theorem dX2_copyFrom_43 : decode cX2_copyFrom 43 = .ok (.aload_n 0, 1) := by decide +kernel
theorem dX2_copyFrom_44 : decode cX2_copyFrom 44 = .ok (.getfield 18, 3) := by decide +kernel
theorem dX2_copyFrom_47 : decode cX2_copyFrom 47 = .ok (.iconst 0, 1) := by decide +kernel
theorem dX2_copyFrom_48 : decode cX2_copyFrom 48 = .ok (.bipush 16, 2) := by decide +kernel
theorem dX2_copyFrom_50 : decode cX2_copyFrom 50 = .ok (.invokestatic 37, 3) := by decide +kernel
theorem dX2_copyFrom_53 : decode cX2_copyFrom 53 = .ok (.aload_n 1, 1) := by decide +kernel
theorem dX2_copyFrom_54 : decode cX2_copyFrom 54 = .ok (.getfield 21, 3) := by decide +kernel
theorem dX2_copyFrom_57 : decode cX2_copyFrom 57 = .ok (.iconst 0, 1) := by decide +kernel
theorem dX2_copyFrom_58 : decode cX2_copyFrom 58 = .ok (.aload_n 0, 1) := by decide +kernel
theorem dX2_copyFrom_59 : decode cX2_copyFrom 59 = .ok (.getfield 21, 3) := by decide +kernel
theorem dX2_copyFrom_62 : decode cX2_copyFrom 62 = .ok (.iconst 0, 1) := by decide +kernel
theorem dX2_copyFrom_63 : decode cX2_copyFrom 63 = .ok (.bipush 16, 2) := by decide +kernel
theorem dX2_copyFrom_65 : decode cX2_copyFrom 65 = .ok (.invokestatic 37, 3) := by decide +kernel
theorem dX2_copyFrom_68 : decode cX2_copyFrom 68 = .ok (.aload_n 1, 1) := by decide +kernel
theorem dX2_copyFrom_69 : decode cX2_copyFrom 69 = .ok (.getfield 24, 3) := by decide +kernel
theorem dX2_copyFrom_72 : decode cX2_copyFrom 72 = .ok (.iconst 0, 1) := by decide +kernel
theorem dX2_copyFrom_73 : decode cX2_copyFrom 73 = .ok (.aload_n 0, 1) := by decide +kernel
theorem dX2_copyFrom_74 : decode cX2_copyFrom 74 = .ok (.getfield 24, 3) := by decide +kernel
theorem dX2_copyFrom_77 : decode cX2_copyFrom 77 = .ok (.iconst 0, 1) := by decide +kernel
theorem dX2_copyFrom_78 : decode cX2_copyFrom 78 = .ok (.bipush 64, 2) := by decide +kernel
theorem dX2_copyFrom_80 : decode cX2_copyFrom 80 = .ok (.invokestatic 37, 3) := by decide +kernel
theorem dX2_copyFrom_83 : decode cX2_copyFrom 83 = .ok (.aload_n 1, 1) := by decide +kernel
theorem dX2_copyFrom_84 : decode cX2_copyFrom 84 = .ok (.getfield 27, 3) := by decide +kernel
theorem dX2_copyFrom_87 : decode cX2_copyFrom 87 = .ok (.iconst 0, 1) := by decide +kernel
theorem dX2_copyFrom_88 : decode cX2_copyFrom 88 = .ok (.aload_n 0, 1) := by decide +kernel
theorem dX2_copyFrom_89 : decode cX2_copyFrom 89 = .ok (.getfield 27, 3) := by decide +kernel
theorem dX2_copyFrom_92 : decode cX2_copyFrom 92 = .ok (.iconst 0, 1) := by decide +kernel
theorem dX2_copyFrom_93 : decode cX2_copyFrom 93 = .ok (.bipush 64, 2) := by decide +kernel
theorem dX2_copyFrom_95 : decode cX2_copyFrom 95 = .ok (.invokestatic 37, 3) := by decide +kernel
theorem dX2_copyFrom_98 : decode cX2_copyFrom 98 = .ok (.aload_n 1, 1) := by decide +kernel
theorem dX2_copyFrom_99 : decode cX2_copyFrom 99 = .ok (.getfield 30, 3) := by decide +kernel
theorem dX2_copyFrom_102 : decode cX2_copyFrom 102 = .ok (.iconst 0, 1) := by decide +kernel
theorem dX2_copyFrom_103 : decode cX2_copyFrom 103 = .ok (.aload_n 0, 1) := by decide +kernel
theorem dX2_copyFrom_104 : decode cX2_copyFrom 104 = .ok (.getfield 30, 3) := by decide +kernel
theorem dX2_copyFrom_107 : decode cX2_copyFrom 107 = .ok (.iconst 0, 1) := by decide +kernel
theorem dX2_copyFrom_108 : decode cX2_copyFrom 108 = .ok (.bipush 64, 2) := by decide +kernel
theorem dX2_copyFrom_110 : decode cX2_copyFrom 110 = .ok (.invokestatic 37, 3) := by decide +kernel
theorem dX2_copyFrom_113 : decode cX2_copyFrom 113 = .ok (.return_, 1) := by decide +kernel
theorem dX2_setTest_0 : decode cX2_setTest 0 = .ok (.iload_n 1, 1) := by decide +kernel
theorem dX2_setTest_1 : decode cX2_setTest 1 = .ok (.bipush 16, 2) := by decide +kernel
theorem dX2_setTest_3 : decode cX2_setTest 3 = .ok (.if_icmp .ge 8, 3) := by decide +kernel
theorem dX2_setTest_6 : decode cX2_setTest 6 = .ok (.iload_n 2, 1) := by decide +kernel
theorem dX2_setTest_7 : decode cX2_setTest 7 = .ok (.iconst 4, 1) := by decide +kernel
theorem dX2_setTest_8 : decode cX2_setTest 8 = .ok (.if_icmp .lt 4, 3) := by decide +kernel
theorem dX2_setTest_11 : decode cX2_setTest 11 = .ok (.return_, 1) := by decide +kernel
theorem dX2_setTest_12 : decode cX2_setTest 12 = .ok (.iload_n 1, 1) := by decide +kernel
theorem dX2_setTest_13 : decode cX2_setTest 13 = .ok (.iconst 4, 1) := by decide +kernel
theorem dX2_setTest_14 : decode cX2_setTest 14 = .ok (.imul, 1) := by decide +kernel
theorem dX2_setTest_15 : decode cX2_setTest 15 = .ok (.iload_n 2, 1) := by decide +kernel
theorem dX2_setTest_16 : decode cX2_setTest 16 = .ok (.iadd, 1) := by decide +kernel
theorem dX2_setTest_17 : decode cX2_setTest 17 = .ok (.istore 6, 2) := by decide +kernel
theorem dX2_setTest_19 : decode cX2_setTest 19 = .ok (.aload_n 0, 1) := by decide +kernel
theorem dX2_setTest_20 : decode cX2_setTest 20 = .ok (.getfield 24, 3) := by decide +kernel
theorem dX2_setTest_23 : decode cX2_setTest 23 = .ok (.iload 6, 2) := by decide +kernel
theorem dX2_setTest_25 : decode cX2_setTest 25 = .ok (.iload_n 3, 1) := by decide +kernel
theorem dX2_setTest_26 : decode cX2_setTest 26 = .ok (.iastore, 1) := by decide +kernel
theorem dX2_setTest_27 : decode cX2_setTest 27 = .ok (.aload_n 0, 1) := by decide +kernel
theorem dX2_setTest_28 : decode cX2_setTest 28 = .ok (.getfield 27, 3) := by decide +kernel
theorem dX2_setTest_31 : decode cX2_setTest 31 = .ok (.iload 6, 2) := by decide +kernel
theorem dX2_setTest_33 : decode cX2_setTest 33 = .ok (.iload 4, 2) := by decide +kernel
theorem dX2_setTest_35 : decode cX2_setTest 35 = .ok (.iastore, 1) := by decide +kernel
theorem dX2_setTest_36 : decode cX2_setTest 36 = .ok (.aload_n 0, 1) := by decide +kernel
theorem dX2_setTest_37 : decode cX2_setTest 37 = .ok (.getfield 30, 3) := by decide +kernel
theorem dX2_setTest_40 : decode cX2_setTest 40 = .ok (.iload 6, 2) := by decide +kernel
theorem dX2_setTest_42 : decode cX2_setTest 42 = .ok (.iload 5, 2) := by decide +kernel
theorem dX2_setTest_44 : decode cX2_setTest 44 = .ok (.iastore, 1) := by decide +kernel
theorem dX2_setTest_45 : decode cX2_setTest 45 = .ok (.aload_n 0, 1) := by decide +kernel
theorem dX2_setTest_46 : decode cX2_setTest 46 = .ok (.getfield 21, 3) := by decide +kernel
theorem dX2_setTest_49 : decode cX2_setTest 49 = .ok (.iload_n 1, 1) := by decide +kernel
theorem dX2_setTest_50 : decode cX2_setTest 50 = .ok (.iload_n 2, 1) := by decide +kernel
theorem dX2_setTest_51 : decode cX2_setTest 51 = .ok (.iconst 1, 1) := by decide +kernel
theorem dX2_setTest_52 : decode cX2_setTest 52 = .ok (.iadd, 1) := by decide +kernel
theorem dX2_setTest_53 : decode cX2_setTest 53 = .ok (.iastore, 1) := by decide +kernel
theorem dX2_setTest_54 : decode cX2_setTest 54 = .ok (.return_, 1) := by decide +kernel
theorem dX2_setAct_0 : decode cX2_setAct 0 = .ok (.iload_n 1, 1) := by decide +kernel
theorem dX2_setAct_1 : decode cX2_setAct 1 = .ok (.bipush 16, 2) := by decide +kernel
theorem dX2_setAct_3 : decode cX2_setAct 3 = .ok (.if_icmp .lt 4, 3) := by decide +kernel
theorem dX2_setAct_6 : decode cX2_setAct 6 = .ok (.return_, 1) := by decide +kernel
theorem dX2_setAct_7 : decode cX2_setAct 7 = .ok (.aload_n 0, 1) := by decide +kernel
theorem dX2_setAct_8 : decode cX2_setAct 8 = .ok (.getfield 9, 3) := by decide +kernel
theorem dX2_setAct_11 : decode cX2_setAct 11 = .ok (.iload_n 1, 1) := by decide +kernel
theorem dX2_setAct_12 : decode cX2_setAct 12 = .ok (.iload_n 2, 1) := by decide +kernel
theorem dX2_setAct_13 : decode cX2_setAct 13 = .ok (.iastore, 1) := by decide +kernel
theorem dX2_setAct_14 : decode cX2_setAct 14 = .ok (.aload_n 0, 1) := by decide +kernel
theorem dX2_setAct_15 : decode cX2_setAct 15 = .ok (.getfield 15, 3) := by decide +kernel
theorem dX2_setAct_18 : decode cX2_setAct 18 = .ok (.iload_n 1, 1) := by decide +kernel
theorem dX2_setAct_19 : decode cX2_setAct 19 = .ok (.iload_n 3, 1) := by decide +kernel
theorem dX2_setAct_20 : decode cX2_setAct 20 = .ok (.iastore, 1) := by decide +kernel
theorem dX2_setAct_21 : decode cX2_setAct 21 = .ok (.aload_n 0, 1) := by decide +kernel
theorem dX2_setAct_22 : decode cX2_setAct 22 = .ok (.getfield 18, 3) := by decide +kernel
theorem dX2_setAct_25 : decode cX2_setAct 25 = .ok (.iload_n 1, 1) := by decide +kernel
theorem dX2_setAct_26 : decode cX2_setAct 26 = .ok (.iload 4, 2) := by decide +kernel
theorem dX2_setAct_28 : decode cX2_setAct 28 = .ok (.iastore, 1) := by decide +kernel
theorem dX2_setAct_29 : decode cX2_setAct 29 = .ok (.aload_n 0, 1) := by decide +kernel
theorem dX2_setAct_30 : decode cX2_setAct 30 = .ok (.iload_n 1, 1) := by decide +kernel
theorem dX2_setAct_31 : decode cX2_setAct 31 = .ok (.iconst 1, 1) := by decide +kernel
theorem dX2_setAct_32 : decode cX2_setAct 32 = .ok (.iadd, 1) := by decide +kernel
theorem dX2_setAct_33 : decode cX2_setAct 33 = .ok (.putfield 33, 3) := by decide +kernel
theorem dX2_setAct_36 : decode cX2_setAct 36 = .ok (.return_, 1) := by decide +kernel
theorem dX2_startLine_0 : decode cX2_startLine 0 = .ok (.iload_n 1, 1) := by decide +kernel
theorem dX2_startLine_1 : decode cX2_startLine 1 = .ok (.bipush 16, 2) := by decide +kernel
theorem dX2_startLine_3 : decode cX2_startLine 3 = .ok (.if_icmp .ge 10, 3) := by decide +kernel
theorem dX2_startLine_6 : decode cX2_startLine 6 = .ok (.aload_n 0, 1) := by decide +kernel
theorem dX2_startLine_7 : decode cX2_startLine 7 = .ok (.getfield 21, 3) := by decide +kernel
theorem dX2_startLine_10 : decode cX2_startLine 10 = .ok (.iload_n 1, 1) := by decide +kernel
theorem dX2_startLine_11 : decode cX2_startLine 11 = .ok (.iconst 0, 1) := by decide +kernel
theorem dX2_startLine_12 : decode cX2_startLine 12 = .ok (.iastore, 1) := by decide +kernel
theorem dX2_startLine_13 : decode cX2_startLine 13 = .ok (.return_, 1) := by decide +kernel
theorem dX2_testHolds_0 : decode cX2_testHolds 0 = .ok (.aload_n 0, 1) := by decide +kernel
theorem dX2_testHolds_1 : decode cX2_testHolds 1 = .ok (.getfield 27, 3) := by decide +kernel
theorem dX2_testHolds_4 : decode cX2_testHolds 4 = .ok (.iload_n 1, 1) := by decide +kernel
theorem dX2_testHolds_5 : decode cX2_testHolds 5 = .ok (.iaload, 1) := by decide +kernel
theorem dX2_testHolds_6 : decode cX2_testHolds 6 = .ok (.lookupswitch 62 #[(60, 26), (62, 44)], 26) := by decide +kernel
theorem dX2_testHolds_32 : decode cX2_testHolds 32 = .ok (.lload_n 2, 1) := by decide +kernel
theorem dX2_testHolds_33 : decode cX2_testHolds 33 = .ok (.aload_n 0, 1) := by decide +kernel
theorem dX2_testHolds_34 : decode cX2_testHolds 34 = .ok (.getfield 30, 3) := by decide +kernel
theorem dX2_testHolds_37 : decode cX2_testHolds 37 = .ok (.iload_n 1, 1) := by decide +kernel
theorem dX2_testHolds_38 : decode cX2_testHolds 38 = .ok (.iaload, 1) := by decide +kernel
theorem dX2_testHolds_39 : decode cX2_testHolds 39 = .ok (.i2l, 1) := by decide +kernel
theorem dX2_testHolds_40 : decode cX2_testHolds 40 = .ok (.lcmp, 1) := by decide +kernel
theorem dX2_testHolds_41 : decode cX2_testHolds 41 = .ok (.ifCond .ge 7, 3) := by decide +kernel
theorem dX2_testHolds_44 : decode cX2_testHolds 44 = .ok (.iconst 1, 1) := by decide +kernel
theorem dX2_testHolds_45 : decode cX2_testHolds 45 = .ok (.goto 4, 3) := by decide +kernel
theorem dX2_testHolds_48 : decode cX2_testHolds 48 = .ok (.iconst 0, 1) := by decide +kernel
theorem dX2_testHolds_49 : decode cX2_testHolds 49 = .ok (.ireturn, 1) := by decide +kernel
theorem dX2_testHolds_50 : decode cX2_testHolds 50 = .ok (.lload_n 2, 1) := by decide +kernel
theorem dX2_testHolds_51 : decode cX2_testHolds 51 = .ok (.aload_n 0, 1) := by decide +kernel
theorem dX2_testHolds_52 : decode cX2_testHolds 52 = .ok (.getfield 30, 3) := by decide +kernel
theorem dX2_testHolds_55 : decode cX2_testHolds 55 = .ok (.iload_n 1, 1) := by decide +kernel
theorem dX2_testHolds_56 : decode cX2_testHolds 56 = .ok (.iaload, 1) := by decide +kernel
theorem dX2_testHolds_57 : decode cX2_testHolds 57 = .ok (.i2l, 1) := by decide +kernel
theorem dX2_testHolds_58 : decode cX2_testHolds 58 = .ok (.lcmp, 1) := by decide +kernel
theorem dX2_testHolds_59 : decode cX2_testHolds 59 = .ok (.ifCond .le 7, 3) := by decide +kernel
theorem dX2_testHolds_62 : decode cX2_testHolds 62 = .ok (.iconst 1, 1) := by decide +kernel
theorem dX2_testHolds_63 : decode cX2_testHolds 63 = .ok (.goto 4, 3) := by decide +kernel
theorem dX2_testHolds_66 : decode cX2_testHolds 66 = .ok (.iconst 0, 1) := by decide +kernel
theorem dX2_testHolds_67 : decode cX2_testHolds 67 = .ok (.ireturn, 1) := by decide +kernel
theorem dX2_testHolds_68 : decode cX2_testHolds 68 = .ok (.lload_n 2, 1) := by decide +kernel
theorem dX2_testHolds_69 : decode cX2_testHolds 69 = .ok (.aload_n 0, 1) := by decide +kernel
theorem dX2_testHolds_70 : decode cX2_testHolds 70 = .ok (.getfield 30, 3) := by decide +kernel
theorem dX2_testHolds_73 : decode cX2_testHolds 73 = .ok (.iload_n 1, 1) := by decide +kernel
theorem dX2_testHolds_74 : decode cX2_testHolds 74 = .ok (.iaload, 1) := by decide +kernel
theorem dX2_testHolds_75 : decode cX2_testHolds 75 = .ok (.i2l, 1) := by decide +kernel
theorem dX2_testHolds_76 : decode cX2_testHolds 76 = .ok (.lcmp, 1) := by decide +kernel
theorem dX2_testHolds_77 : decode cX2_testHolds 77 = .ok (.ifCond .ne 7, 3) := by decide +kernel
theorem dX2_testHolds_80 : decode cX2_testHolds 80 = .ok (.iconst 1, 1) := by decide +kernel
theorem dX2_testHolds_81 : decode cX2_testHolds 81 = .ok (.goto 4, 3) := by decide +kernel
theorem dX2_testHolds_84 : decode cX2_testHolds 84 = .ok (.iconst 0, 1) := by decide +kernel
theorem dX2_testHolds_85 : decode cX2_testHolds 85 = .ok (.ireturn, 1) := by decide +kernel
theorem dX2_sumAfterAct_0 : decode cX2_sumAfterAct 0 = .ok (.aload_n 0, 1) := by decide +kernel
theorem dX2_sumAfterAct_1 : decode cX2_sumAfterAct 1 = .ok (.getfield 9, 3) := by decide +kernel
theorem dX2_sumAfterAct_4 : decode cX2_sumAfterAct 4 = .ok (.iload_n 1, 1) := by decide +kernel
theorem dX2_sumAfterAct_5 : decode cX2_sumAfterAct 5 = .ok (.iaload, 1) := by decide +kernel
theorem dX2_sumAfterAct_6 : decode cX2_sumAfterAct 6 = .ok (.tableswitch 131 209 214 #[38, 54, 68, 105, 117, 129], 38) := by decide +kernel
theorem dX2_sumAfterAct_44 : decode cX2_sumAfterAct 44 = .ok (.ldc2_w 43, 3) := by decide +kernel
theorem dX2_sumAfterAct_47 : decode cX2_sumAfterAct 47 = .ok (.lload_n 2, 1) := by decide +kernel
theorem dX2_sumAfterAct_48 : decode cX2_sumAfterAct 48 = .ok (.aload_n 0, 1) := by decide +kernel
theorem dX2_sumAfterAct_49 : decode cX2_sumAfterAct 49 = .ok (.getfield 15, 3) := by decide +kernel
theorem dX2_sumAfterAct_52 : decode cX2_sumAfterAct 52 = .ok (.iload_n 1, 1) := by decide +kernel
theorem dX2_sumAfterAct_53 : decode cX2_sumAfterAct 53 = .ok (.iaload, 1) := by decide +kernel
theorem dX2_sumAfterAct_54 : decode cX2_sumAfterAct 54 = .ok (.i2l, 1) := by decide +kernel
theorem dX2_sumAfterAct_55 : decode cX2_sumAfterAct 55 = .ok (.ladd, 1) := by decide +kernel
theorem dX2_sumAfterAct_56 : decode cX2_sumAfterAct 56 = .ok (.invokestatic 45, 3) := by decide +kernel
theorem dX2_sumAfterAct_59 : decode cX2_sumAfterAct 59 = .ok (.lreturn, 1) := by decide +kernel
theorem dX2_sumAfterAct_60 : decode cX2_sumAfterAct 60 = .ok (.lconst 0, 1) := by decide +kernel
theorem dX2_sumAfterAct_61 : decode cX2_sumAfterAct 61 = .ok (.lload_n 2, 1) := by decide +kernel
theorem dX2_sumAfterAct_62 : decode cX2_sumAfterAct 62 = .ok (.aload_n 0, 1) := by decide +kernel
theorem dX2_sumAfterAct_63 : decode cX2_sumAfterAct 63 = .ok (.getfield 15, 3) := by decide +kernel
theorem dX2_sumAfterAct_66 : decode cX2_sumAfterAct 66 = .ok (.iload_n 1, 1) := by decide +kernel
theorem dX2_sumAfterAct_67 : decode cX2_sumAfterAct 67 = .ok (.iaload, 1) := by decide +kernel
theorem dX2_sumAfterAct_68 : decode cX2_sumAfterAct 68 = .ok (.i2l, 1) := by decide +kernel
theorem dX2_sumAfterAct_69 : decode cX2_sumAfterAct 69 = .ok (.lsub, 1) := by decide +kernel
theorem dX2_sumAfterAct_70 : decode cX2_sumAfterAct 70 = .ok (.invokestatic 51, 3) := by decide +kernel
theorem dX2_sumAfterAct_73 : decode cX2_sumAfterAct 73 = .ok (.lreturn, 1) := by decide +kernel
theorem dX2_sumAfterAct_74 : decode cX2_sumAfterAct 74 = .ok (.aload_n 0, 1) := by decide +kernel
theorem dX2_sumAfterAct_75 : decode cX2_sumAfterAct 75 = .ok (.getfield 18, 3) := by decide +kernel
theorem dX2_sumAfterAct_78 : decode cX2_sumAfterAct 78 = .ok (.iload_n 1, 1) := by decide +kernel
theorem dX2_sumAfterAct_79 : decode cX2_sumAfterAct 79 = .ok (.iaload, 1) := by decide +kernel
theorem dX2_sumAfterAct_80 : decode cX2_sumAfterAct 80 = .ok (.ifCond .ne 7, 3) := by decide +kernel
theorem dX2_sumAfterAct_83 : decode cX2_sumAfterAct 83 = .ok (.lload_n 2, 1) := by decide +kernel
theorem dX2_sumAfterAct_84 : decode cX2_sumAfterAct 84 = .ok (.goto 26, 3) := by decide +kernel
theorem dX2_sumAfterAct_87 : decode cX2_sumAfterAct 87 = .ok (.ldc2_w 43, 3) := by decide +kernel
theorem dX2_sumAfterAct_90 : decode cX2_sumAfterAct 90 = .ok (.lload_n 2, 1) := by decide +kernel
theorem dX2_sumAfterAct_91 : decode cX2_sumAfterAct 91 = .ok (.aload_n 0, 1) := by decide +kernel
theorem dX2_sumAfterAct_92 : decode cX2_sumAfterAct 92 = .ok (.getfield 15, 3) := by decide +kernel
theorem dX2_sumAfterAct_95 : decode cX2_sumAfterAct 95 = .ok (.iload_n 1, 1) := by decide +kernel
theorem dX2_sumAfterAct_96 : decode cX2_sumAfterAct 96 = .ok (.iaload, 1) := by decide +kernel
theorem dX2_sumAfterAct_97 : decode cX2_sumAfterAct 97 = .ok (.i2l, 1) := by decide +kernel
theorem dX2_sumAfterAct_98 : decode cX2_sumAfterAct 98 = .ok (.lmul, 1) := by decide +kernel
theorem dX2_sumAfterAct_99 : decode cX2_sumAfterAct 99 = .ok (.aload_n 0, 1) := by decide +kernel
theorem dX2_sumAfterAct_100 : decode cX2_sumAfterAct 100 = .ok (.getfield 18, 3) := by decide +kernel
theorem dX2_sumAfterAct_103 : decode cX2_sumAfterAct 103 = .ok (.iload_n 1, 1) := by decide +kernel
theorem dX2_sumAfterAct_104 : decode cX2_sumAfterAct 104 = .ok (.iaload, 1) := by decide +kernel
theorem dX2_sumAfterAct_105 : decode cX2_sumAfterAct 105 = .ok (.i2l, 1) := by decide +kernel
theorem dX2_sumAfterAct_106 : decode cX2_sumAfterAct 106 = .ok (.ldiv, 1) := by decide +kernel
theorem dX2_sumAfterAct_107 : decode cX2_sumAfterAct 107 = .ok (.invokestatic 45, 3) := by decide +kernel
theorem dX2_sumAfterAct_110 : decode cX2_sumAfterAct 110 = .ok (.lreturn, 1) := by decide +kernel
theorem dX2_sumAfterAct_111 : decode cX2_sumAfterAct 111 = .ok (.lload_n 2, 1) := by decide +kernel
theorem dX2_sumAfterAct_112 : decode cX2_sumAfterAct 112 = .ok (.aload_n 0, 1) := by decide +kernel
theorem dX2_sumAfterAct_113 : decode cX2_sumAfterAct 113 = .ok (.getfield 15, 3) := by decide +kernel
theorem dX2_sumAfterAct_116 : decode cX2_sumAfterAct 116 = .ok (.iload_n 1, 1) := by decide +kernel
theorem dX2_sumAfterAct_117 : decode cX2_sumAfterAct 117 = .ok (.iaload, 1) := by decide +kernel
theorem dX2_sumAfterAct_118 : decode cX2_sumAfterAct 118 = .ok (.i2l, 1) := by decide +kernel
theorem dX2_sumAfterAct_119 : decode cX2_sumAfterAct 119 = .ok (.invokestatic 51, 3) := by decide +kernel
theorem dX2_sumAfterAct_122 : decode cX2_sumAfterAct 122 = .ok (.lreturn, 1) := by decide +kernel
theorem dX2_sumAfterAct_123 : decode cX2_sumAfterAct 123 = .ok (.lload_n 2, 1) := by decide +kernel
theorem dX2_sumAfterAct_124 : decode cX2_sumAfterAct 124 = .ok (.aload_n 0, 1) := by decide +kernel
theorem dX2_sumAfterAct_125 : decode cX2_sumAfterAct 125 = .ok (.getfield 15, 3) := by decide +kernel
theorem dX2_sumAfterAct_128 : decode cX2_sumAfterAct 128 = .ok (.iload_n 1, 1) := by decide +kernel
theorem dX2_sumAfterAct_129 : decode cX2_sumAfterAct 129 = .ok (.iaload, 1) := by decide +kernel
theorem dX2_sumAfterAct_130 : decode cX2_sumAfterAct 130 = .ok (.i2l, 1) := by decide +kernel
theorem dX2_sumAfterAct_131 : decode cX2_sumAfterAct 131 = .ok (.invokestatic 45, 3) := by decide +kernel
theorem dX2_sumAfterAct_134 : decode cX2_sumAfterAct 134 = .ok (.lreturn, 1) := by decide +kernel
theorem dX2_sumAfterAct_135 : decode cX2_sumAfterAct 135 = .ok (.lconst 0, 1) := by decide +kernel
theorem dX2_sumAfterAct_136 : decode cX2_sumAfterAct 136 = .ok (.lreturn, 1) := by decide +kernel
theorem dX2_sumAfterAct_137 : decode cX2_sumAfterAct 137 = .ok (.lload_n 2, 1) := by decide +kernel
theorem dX2_sumAfterAct_138 : decode cX2_sumAfterAct 138 = .ok (.lreturn, 1) := by decide +kernel
set_option maxRecDepth 20000 in
theorem ggX3_init_X7_init : GoodIn wsX3_init wsX7_init := goodIn_r _ [18, 19, 2, 3, 8, 20, 21, 22, 23, 24, 25, 26, 27, 28, 29, 30, 31, 32] (by decide +kernel) (by decide +kernel)
set_option maxRecDepth 20000 in
theorem gX3_init_X7_init : GoodIn wsX3_init (wsX7_init) := ggX3_init_X7_init
theorem dX3_init_0 : decode cX3_init 0 = .ok (.aload_n 0, 1) := by decide +kernel
theorem dX3_init_1 : decode cX3_init 1 = .ok (.invokespecial 3, 3) := by decide +kernel
theorem dX3_init_4 : decode cX3_init 4 = .ok (.aload_n 0, 1) := by decide +kernel
theorem dX3_init_5 : decode cX3_init 5 = .ok (.new 9, 3) := by decide +kernel
theorem dX3_init_8 : decode cX3_init 8 = .ok (.dup, 1) := by decide +kernel
theorem dX3_init_9 : decode cX3_init 9 = .ok (.invokespecial 11, 3) := by decide +kernel
theorem dX3_init_12 : decode cX3_init 12 = .ok (.putfield 12, 3) := by decide +kernel
theorem dX3_init_15 : decode cX3_init 15 = .ok (.aload_n 0, 1) := by decide +kernel
theorem dX3_init_16 : decode cX3_init 16 = .ok (.iconst 5, 1) := by decide +kernel
theorem dX3_init_17 : decode cX3_init 17 = .ok (.newarray .int, 2) := by decide +kernel
theorem dX3_init_19 : decode cX3_init 19 = .ok (.putfield 18, 3) := by decide +kernel
theorem dX3_init_22 : decode cX3_init 22 = .ok (.aload_n 0, 1) := by decide +kernel
theorem dX3_init_23 : decode cX3_init 23 = .ok (.bipush 10, 2) := by decide +kernel
theorem dX3_init_25 : decode cX3_init 25 = .ok (.newarray .int, 2) := by decide +kernel
theorem dX3_init_27 : decode cX3_init 27 = .ok (.putfield 22, 3) := by decide +kernel
theorem dX3_init_30 : decode cX3_init 30 = .ok (.aload_n 0, 1) := by decide +kernel
theorem dX3_init_31 : decode cX3_init 31 = .ok (.iconst 5, 1) := by decide +kernel
theorem dX3_init_32 : decode cX3_init 32 = .ok (.newarray .int, 2) := by decide +kernel
theorem dX3_init_34 : decode cX3_init 34 = .ok (.putfield 25, 3) := by decide +kernel
theorem dX3_init_37 : decode cX3_init 37 = .ok (.aload_n 0, 1) := by decide +kernel
theorem dX3_init_38 : decode cX3_init 38 = .ok (.iconst 5, 1) := by decide +kernel
theorem dX3_init_39 : decode cX3_init 39 = .ok (.newarray .int, 2) := by decide +kernel
theorem dX3_init_41 : decode cX3_init 41 = .ok (.putfield 28, 3) := by decide +kernel
theorem dX3_init_44 : decode cX3_init 44 = .ok (.aload_n 0, 1) := by decide +kernel
theorem dX3_init_45 : decode cX3_init 45 = .ok (.iconst 5, 1) := by decide +kernel
theorem dX3_init_46 : decode cX3_init 46 = .ok (.newarray .int, 2) := by decide +kernel
theorem dX3_init_48 : decode cX3_init 48 = .ok (.putfield 31, 3) := by decide +kernel
theorem dX3_init_51 : decode cX3_init 51 = .ok (.aload_n 0, 1) := by decide +kernel
theorem dX3_init_52 : decode cX3_init 52 = .ok (.bipush 30, 2) := by decide +kernel
theorem dX3_init_54 : decode cX3_init 54 = .ok (.newarray .int, 2) := by decide +kernel
theorem dX3_init_56 : decode cX3_init 56 = .ok (.putfield 34, 3) := by decide +kernel
theorem dX3_init_59 : decode cX3_init 59 = .ok (.aload_n 0, 1) := by decide +kernel
theorem dX3_init_60 : decode cX3_init 60 = .ok (.bipush 30, 2) := by decide +kernel
theorem dX3_init_62 : decode cX3_init 62 = .ok (.newarray .int, 2) := by decide +kernel
theorem dX3_init_64 : decode cX3_init 64 = .ok (.putfield 37, 3) := by decide +kernel
theorem dX3_init_67 : decode cX3_init 67 = .ok (.return_, 1) := by decide +kernel
set_option maxRecDepth 20000 in
theorem ggX3_prepare_X3_orderByGreatest : GoodIn wsX3_prepare wsX3_orderByGreatest := goodIn_r _ [18] (by decide +kernel) (by decide +kernel)
set_option maxRecDepth 20000 in
theorem gX3_prepare_X3_orderByGreatest : GoodIn wsX3_prepare (va_wsS RX3 55 yX3_orderByGreatest wsX3_orderByGreatest) := goodIn_app (goodIn_of _ (by decide +kernel)) ggX3_prepare_X3_orderByGreatest
set_option maxRecDepth 20000 in
theorem ggX3_prepare_J7_fill_53178 : GoodIn wsX3_prepare wsJ7_fill_53178 := goodIn_r _ [22] (by decide +kernel) (by decide +kernel)
set_option maxRecDepth 20000 in
theorem gX3_prepare_J7_fill_53178 : GoodIn wsX3_prepare (va_wsS RX3 69 yJ7_fill_53178 wsJ7_fill_53178) := goodIn_app (goodIn_of _ (by decide +kernel)) ggX3_prepare_J7_fill_53178
set_option maxRecDepth 20000 in
theorem ggX3_prepare_X4_courseOfRank : GoodIn wsX3_prepare wsX4_courseOfRank := goodIn_r _ [27, 28, 53, 54, 55, 56, 57, 58] (by decide +kernel) (by decide +kernel)
set_option maxRecDepth 20000 in
theorem gX3_prepare_X4_courseOfRank : GoodIn wsX3_prepare (wsV RX3 88 RX4 yX4_courseOfRank wsX4_courseOfRank) := goodIn_app (goodIn_of _ (by decide +kernel)) ggX3_prepare_X4_courseOfRank
theorem dX3_prepare_0 : decode cX3_prepare 0 = .ok (.aload_n 0, 1) := by decide +kernel
theorem dX3_prepare_1 : decode cX3_prepare 1 = .ok (.getfield 18, 3) := by decide +kernel
theorem dX3_prepare_4 : decode cX3_prepare 4 = .ok (.aload_n 1, 1) := by decide +kernel
theorem dX3_prepare_5 : decode cX3_prepare 5 = .ok (.getfield 40, 3) := by decide +kernel
theorem dX3_prepare_8 : decode cX3_prepare 8 = .ok (.getfield 46, 3) := by decide +kernel
theorem dX3_prepare_11 : decode cX3_prepare 11 = .ok (.aload_n 1, 1) := by decide +kernel
theorem dX3_prepare_12 : decode cX3_prepare 12 = .ok (.getfield 40, 3) := by decide +kernel
theorem dX3_prepare_15 : decode cX3_prepare 15 = .ok (.getfield 51, 3) := by decide +kernel
theorem dX3_prepare_18 : decode cX3_prepare 18 = .ok (.invokestatic 55, 3) := by decide +kernel
theorem dX3_prepare_21 : decode cX3_prepare 21 = .ok (.aload_n 0, 1) := by decide +kernel
theorem dX3_prepare_22 : decode cX3_prepare 22 = .ok (.getfield 22, 3) := by decide +kernel
theorem dX3_prepare_25 : decode cX3_prepare 25 = .ok (.aload_n 1, 1) := by decide +kernel
theorem dX3_prepare_26 : decode cX3_prepare 26 = .ok (.getfield 59, 3) := by decide +kernel
theorem dX3_prepare_29 : decode cX3_prepare 29 = .ok (.getfield 63, 3) := by decide +kernel
theorem dX3_prepare_32 : decode cX3_prepare 32 = .ok (.aload_n 1, 1) := by decide +kernel
theorem dX3_prepare_33 : decode cX3_prepare 33 = .ok (.getfield 59, 3) := by decide +kernel
theorem dX3_prepare_36 : decode cX3_prepare 36 = .ok (.getfield 68, 3) := by decide +kernel
theorem dX3_prepare_39 : decode cX3_prepare 39 = .ok (.invokestatic 55, 3) := by decide +kernel
theorem dX3_prepare_42 : decode cX3_prepare 42 = .ok (.aload_n 0, 1) := by decide +kernel
theorem dX3_prepare_43 : decode cX3_prepare 43 = .ok (.getfield 31, 3) := by decide +kernel
theorem dX3_prepare_46 : decode cX3_prepare 46 = .ok (.iconst 0, 1) := by decide +kernel
theorem dX3_prepare_47 : decode cX3_prepare 47 = .ok (.invokestatic 69, 3) := by decide +kernel
theorem dX3_prepare_50 : decode cX3_prepare 50 = .ok (.iconst 0, 1) := by decide +kernel
theorem dX3_prepare_51 : decode cX3_prepare 51 = .ok (.istore_n 2, 1) := by decide +kernel
theorem dX3_prepare_52 : decode cX3_prepare 52 = .ok (.iload_n 2, 1) := by decide +kernel
theorem dX3_prepare_53 : decode cX3_prepare 53 = .ok (.aload_n 1, 1) := by decide +kernel
theorem dX3_prepare_54 : decode cX3_prepare 54 = .ok (.getfield 59, 3) := by decide +kernel
theorem dX3_prepare_57 : decode cX3_prepare 57 = .ok (.getfield 68, 3) := by decide +kernel
theorem dX3_prepare_60 : decode cX3_prepare 60 = .ok (.if_icmp .ge 29, 3) := by decide +kernel
theorem dX3_prepare_63 : decode cX3_prepare 63 = .ok (.aload_n 0, 1) := by decide +kernel
theorem dX3_prepare_64 : decode cX3_prepare 64 = .ok (.getfield 31, 3) := by decide +kernel
theorem dX3_prepare_67 : decode cX3_prepare 67 = .ok (.aload_n 1, 1) := by decide +kernel
theorem dX3_prepare_68 : decode cX3_prepare 68 = .ok (.getfield 59, 3) := by decide +kernel
theorem dX3_prepare_71 : decode cX3_prepare 71 = .ok (.getfield 75, 3) := by decide +kernel
theorem dX3_prepare_74 : decode cX3_prepare 74 = .ok (.iload_n 2, 1) := by decide +kernel
theorem dX3_prepare_75 : decode cX3_prepare 75 = .ok (.iaload, 1) := by decide +kernel
theorem dX3_prepare_76 : decode cX3_prepare 76 = .ok (.dup2, 1) := by decide +kernel
theorem dX3_prepare_77 : decode cX3_prepare 77 = .ok (.iaload, 1) := by decide +kernel
theorem dX3_prepare_78 : decode cX3_prepare 78 = .ok (.iconst 1, 1) := by decide +kernel
theorem dX3_prepare_79 : decode cX3_prepare 79 = .ok (.iload_n 2, 1) := by decide +kernel
theorem dX3_prepare_80 : decode cX3_prepare 80 = .ok (.ishl, 1) := by decide +kernel
theorem dX3_prepare_81 : decode cX3_prepare 81 = .ok (.ior, 1) := by decide +kernel
theorem dX3_prepare_82 : decode cX3_prepare 82 = .ok (.iastore, 1) := by decide +kernel
theorem dX3_prepare_83 : decode cX3_prepare 83 = .ok (.iinc 2 1, 3) := by decide +kernel
theorem dX3_prepare_86 : decode cX3_prepare 86 = .ok (.goto (-34), 3) := by decide +kernel
theorem dX3_prepare_89 : decode cX3_prepare 89 = .ok (.iconst 0, 1) := by decide +kernel
theorem dX3_prepare_90 : decode cX3_prepare 90 = .ok (.istore_n 2, 1) := by decide +kernel
theorem dX3_prepare_91 : decode cX3_prepare 91 = .ok (.iload_n 2, 1) := by decide +kernel
theorem dX3_prepare_92 : decode cX3_prepare 92 = .ok (.aload_n 1, 1) := by decide +kernel
theorem dX3_prepare_93 : decode cX3_prepare 93 = .ok (.getfield 78, 3) := by decide +kernel
theorem dX3_prepare_96 : decode cX3_prepare 96 = .ok (.getfield 82, 3) := by decide +kernel
theorem dX3_prepare_99 : decode cX3_prepare 99 = .ok (.if_icmp .ge 57, 3) := by decide +kernel
theorem dX3_prepare_102 : decode cX3_prepare 102 = .ok (.aload_n 0, 1) := by decide +kernel
theorem dX3_prepare_103 : decode cX3_prepare 103 = .ok (.getfield 34, 3) := by decide +kernel
theorem dX3_prepare_106 : decode cX3_prepare 106 = .ok (.iload_n 2, 1) := by decide +kernel
theorem dX3_prepare_107 : decode cX3_prepare 107 = .ok (.iconst 0, 1) := by decide +kernel
theorem dX3_prepare_108 : decode cX3_prepare 108 = .ok (.iastore, 1) := by decide +kernel
theorem dX3_prepare_109 : decode cX3_prepare 109 = .ok (.iconst 0, 1) := by decide +kernel
theorem dX3_prepare_110 : decode cX3_prepare 110 = .ok (.istore_n 3, 1) := by decide +kernel
theorem dX3_prepare_111 : decode cX3_prepare 111 = .ok (.iload_n 3, 1) := by decide +kernel
theorem dX3_prepare_112 : decode cX3_prepare 112 = .ok (.aload_n 1, 1) := by decide +kernel
theorem dX3_prepare_113 : decode cX3_prepare 113 = .ok (.getfield 78, 3) := by decide +kernel
theorem dX3_prepare_116 : decode cX3_prepare 116 = .ok (.getfield 85, 3) := by decide +kernel
theorem dX3_prepare_119 : decode cX3_prepare 119 = .ok (.iload_n 2, 1) := by decide +kernel
theorem dX3_prepare_120 : decode cX3_prepare 120 = .ok (.iaload, 1) := by decide +kernel
theorem dX3_prepare_121 : decode cX3_prepare 121 = .ok (.if_icmp .ge 29, 3) := by decide +kernel
theorem dX3_prepare_124 : decode cX3_prepare 124 = .ok (.aload_n 0, 1) := by decide +kernel
theorem dX3_prepare_125 : decode cX3_prepare 125 = .ok (.getfield 34, 3) := by decide +kernel
theorem dX3_prepare_128 : decode cX3_prepare 128 = .ok (.iload_n 2, 1) := by decide +kernel
theorem dX3_prepare_129 : decode cX3_prepare 129 = .ok (.dup2, 1) := by decide +kernel
theorem dX3_prepare_130 : decode cX3_prepare 130 = .ok (.iaload, 1) := by decide +kernel
theorem dX3_prepare_131 : decode cX3_prepare 131 = .ok (.iconst 1, 1) := by decide +kernel
theorem dX3_prepare_132 : decode cX3_prepare 132 = .ok (.aload_n 1, 1) := by decide +kernel
theorem dX3_prepare_133 : decode cX3_prepare 133 = .ok (.getfield 78, 3) := by decide +kernel
theorem dX3_prepare_136 : decode cX3_prepare 136 = .ok (.iload_n 2, 1) := by decide +kernel
theorem dX3_prepare_137 : decode cX3_prepare 137 = .ok (.iload_n 3, 1) := by decide +kernel
theorem dX3_prepare_138 : decode cX3_prepare 138 = .ok (.invokevirtual 88, 3) := by decide +kernel
theorem dX3_prepare_141 : decode cX3_prepare 141 = .ok (.ishl, 1) := by decide +kernel
theorem dX3_prepare_142 : decode cX3_prepare 142 = .ok (.ior, 1) := by decide +kernel
theorem dX3_prepare_143 : decode cX3_prepare 143 = .ok (.iastore, 1) := by decide +kernel
theorem dX3_prepare_144 : decode cX3_prepare 144 = .ok (.iinc 3 1, 3) := by decide +kernel
theorem dX3_prepare_147 : decode cX3_prepare 147 = .ok (.goto (-36), 3) := by decide +kernel
theorem dX3_prepare_150 : decode cX3_prepare 150 = .ok (.iinc 2 1, 3) := by decide +kernel
theorem dX3_prepare_153 : decode cX3_prepare 153 = .ok (.goto (-62), 3) := by decide +kernel
theorem dX3_prepare_156 : decode cX3_prepare 156 = .ok (.return_, 1) := by decide +kernel
theorem dX3_orderByGreatest_0 : decode cX3_orderByGreatest 0 = .ok (.iconst 0, 1) := by decide +kernel
theorem dX3_orderByGreatest_1 : decode cX3_orderByGreatest 1 = .ok (.istore_n 3, 1) := by decide +kernel
theorem dX3_orderByGreatest_2 : decode cX3_orderByGreatest 2 = .ok (.iload_n 3, 1) := by decide +kernel
theorem dX3_orderByGreatest_3 : decode cX3_orderByGreatest 3 = .ok (.iload_n 2, 1) := by decide +kernel
theorem dX3_orderByGreatest_4 : decode cX3_orderByGreatest 4 = .ok (.if_icmp .ge 52, 3) := by decide +kernel
theorem dX3_orderByGreatest_7 : decode cX3_orderByGreatest 7 = .ok (.iload_n 3, 1) := by decide +kernel
theorem dX3_orderByGreatest_8 : decode cX3_orderByGreatest 8 = .ok (.istore 4, 2) := by decide +kernel
theorem dX3_orderByGreatest_10 : decode cX3_orderByGreatest 10 = .ok (.iload 4, 2) := by decide +kernel
theorem dX3_orderByGreatest_12 : decode cX3_orderByGreatest 12 = .ok (.ifCond .le 33, 3) := by decide +kernel
theorem dX3_orderByGreatest_15 : decode cX3_orderByGreatest 15 = .ok (.aload_n 1, 1) := by decide +kernel
theorem dX3_orderByGreatest_16 : decode cX3_orderByGreatest 16 = .ok (.aload_n 0, 1) := by decide +kernel
theorem dX3_orderByGreatest_17 : decode cX3_orderByGreatest 17 = .ok (.iload 4, 2) := by decide +kernel
theorem dX3_orderByGreatest_19 : decode cX3_orderByGreatest 19 = .ok (.iconst 1, 1) := by decide +kernel
theorem dX3_orderByGreatest_20 : decode cX3_orderByGreatest 20 = .ok (.isub, 1) := by decide +kernel
theorem dX3_orderByGreatest_21 : decode cX3_orderByGreatest 21 = .ok (.iaload, 1) := by decide +kernel
theorem dX3_orderByGreatest_22 : decode cX3_orderByGreatest 22 = .ok (.iaload, 1) := by decide +kernel
theorem dX3_orderByGreatest_23 : decode cX3_orderByGreatest 23 = .ok (.aload_n 1, 1) := by decide +kernel
theorem dX3_orderByGreatest_24 : decode cX3_orderByGreatest 24 = .ok (.iload_n 3, 1) := by decide +kernel
theorem dX3_orderByGreatest_25 : decode cX3_orderByGreatest 25 = .ok (.iaload, 1) := by decide +kernel
theorem dX3_orderByGreatest_26 : decode cX3_orderByGreatest 26 = .ok (.if_icmp .ge 19, 3) := by decide +kernel
theorem dX3_orderByGreatest_29 : decode cX3_orderByGreatest 29 = .ok (.aload_n 0, 1) := by decide +kernel
theorem dX3_orderByGreatest_30 : decode cX3_orderByGreatest 30 = .ok (.iload 4, 2) := by decide +kernel
theorem dX3_orderByGreatest_32 : decode cX3_orderByGreatest 32 = .ok (.aload_n 0, 1) := by decide +kernel
theorem dX3_orderByGreatest_33 : decode cX3_orderByGreatest 33 = .ok (.iload 4, 2) := by decide +kernel
theorem dX3_orderByGreatest_35 : decode cX3_orderByGreatest 35 = .ok (.iconst 1, 1) := by decide +kernel
theorem dX3_orderByGreatest_36 : decode cX3_orderByGreatest 36 = .ok (.isub, 1) := by decide +kernel
theorem dX3_orderByGreatest_37 : decode cX3_orderByGreatest 37 = .ok (.iaload, 1) := by decide +kernel
theorem dX3_orderByGreatest_38 : decode cX3_orderByGreatest 38 = .ok (.iastore, 1) := by decide +kernel
theorem dX3_orderByGreatest_39 : decode cX3_orderByGreatest 39 = .ok (.iinc 4 (-1), 3) := by decide +kernel
theorem dX3_orderByGreatest_42 : decode cX3_orderByGreatest 42 = .ok (.goto (-32), 3) := by decide +kernel
theorem dX3_orderByGreatest_45 : decode cX3_orderByGreatest 45 = .ok (.aload_n 0, 1) := by decide +kernel
theorem dX3_orderByGreatest_46 : decode cX3_orderByGreatest 46 = .ok (.iload 4, 2) := by decide +kernel
theorem dX3_orderByGreatest_48 : decode cX3_orderByGreatest 48 = .ok (.iload_n 3, 1) := by decide +kernel
theorem dX3_orderByGreatest_49 : decode cX3_orderByGreatest 49 = .ok (.iastore, 1) := by decide +kernel
theorem dX3_orderByGreatest_50 : decode cX3_orderByGreatest 50 = .ok (.iinc 3 1, 3) := by decide +kernel
theorem dX3_orderByGreatest_53 : decode cX3_orderByGreatest 53 = .ok (.goto (-51), 3) := by decide +kernel
theorem dX3_orderByGreatest_56 : decode cX3_orderByGreatest 56 = .ok (.return_, 1) := by decide +kernel
set_option maxRecDepth 20000 in
theorem ggX3_furnish_X7_clear : GoodIn wsX3_furnish wsX7_clear := goodIn_r _ [12, 13, 14, 15, 16, 17, 18, 19, 20, 21, 56, 57, 58, 59, 60] (by decide +kernel) (by decide +kernel)
set_option maxRecDepth 20000 in
theorem gX3_furnish_X7_clear : GoodIn wsX3_furnish (wsV RX3 92 RX7 yX7_clear wsX7_clear) := goodIn_app (goodIn_of _ (by decide +kernel)) ggX3_furnish_X7_clear
set_option maxRecDepth 20000 in
theorem ggX3_furnish_J7_fill_53178 : GoodIn wsX3_furnish wsJ7_fill_53178 := goodIn_r _ [21] (by decide +kernel) (by decide +kernel)
set_option maxRecDepth 20000 in
theorem gX3_furnish_J7_fill_53178 : GoodIn wsX3_furnish (va_wsS RX3 69 yJ7_fill_53178 wsJ7_fill_53178) := goodIn_app (goodIn_of _ (by decide +kernel)) ggX3_furnish_J7_fill_53178
set_option maxRecDepth 20000 in
theorem ggX3_furnish_X7_isHeld : GoodIn wsX3_furnish wsX7_isHeld := goodIn_r _ [26, 13, 56, 57, 58, 59, 60] (by decide +kernel) (by decide +kernel)
set_option maxRecDepth 20000 in
theorem gX3_furnish_X7_isHeld : GoodIn wsX3_furnish (wsV RX3 98 RX7 yX7_isHeld wsX7_isHeld) := goodIn_app (goodIn_of _ (by decide +kernel)) ggX3_furnish_X7_isHeld
set_option maxRecDepth 20000 in
theorem ggX3_furnish_X3_furnishCourse : GoodIn wsX3_furnish wsX3_furnishCourse := goodIn_r _ [31, 5, 32, 33, 3, 4, 34, 35, 36, 1, 37, 38, 39, 40, 41, 42, 43, 44, 45, 61, 62, 63, 64, 65, 66, 67, 68, 69, 70, 71, 72, 46, 47, 48, 49, 50, 51, 52, 53, 54, 55, 73, 74, 56, 57, 58, 59, 60] (by decide +kernel) (by decide +kernel)
set_option maxRecDepth 20000 in
theorem gX3_furnish_X3_furnishCourse : GoodIn wsX3_furnish (wsV RX3 102 RX3 yX3_furnishCourse wsX3_furnishCourse) := goodIn_app (goodIn_of _ (by decide +kernel)) ggX3_furnish_X3_furnishCourse
theorem dX3_furnish_0 : decode cX3_furnish 0 = .ok (.aload_n 0, 1) := by decide +kernel
theorem dX3_furnish_1 : decode cX3_furnish 1 = .ok (.getfield 12, 3) := by decide +kernel
theorem dX3_furnish_4 : decode cX3_furnish 4 = .ok (.invokevirtual 92, 3) := by decide +kernel
theorem dX3_furnish_7 : decode cX3_furnish 7 = .ok (.aload_n 0, 1) := by decide +kernel
theorem dX3_furnish_8 : decode cX3_furnish 8 = .ok (.getfield 12, 3) := by decide +kernel
theorem dX3_furnish_11 : decode cX3_furnish 11 = .ok (.iload_n 2, 1) := by decide +kernel
theorem dX3_furnish_12 : decode cX3_furnish 12 = .ok (.putfield 95, 3) := by decide +kernel
theorem dX3_furnish_15 : decode cX3_furnish 15 = .ok (.aload_n 0, 1) := by decide +kernel
theorem dX3_furnish_16 : decode cX3_furnish 16 = .ok (.getfield 25, 3) := by decide +kernel
theorem dX3_furnish_19 : decode cX3_furnish 19 = .ok (.iconst 0, 1) := by decide +kernel
theorem dX3_furnish_20 : decode cX3_furnish 20 = .ok (.invokestatic 69, 3) := by decide +kernel
theorem dX3_furnish_23 : decode cX3_furnish 23 = .ok (.aload_n 0, 1) := by decide +kernel
theorem dX3_furnish_24 : decode cX3_furnish 24 = .ok (.getfield 28, 3) := by decide +kernel
theorem dX3_furnish_27 : decode cX3_furnish 27 = .ok (.iconst 0, 1) := by decide +kernel
theorem dX3_furnish_28 : decode cX3_furnish 28 = .ok (.invokestatic 69, 3) := by decide +kernel
theorem dX3_furnish_31 : decode cX3_furnish 31 = .ok (.iconst 0, 1) := by decide +kernel
theorem dX3_furnish_32 : decode cX3_furnish 32 = .ok (.istore_n 3, 1) := by decide +kernel
theorem dX3_furnish_33 : decode cX3_furnish 33 = .ok (.iload_n 3, 1) := by decide +kernel
theorem dX3_furnish_34 : decode cX3_furnish 34 = .ok (.aload_n 1, 1) := by decide +kernel
theorem dX3_furnish_35 : decode cX3_furnish 35 = .ok (.getfield 59, 3) := by decide +kernel
theorem dX3_furnish_38 : decode cX3_furnish 38 = .ok (.getfield 68, 3) := by decide +kernel
theorem dX3_furnish_41 : decode cX3_furnish 41 = .ok (.if_icmp .ge 41, 3) := by decide +kernel
theorem dX3_furnish_44 : decode cX3_furnish 44 = .ok (.aload_n 0, 1) := by decide +kernel
theorem dX3_furnish_45 : decode cX3_furnish 45 = .ok (.getfield 22, 3) := by decide +kernel
theorem dX3_furnish_48 : decode cX3_furnish 48 = .ok (.iload_n 3, 1) := by decide +kernel
theorem dX3_furnish_49 : decode cX3_furnish 49 = .ok (.iaload, 1) := by decide +kernel
theorem dX3_furnish_50 : decode cX3_furnish 50 = .ok (.istore 4, 2) := by decide +kernel
theorem dX3_furnish_52 : decode cX3_furnish 52 = .ok (.aload_n 0, 1) := by decide +kernel
theorem dX3_furnish_53 : decode cX3_furnish 53 = .ok (.getfield 12, 3) := by decide +kernel
theorem dX3_furnish_56 : decode cX3_furnish 56 = .ok (.iload 4, 2) := by decide +kernel
theorem dX3_furnish_58 : decode cX3_furnish 58 = .ok (.invokevirtual 98, 3) := by decide +kernel
theorem dX3_furnish_61 : decode cX3_furnish 61 = .ok (.ifCond .eq 15, 3) := by decide +kernel
theorem dX3_furnish_64 : decode cX3_furnish 64 = .ok (.aload_n 0, 1) := by decide +kernel
theorem dX3_furnish_65 : decode cX3_furnish 65 = .ok (.aload_n 1, 1) := by decide +kernel
theorem dX3_furnish_66 : decode cX3_furnish 66 = .ok (.iload 4, 2) := by decide +kernel
theorem dX3_furnish_68 : decode cX3_furnish 68 = .ok (.invokevirtual 102, 3) := by decide +kernel
theorem dX3_furnish_71 : decode cX3_furnish 71 = .ok (.ifCond .ne 5, 3) := by decide +kernel
theorem dX3_furnish_74 : decode cX3_furnish 74 = .ok (.iconst 0, 1) := by decide +kernel
theorem dX3_furnish_75 : decode cX3_furnish 75 = .ok (.ireturn, 1) := by decide +kernel
theorem dX3_furnish_76 : decode cX3_furnish 76 = .ok (.iinc 3 1, 3) := by decide +kernel
theorem dX3_furnish_79 : decode cX3_furnish 79 = .ok (.goto (-46), 3) := by decide +kernel
theorem dX3_furnish_82 : decode cX3_furnish 82 = .ok (.iconst 1, 1) := by decide +kernel
theorem dX3_furnish_83 : decode cX3_furnish 83 = .ok (.ireturn, 1) := by decide +kernel
theorem dX3_furnishCourse_0 : decode cX3_furnishCourse 0 = .ok (.aload_n 1, 1) := by decide +kernel
theorem dX3_furnishCourse_1 : decode cX3_furnishCourse 1 = .ok (.getfield 59, 3) := by decide +kernel
theorem dX3_furnishCourse_4 : decode cX3_furnishCourse 4 = .ok (.getfield 75, 3) := by decide +kernel
theorem dX3_furnishCourse_7 : decode cX3_furnishCourse 7 = .ok (.iload_n 2, 1) := by decide +kernel
theorem dX3_furnishCourse_8 : decode cX3_furnishCourse 8 = .ok (.iaload, 1) := by decide +kernel
theorem dX3_furnishCourse_9 : decode cX3_furnishCourse 9 = .ok (.istore_n 3, 1) := by decide +kernel
theorem dX3_furnishCourse_10 : decode cX3_furnishCourse 10 = .ok (.iconst 1, 1) := by decide +kernel
theorem dX3_furnishCourse_11 : decode cX3_furnishCourse 11 = .ok (.aload_n 1, 1) := by decide +kernel
theorem dX3_furnishCourse_12 : decode cX3_furnishCourse 12 = .ok (.getfield 59, 3) := by decide +kernel
theorem dX3_furnishCourse_15 : decode cX3_furnishCourse 15 = .ok (.getfield 106, 3) := by decide +kernel
theorem dX3_furnishCourse_18 : decode cX3_furnishCourse 18 = .ok (.iload_n 2, 1) := by decide +kernel
theorem dX3_furnishCourse_19 : decode cX3_furnishCourse 19 = .ok (.iaload, 1) := by decide +kernel
theorem dX3_furnishCourse_20 : decode cX3_furnishCourse 20 = .ok (.ishl, 1) := by decide +kernel
theorem dX3_furnishCourse_21 : decode cX3_furnishCourse 21 = .ok (.istore 4, 2) := by decide +kernel
theorem dX3_furnishCourse_23 : decode cX3_furnishCourse 23 = .ok (.aload_n 0, 1) := by decide +kernel
theorem dX3_furnishCourse_24 : decode cX3_furnishCourse 24 = .ok (.getfield 25, 3) := by decide +kernel
theorem dX3_furnishCourse_27 : decode cX3_furnishCourse 27 = .ok (.iload_n 3, 1) := by decide +kernel
theorem dX3_furnishCourse_28 : decode cX3_furnishCourse 28 = .ok (.iaload, 1) := by decide +kernel
theorem dX3_furnishCourse_29 : decode cX3_furnishCourse 29 = .ok (.istore 5, 2) := by decide +kernel
theorem dX3_furnishCourse_31 : decode cX3_furnishCourse 31 = .ok (.aload_n 0, 1) := by decide +kernel
theorem dX3_furnishCourse_32 : decode cX3_furnishCourse 32 = .ok (.getfield 28, 3) := by decide +kernel
theorem dX3_furnishCourse_35 : decode cX3_furnishCourse 35 = .ok (.iload_n 3, 1) := by decide +kernel
theorem dX3_furnishCourse_36 : decode cX3_furnishCourse 36 = .ok (.iaload, 1) := by decide +kernel
theorem dX3_furnishCourse_37 : decode cX3_furnishCourse 37 = .ok (.iload 4, 2) := by decide +kernel
theorem dX3_furnishCourse_39 : decode cX3_furnishCourse 39 = .ok (.iand, 1) := by decide +kernel
theorem dX3_furnishCourse_40 : decode cX3_furnishCourse 40 = .ok (.ifCond .ne 15, 3) := by decide +kernel
theorem dX3_furnishCourse_43 : decode cX3_furnishCourse 43 = .ok (.iload 5, 2) := by decide +kernel
theorem dX3_furnishCourse_45 : decode cX3_furnishCourse 45 = .ok (.aload_n 1, 1) := by decide +kernel
theorem dX3_furnishCourse_46 : decode cX3_furnishCourse 46 = .ok (.getfield 40, 3) := by decide +kernel
theorem dX3_furnishCourse_49 : decode cX3_furnishCourse 49 = .ok (.getfield 51, 3) := by decide +kernel
theorem dX3_furnishCourse_52 : decode cX3_furnishCourse 52 = .ok (.if_icmp .lt 5, 3) := by decide +kernel
theorem dX3_furnishCourse_55 : decode cX3_furnishCourse 55 = .ok (.iconst 0, 1) := by decide +kernel
theorem dX3_furnishCourse_56 : decode cX3_furnishCourse 56 = .ok (.ireturn, 1) := by decide +kernel
theorem dX3_furnishCourse_57 : decode cX3_furnishCourse 57 = .ok (.aload_n 0, 1) := by decide +kernel
theorem dX3_furnishCourse_58 : decode cX3_furnishCourse 58 = .ok (.getfield 28, 3) := by decide +kernel
theorem dX3_furnishCourse_61 : decode cX3_furnishCourse 61 = .ok (.iload_n 3, 1) := by decide +kernel
theorem dX3_furnishCourse_62 : decode cX3_furnishCourse 62 = .ok (.dup2, 1) := by decide +kernel
theorem dX3_furnishCourse_63 : decode cX3_furnishCourse 63 = .ok (.iaload, 1) := by decide +kernel
theorem dX3_furnishCourse_64 : decode cX3_furnishCourse 64 = .ok (.iload 4, 2) := by decide +kernel
theorem dX3_furnishCourse_66 : decode cX3_furnishCourse 66 = .ok (.ior, 1) := by decide +kernel
theorem dX3_furnishCourse_67 : decode cX3_furnishCourse 67 = .ok (.iastore, 1) := by decide +kernel
theorem dX3_furnishCourse_68 : decode cX3_furnishCourse 68 = .ok (.aload_n 0, 1) := by decide +kernel
theorem dX3_furnishCourse_69 : decode cX3_furnishCourse 69 = .ok (.getfield 25, 3) := by decide +kernel
theorem dX3_furnishCourse_72 : decode cX3_furnishCourse 72 = .ok (.iload_n 3, 1) := by decide +kernel
theorem dX3_furnishCourse_73 : decode cX3_furnishCourse 73 = .ok (.iload 5, 2) := by decide +kernel
theorem dX3_furnishCourse_75 : decode cX3_furnishCourse 75 = .ok (.iconst 1, 1) := by decide +kernel
theorem dX3_furnishCourse_76 : decode cX3_furnishCourse 76 = .ok (.iadd, 1) := by decide +kernel
theorem dX3_furnishCourse_77 : decode cX3_furnishCourse 77 = .ok (.iastore, 1) := by decide +kernel
theorem dX3_furnishCourse_78 : decode cX3_furnishCourse 78 = .ok (.aload_n 0, 1) := by decide +kernel
theorem dX3_furnishCourse_79 : decode cX3_furnishCourse 79 = .ok (.getfield 18, 3) := by decide +kernel
theorem dX3_furnishCourse_82 : decode cX3_furnishCourse 82 = .ok (.iload 5, 2) := by decide +kernel
theorem dX3_furnishCourse_84 : decode cX3_furnishCourse 84 = .ok (.iaload, 1) := by decide +kernel
theorem dX3_furnishCourse_85 : decode cX3_furnishCourse 85 = .ok (.istore 6, 2) := by decide +kernel
theorem dX3_furnishCourse_87 : decode cX3_furnishCourse 87 = .ok (.aload_n 0, 1) := by decide +kernel
theorem dX3_furnishCourse_88 : decode cX3_furnishCourse 88 = .ok (.getfield 12, 3) := by decide +kernel
theorem dX3_furnishCourse_91 : decode cX3_furnishCourse 91 = .ok (.getfield 109, 3) := by decide +kernel
theorem dX3_furnishCourse_94 : decode cX3_furnishCourse 94 = .ok (.iload_n 2, 1) := by decide +kernel
theorem dX3_furnishCourse_95 : decode cX3_furnishCourse 95 = .ok (.iload 6, 2) := by decide +kernel
theorem dX3_furnishCourse_97 : decode cX3_furnishCourse 97 = .ok (.iastore, 1) := by decide +kernel
theorem dX3_furnishCourse_98 : decode cX3_furnishCourse 98 = .ok (.aload_n 0, 1) := by decide +kernel
theorem dX3_furnishCourse_99 : decode cX3_furnishCourse 99 = .ok (.getfield 12, 3) := by decide +kernel
theorem dX3_furnishCourse_102 : decode cX3_furnishCourse 102 = .ok (.getfield 112, 3) := by decide +kernel
theorem dX3_furnishCourse_105 : decode cX3_furnishCourse 105 = .ok (.iload_n 2, 1) := by decide +kernel
theorem dX3_furnishCourse_106 : decode cX3_furnishCourse 106 = .ok (.aload_n 1, 1) := by decide +kernel
theorem dX3_furnishCourse_107 : decode cX3_furnishCourse 107 = .ok (.getfield 59, 3) := by decide +kernel
theorem dX3_furnishCourse_110 : decode cX3_furnishCourse 110 = .ok (.getfield 63, 3) := by decide +kernel
theorem dX3_furnishCourse_113 : decode cX3_furnishCourse 113 = .ok (.iload_n 2, 1) := by decide +kernel
theorem dX3_furnishCourse_114 : decode cX3_furnishCourse 114 = .ok (.iaload, 1) := by decide +kernel
theorem dX3_furnishCourse_115 : decode cX3_furnishCourse 115 = .ok (.aload_n 1, 1) := by decide +kernel
theorem dX3_furnishCourse_116 : decode cX3_furnishCourse 116 = .ok (.getfield 40, 3) := by decide +kernel
theorem dX3_furnishCourse_119 : decode cX3_furnishCourse 119 = .ok (.getfield 46, 3) := by decide +kernel
theorem dX3_furnishCourse_122 : decode cX3_furnishCourse 122 = .ok (.iload 6, 2) := by decide +kernel
theorem dX3_furnishCourse_124 : decode cX3_furnishCourse 124 = .ok (.iaload, 1) := by decide +kernel
theorem dX3_furnishCourse_125 : decode cX3_furnishCourse 125 = .ok (.invokestatic 115, 3) := by decide +kernel
theorem dX3_furnishCourse_128 : decode cX3_furnishCourse 128 = .ok (.iastore, 1) := by decide +kernel
theorem dX3_furnishCourse_129 : decode cX3_furnishCourse 129 = .ok (.aload_n 0, 1) := by decide +kernel
theorem dX3_furnishCourse_130 : decode cX3_furnishCourse 130 = .ok (.getfield 12, 3) := by decide +kernel
theorem dX3_furnishCourse_133 : decode cX3_furnishCourse 133 = .ok (.getfield 112, 3) := by decide +kernel
theorem dX3_furnishCourse_136 : decode cX3_furnishCourse 136 = .ok (.iload_n 2, 1) := by decide +kernel
theorem dX3_furnishCourse_137 : decode cX3_furnishCourse 137 = .ok (.iaload, 1) := by decide +kernel
theorem dX3_furnishCourse_138 : decode cX3_furnishCourse 138 = .ok (.aload_n 1, 1) := by decide +kernel
theorem dX3_furnishCourse_139 : decode cX3_furnishCourse 139 = .ok (.getfield 59, 3) := by decide +kernel
theorem dX3_furnishCourse_142 : decode cX3_furnishCourse 142 = .ok (.getfield 120, 3) := by decide +kernel
theorem dX3_furnishCourse_145 : decode cX3_furnishCourse 145 = .ok (.iload_n 2, 1) := by decide +kernel
theorem dX3_furnishCourse_146 : decode cX3_furnishCourse 146 = .ok (.iaload, 1) := by decide +kernel
theorem dX3_furnishCourse_147 : decode cX3_furnishCourse 147 = .ok (.if_icmp .lt 7, 3) := by decide +kernel
theorem dX3_furnishCourse_150 : decode cX3_furnishCourse 150 = .ok (.iconst 1, 1) := by decide +kernel
theorem dX3_furnishCourse_151 : decode cX3_furnishCourse 151 = .ok (.goto 4, 3) := by decide +kernel
theorem dX3_furnishCourse_154 : decode cX3_furnishCourse 154 = .ok (.iconst 0, 1) := by decide +kernel
theorem dX3_furnishCourse_155 : decode cX3_furnishCourse 155 = .ok (.ireturn, 1) := by decide +kernel
set_option maxRecDepth 20000 in
theorem ggX3_placePupils_J7_fill_53178 : GoodIn wsX3_placePupils wsJ7_fill_53178 := goodIn_r _ [10] (by decide +kernel) (by decide +kernel)
set_option maxRecDepth 20000 in
theorem gX3_placePupils_J7_fill_53178 : GoodIn wsX3_placePupils (va_wsS RX3 69 yJ7_fill_53178 wsJ7_fill_53178) := goodIn_app (goodIn_of _ (by decide +kernel)) ggX3_placePupils_J7_fill_53178
set_option maxRecDepth 20000 in
theorem ggX3_placePupils_X3_placePupil : GoodIn wsX3_placePupils wsX3_placePupil := goodIn_r _ [15, 3, 4, 16, 1, 5, 17, 18, 19, 20, 21, 22, 23, 24, 25, 26, 27, 28, 29, 30, 31, 32, 33, 34, 35, 36, 37, 38, 39, 40, 41, 42, 14, 43, 44, 45, 46, 47, 48, 49, 50, 51, 52, 53, 54, 67, 68, 69, 70, 71, 72, 73, 74, 75, 76, 82, 83, 84, 85, 86, 87, 88, 89, 90, 91, 92, 93, 94, 95, 96, 97, 98, 99, 77, 78, 79, 80, 81] (by decide +kernel) (by decide +kernel)
set_option maxRecDepth 20000 in
theorem gX3_placePupils_X3_placePupil : GoodIn wsX3_placePupils (wsV RX3 126 RX3 yX3_placePupil wsX3_placePupil) := goodIn_app (goodIn_of _ (by decide +kernel)) ggX3_placePupils_X3_placePupil
set_option maxRecDepth 20000 in
theorem ggX3_placePupils_X3_isLawful : GoodIn wsX3_placePupils wsX3_isLawful := goodIn_r _ [58, 19, 59, 1, 60, 61, 62, 63, 64, 24, 65, 66, 82, 83, 84, 85, 86, 87, 94, 95, 96, 97, 98, 99, 67, 68, 69, 70, 71, 72, 73, 74, 75, 76, 77, 78, 79, 80, 81] (by decide +kernel) (by decide +kernel)
set_option maxRecDepth 20000 in
theorem gX3_placePupils_X3_isLawful : GoodIn wsX3_placePupils (wsV RX3 130 RX3 yX3_isLawful wsX3_isLawful) := goodIn_app (goodIn_of _ (by decide +kernel)) ggX3_placePupils_X3_isLawful
theorem dX3_placePupils_0 : decode cX3_placePupils 0 = .ok (.aload_n 0, 1) := by decide +kernel
theorem dX3_placePupils_1 : decode cX3_placePupils 1 = .ok (.aload_n 0, 1) := by decide +kernel
theorem dX3_placePupils_2 : decode cX3_placePupils 2 = .ok (.getfield 12, 3) := by decide +kernel
theorem dX3_placePupils_5 : decode cX3_placePupils 5 = .ok (.getfield 95, 3) := by decide +kernel
theorem dX3_placePupils_8 : decode cX3_placePupils 8 = .ok (.putfield 123, 3) := by decide +kernel
theorem dX3_placePupils_11 : decode cX3_placePupils 11 = .ok (.aload_n 0, 1) := by decide +kernel
theorem dX3_placePupils_12 : decode cX3_placePupils 12 = .ok (.getfield 37, 3) := by decide +kernel
theorem dX3_placePupils_15 : decode cX3_placePupils 15 = .ok (.iconst 0, 1) := by decide +kernel
theorem dX3_placePupils_16 : decode cX3_placePupils 16 = .ok (.invokestatic 69, 3) := by decide +kernel
theorem dX3_placePupils_19 : decode cX3_placePupils 19 = .ok (.iconst 0, 1) := by decide +kernel
theorem dX3_placePupils_20 : decode cX3_placePupils 20 = .ok (.istore_n 2, 1) := by decide +kernel
theorem dX3_placePupils_21 : decode cX3_placePupils 21 = .ok (.aload_n 1, 1) := by decide +kernel
theorem dX3_placePupils_22 : decode cX3_placePupils 22 = .ok (.getfield 78, 3) := by decide +kernel
theorem dX3_placePupils_25 : decode cX3_placePupils 25 = .ok (.getfield 82, 3) := by decide +kernel
theorem dX3_placePupils_28 : decode cX3_placePupils 28 = .ok (.iconst 1, 1) := by decide +kernel
theorem dX3_placePupils_29 : decode cX3_placePupils 29 = .ok (.isub, 1) := by decide +kernel
theorem dX3_placePupils_30 : decode cX3_placePupils 30 = .ok (.istore_n 3, 1) := by decide +kernel
theorem dX3_placePupils_31 : decode cX3_placePupils 31 = .ok (.iconst 0, 1) := by decide +kernel
theorem dX3_placePupils_32 : decode cX3_placePupils 32 = .ok (.istore 4, 2) := by decide +kernel
theorem dX3_placePupils_34 : decode cX3_placePupils 34 = .ok (.iload 4, 2) := by decide +kernel
theorem dX3_placePupils_36 : decode cX3_placePupils 36 = .ok (.iconst 3, 1) := by decide +kernel
theorem dX3_placePupils_37 : decode cX3_placePupils 37 = .ok (.if_icmp .ge 47, 3) := by decide +kernel
theorem dX3_placePupils_40 : decode cX3_placePupils 40 = .ok (.iconst 0, 1) := by decide +kernel
theorem dX3_placePupils_41 : decode cX3_placePupils 41 = .ok (.istore 5, 2) := by decide +kernel
theorem dX3_placePupils_43 : decode cX3_placePupils 43 = .ok (.iload 5, 2) := by decide +kernel
theorem dX3_placePupils_45 : decode cX3_placePupils 45 = .ok (.iload_n 3, 1) := by decide +kernel
theorem dX3_placePupils_46 : decode cX3_placePupils 46 = .ok (.if_icmp .gt 32, 3) := by decide +kernel
theorem dX3_placePupils_49 : decode cX3_placePupils 49 = .ok (.iload_n 2, 1) := by decide +kernel
theorem dX3_placePupils_50 : decode cX3_placePupils 50 = .ok (.aload_n 0, 1) := by decide +kernel
theorem dX3_placePupils_51 : decode cX3_placePupils 51 = .ok (.aload_n 1, 1) := by decide +kernel
theorem dX3_placePupils_52 : decode cX3_placePupils 52 = .ok (.iload 4, 2) := by decide +kernel
theorem dX3_placePupils_54 : decode cX3_placePupils 54 = .ok (.iconst 1, 1) := by decide +kernel
theorem dX3_placePupils_55 : decode cX3_placePupils 55 = .ok (.if_icmp .ne 10, 3) := by decide +kernel
theorem dX3_placePupils_58 : decode cX3_placePupils 58 = .ok (.iload_n 3, 1) := by decide +kernel
theorem dX3_placePupils_59 : decode cX3_placePupils 59 = .ok (.iload 5, 2) := by decide +kernel
theorem dX3_placePupils_61 : decode cX3_placePupils 61 = .ok (.isub, 1) := by decide +kernel
theorem dX3_placePupils_62 : decode cX3_placePupils 62 = .ok (.goto 5, 3) := by decide +kernel
theorem dX3_placePupils_65 : decode cX3_placePupils 65 = .ok (.iload 5, 2) := by decide +kernel
theorem dX3_placePupils_67 : decode cX3_placePupils 67 = .ok (.invokevirtual 126, 3) := by decide +kernel
theorem dX3_placePupils_70 : decode cX3_placePupils 70 = .ok (.iadd, 1) := by decide +kernel
theorem dX3_placePupils_71 : decode cX3_placePupils 71 = .ok (.istore_n 2, 1) := by decide +kernel
theorem dX3_placePupils_72 : decode cX3_placePupils 72 = .ok (.iinc 5 1, 3) := by decide +kernel
theorem dX3_placePupils_75 : decode cX3_placePupils 75 = .ok (.goto (-32), 3) := by decide +kernel
theorem dX3_placePupils_78 : decode cX3_placePupils 78 = .ok (.iinc 4 1, 3) := by decide +kernel
theorem dX3_placePupils_81 : decode cX3_placePupils 81 = .ok (.goto (-47), 3) := by decide +kernel
theorem dX3_placePupils_84 : decode cX3_placePupils 84 = .ok (.aload_n 0, 1) := by decide +kernel
theorem dX3_placePupils_85 : decode cX3_placePupils 85 = .ok (.aload_n 1, 1) := by decide +kernel
theorem dX3_placePupils_86 : decode cX3_placePupils 86 = .ok (.invokevirtual 130, 3) := by decide +kernel
theorem dX3_placePupils_89 : decode cX3_placePupils 89 = .ok (.ifCond .eq 7, 3) := by decide +kernel
theorem dX3_placePupils_92 : decode cX3_placePupils 92 = .ok (.iload_n 2, 1) := by decide +kernel
theorem dX3_placePupils_93 : decode cX3_placePupils 93 = .ok (.goto 4, 3) := by decide +kernel
theorem dX3_placePupils_96 : decode cX3_placePupils 96 = .ok (.iconst (-1), 1) := by decide +kernel
theorem dX3_placePupils_97 : decode cX3_placePupils 97 = .ok (.ireturn, 1) := by decide +kernel
set_option maxRecDepth 20000 in
theorem ggX3_placePupil_X7_coursesOf : GoodIn wsX3_placePupil wsX7_coursesOf := goodIn_r _ [14, 15, 16, 17, 18, 19, 20, 21, 22, 73, 74, 75, 76, 77] (by decide +kernel) (by decide +kernel)
set_option maxRecDepth 20000 in
theorem gX3_placePupil_X7_coursesOf : GoodIn wsX3_placePupil (wsV RX3 134 RX7 yX7_coursesOf wsX7_coursesOf) := goodIn_app (goodIn_of _ (by decide +kernel)) ggX3_placePupil_X7_coursesOf
set_option maxRecDepth 20000 in
theorem ggX3_placePupil_X4_courseOfRank : GoodIn wsX3_placePupil wsX4_courseOfRank := goodIn_r _ [27, 28, 61, 62, 63, 64, 65, 66] (by decide +kernel) (by decide +kernel)
set_option maxRecDepth 20000 in
theorem gX3_placePupil_X4_courseOfRank : GoodIn wsX3_placePupil (wsV RX3 88 RX4 yX4_courseOfRank wsX4_courseOfRank) := goodIn_app (goodIn_of _ (by decide +kernel)) ggX3_placePupil_X4_courseOfRank
set_option maxRecDepth 20000 in
theorem ggX3_placePupil_X3_givePlace : GoodIn wsX3_placePupil wsX3_givePlace := goodIn_r _ [33, 4, 2, 34, 1, 35, 36, 37, 13, 38, 15, 39, 40, 41, 42, 43, 44, 45, 46, 47, 48, 49, 50, 51, 52, 53, 54, 73, 74, 75, 76, 77] (by decide +kernel) (by decide +kernel)
set_option maxRecDepth 20000 in
theorem gX3_placePupil_X3_givePlace : GoodIn wsX3_placePupil (wsV RX3 141 RX3 yX3_givePlace wsX3_givePlace) := goodIn_app (goodIn_of _ (by decide +kernel)) ggX3_placePupil_X3_givePlace
theorem dX3_placePupil_0 : decode cX3_placePupil 0 = .ok (.aload_n 0, 1) := by decide +kernel
theorem dX3_placePupil_1 : decode cX3_placePupil 1 = .ok (.getfield 123, 3) := by decide +kernel
theorem dX3_placePupil_4 : decode cX3_placePupil 4 = .ok (.aload_n 0, 1) := by decide +kernel
theorem dX3_placePupil_5 : decode cX3_placePupil 5 = .ok (.getfield 37, 3) := by decide +kernel
theorem dX3_placePupil_8 : decode cX3_placePupil 8 = .ok (.iload_n 2, 1) := by decide +kernel
theorem dX3_placePupil_9 : decode cX3_placePupil 9 = .ok (.iaload, 1) := by decide +kernel
theorem dX3_placePupil_10 : decode cX3_placePupil 10 = .ok (.iconst (-1), 1) := by decide +kernel
theorem dX3_placePupil_11 : decode cX3_placePupil 11 = .ok (.ixor, 1) := by decide +kernel
theorem dX3_placePupil_12 : decode cX3_placePupil 12 = .ok (.iand, 1) := by decide +kernel
theorem dX3_placePupil_13 : decode cX3_placePupil 13 = .ok (.istore_n 3, 1) := by decide +kernel
theorem dX3_placePupil_14 : decode cX3_placePupil 14 = .ok (.iload_n 3, 1) := by decide +kernel
theorem dX3_placePupil_15 : decode cX3_placePupil 15 = .ok (.aload_n 0, 1) := by decide +kernel
theorem dX3_placePupil_16 : decode cX3_placePupil 16 = .ok (.getfield 34, 3) := by decide +kernel
theorem dX3_placePupil_19 : decode cX3_placePupil 19 = .ok (.iload_n 2, 1) := by decide +kernel
theorem dX3_placePupil_20 : decode cX3_placePupil 20 = .ok (.iaload, 1) := by decide +kernel
theorem dX3_placePupil_21 : decode cX3_placePupil 21 = .ok (.iand, 1) := by decide +kernel
theorem dX3_placePupil_22 : decode cX3_placePupil 22 = .ok (.ifCond .eq 23, 3) := by decide +kernel
theorem dX3_placePupil_25 : decode cX3_placePupil 25 = .ok (.aload_n 0, 1) := by decide +kernel
theorem dX3_placePupil_26 : decode cX3_placePupil 26 = .ok (.getfield 12, 3) := by decide +kernel
theorem dX3_placePupil_29 : decode cX3_placePupil 29 = .ok (.iload_n 2, 1) := by decide +kernel
theorem dX3_placePupil_30 : decode cX3_placePupil 30 = .ok (.invokevirtual 134, 3) := by decide +kernel
theorem dX3_placePupil_33 : decode cX3_placePupil 33 = .ok (.aload_n 1, 1) := by decide +kernel
theorem dX3_placePupil_34 : decode cX3_placePupil 34 = .ok (.getfield 78, 3) := by decide +kernel
theorem dX3_placePupil_37 : decode cX3_placePupil 37 = .ok (.getfield 138, 3) := by decide +kernel
theorem dX3_placePupil_40 : decode cX3_placePupil 40 = .ok (.iload_n 2, 1) := by decide +kernel
theorem dX3_placePupil_41 : decode cX3_placePupil 41 = .ok (.iaload, 1) := by decide +kernel
theorem dX3_placePupil_42 : decode cX3_placePupil 42 = .ok (.if_icmp .lt 5, 3) := by decide +kernel
theorem dX3_placePupil_45 : decode cX3_placePupil 45 = .ok (.iconst 0, 1) := by decide +kernel
theorem dX3_placePupil_46 : decode cX3_placePupil 46 = .ok (.ireturn, 1) := by decide +kernel
theorem dX3_placePupil_47 : decode cX3_placePupil 47 = .ok (.iconst 0, 1) := by decide +kernel
theorem dX3_placePupil_48 : decode cX3_placePupil 48 = .ok (.istore 4, 2) := by decide +kernel
theorem dX3_placePupil_50 : decode cX3_placePupil 50 = .ok (.iload 4, 2) := by decide +kernel
theorem dX3_placePupil_52 : decode cX3_placePupil 52 = .ok (.aload_n 1, 1) := by decide +kernel
theorem dX3_placePupil_53 : decode cX3_placePupil 53 = .ok (.getfield 78, 3) := by decide +kernel
theorem dX3_placePupil_56 : decode cX3_placePupil 56 = .ok (.getfield 85, 3) := by decide +kernel
theorem dX3_placePupil_59 : decode cX3_placePupil 59 = .ok (.iload_n 2, 1) := by decide +kernel
theorem dX3_placePupil_60 : decode cX3_placePupil 60 = .ok (.iaload, 1) := by decide +kernel
theorem dX3_placePupil_61 : decode cX3_placePupil 61 = .ok (.if_icmp .ge 53, 3) := by decide +kernel
theorem dX3_placePupil_64 : decode cX3_placePupil 64 = .ok (.aload_n 1, 1) := by decide +kernel
theorem dX3_placePupil_65 : decode cX3_placePupil 65 = .ok (.getfield 78, 3) := by decide +kernel
theorem dX3_placePupil_68 : decode cX3_placePupil 68 = .ok (.iload_n 2, 1) := by decide +kernel
theorem dX3_placePupil_69 : decode cX3_placePupil 69 = .ok (.iload 4, 2) := by decide +kernel
theorem dX3_placePupil_71 : decode cX3_placePupil 71 = .ok (.invokevirtual 88, 3) := by decide +kernel
theorem dX3_placePupil_74 : decode cX3_placePupil 74 = .ok (.istore 5, 2) := by decide +kernel
theorem dX3_placePupil_76 : decode cX3_placePupil 76 = .ok (.iload_n 3, 1) := by decide +kernel
theorem dX3_placePupil_77 : decode cX3_placePupil 77 = .ok (.iload 5, 2) := by decide +kernel
theorem dX3_placePupil_79 : decode cX3_placePupil 79 = .ok (.ishr, 1) := by decide +kernel
theorem dX3_placePupil_80 : decode cX3_placePupil 80 = .ok (.iconst 1, 1) := by decide +kernel
theorem dX3_placePupil_81 : decode cX3_placePupil 81 = .ok (.iand, 1) := by decide +kernel
theorem dX3_placePupil_82 : decode cX3_placePupil 82 = .ok (.ifCond .eq 26, 3) := by decide +kernel
theorem dX3_placePupil_85 : decode cX3_placePupil 85 = .ok (.aload_n 0, 1) := by decide +kernel
theorem dX3_placePupil_86 : decode cX3_placePupil 86 = .ok (.iload_n 2, 1) := by decide +kernel
theorem dX3_placePupil_87 : decode cX3_placePupil 87 = .ok (.iload 5, 2) := by decide +kernel
theorem dX3_placePupil_89 : decode cX3_placePupil 89 = .ok (.aload_n 1, 1) := by decide +kernel
theorem dX3_placePupil_90 : decode cX3_placePupil 90 = .ok (.getfield 59, 3) := by decide +kernel
theorem dX3_placePupil_93 : decode cX3_placePupil 93 = .ok (.getfield 75, 3) := by decide +kernel
theorem dX3_placePupil_96 : decode cX3_placePupil 96 = .ok (.iload 5, 2) := by decide +kernel
theorem dX3_placePupil_98 : decode cX3_placePupil 98 = .ok (.iaload, 1) := by decide +kernel
theorem dX3_placePupil_99 : decode cX3_placePupil 99 = .ok (.invokevirtual 141, 3) := by decide +kernel
theorem dX3_placePupil_102 : decode cX3_placePupil 102 = .ok (.bipush 6, 2) := by decide +kernel
theorem dX3_placePupil_104 : decode cX3_placePupil 104 = .ok (.iload 4, 2) := by decide +kernel
theorem dX3_placePupil_106 : decode cX3_placePupil 106 = .ok (.isub, 1) := by decide +kernel
theorem dX3_placePupil_107 : decode cX3_placePupil 107 = .ok (.ireturn, 1) := by decide +kernel
theorem dX3_placePupil_108 : decode cX3_placePupil 108 = .ok (.iinc 4 1, 3) := by decide +kernel
theorem dX3_placePupil_111 : decode cX3_placePupil 111 = .ok (.goto (-61), 3) := by decide +kernel
theorem dX3_placePupil_114 : decode cX3_placePupil 114 = .ok (.iconst 0, 1) := by decide +kernel
theorem dX3_placePupil_115 : decode cX3_placePupil 115 = .ok (.ireturn, 1) := by decide +kernel
set_option maxRecDepth 20000 in
theorem ggX3_givePlace_X7_give : GoodIn wsX3_givePlace wsX7_give := goodIn_r _ [9, 10, 11, 27, 28, 29, 30, 31] (by decide +kernel) (by decide +kernel)
set_option maxRecDepth 20000 in
theorem gX3_givePlace_X7_give : GoodIn wsX3_givePlace (wsV RX3 145 RX7 yX7_give wsX7_give) := goodIn_app (goodIn_of _ (by decide +kernel)) ggX3_givePlace_X7_give
set_option maxRecDepth 20000 in
theorem ggX3_givePlace_X7_hasPlaceLeft : GoodIn wsX3_givePlace wsX7_hasPlaceLeft := goodIn_r _ [15, 11, 16, 27, 28, 29, 30, 31] (by decide +kernel) (by decide +kernel)
set_option maxRecDepth 20000 in
theorem gX3_givePlace_X7_hasPlaceLeft : GoodIn wsX3_givePlace (wsV RX3 149 RX7 yX7_hasPlaceLeft wsX7_hasPlaceLeft) := goodIn_app (goodIn_of _ (by decide +kernel)) ggX3_givePlace_X7_hasPlaceLeft
theorem dX3_givePlace_0 : decode cX3_givePlace 0 = .ok (.aload_n 0, 1) := by decide +kernel
theorem dX3_givePlace_1 : decode cX3_givePlace 1 = .ok (.getfield 12, 3) := by decide +kernel
theorem dX3_givePlace_4 : decode cX3_givePlace 4 = .ok (.iload_n 1, 1) := by decide +kernel
theorem dX3_givePlace_5 : decode cX3_givePlace 5 = .ok (.iload_n 2, 1) := by decide +kernel
theorem dX3_givePlace_6 : decode cX3_givePlace 6 = .ok (.invokevirtual 145, 3) := by decide +kernel
theorem dX3_givePlace_9 : decode cX3_givePlace 9 = .ok (.aload_n 0, 1) := by decide +kernel
theorem dX3_givePlace_10 : decode cX3_givePlace 10 = .ok (.getfield 37, 3) := by decide +kernel
theorem dX3_givePlace_13 : decode cX3_givePlace 13 = .ok (.iload_n 1, 1) := by decide +kernel
theorem dX3_givePlace_14 : decode cX3_givePlace 14 = .ok (.dup2, 1) := by decide +kernel
theorem dX3_givePlace_15 : decode cX3_givePlace 15 = .ok (.iaload, 1) := by decide +kernel
theorem dX3_givePlace_16 : decode cX3_givePlace 16 = .ok (.aload_n 0, 1) := by decide +kernel
theorem dX3_givePlace_17 : decode cX3_givePlace 17 = .ok (.getfield 31, 3) := by decide +kernel
theorem dX3_givePlace_20 : decode cX3_givePlace 20 = .ok (.iload_n 3, 1) := by decide +kernel
theorem dX3_givePlace_21 : decode cX3_givePlace 21 = .ok (.iaload, 1) := by decide +kernel
theorem dX3_givePlace_22 : decode cX3_givePlace 22 = .ok (.ior, 1) := by decide +kernel
theorem dX3_givePlace_23 : decode cX3_givePlace 23 = .ok (.iastore, 1) := by decide +kernel
theorem dX3_givePlace_24 : decode cX3_givePlace 24 = .ok (.aload_n 0, 1) := by decide +kernel
theorem dX3_givePlace_25 : decode cX3_givePlace 25 = .ok (.getfield 12, 3) := by decide +kernel
theorem dX3_givePlace_28 : decode cX3_givePlace 28 = .ok (.iload_n 2, 1) := by decide +kernel
theorem dX3_givePlace_29 : decode cX3_givePlace 29 = .ok (.invokevirtual 149, 3) := by decide +kernel
theorem dX3_givePlace_32 : decode cX3_givePlace 32 = .ok (.ifCond .ne 17, 3) := by decide +kernel
theorem dX3_givePlace_35 : decode cX3_givePlace 35 = .ok (.aload_n 0, 1) := by decide +kernel
theorem dX3_givePlace_36 : decode cX3_givePlace 36 = .ok (.dup, 1) := by decide +kernel
theorem dX3_givePlace_37 : decode cX3_givePlace 37 = .ok (.getfield 123, 3) := by decide +kernel
theorem dX3_givePlace_40 : decode cX3_givePlace 40 = .ok (.iconst 1, 1) := by decide +kernel
theorem dX3_givePlace_41 : decode cX3_givePlace 41 = .ok (.iload_n 2, 1) := by decide +kernel
theorem dX3_givePlace_42 : decode cX3_givePlace 42 = .ok (.ishl, 1) := by decide +kernel
theorem dX3_givePlace_43 : decode cX3_givePlace 43 = .ok (.iconst (-1), 1) := by decide +kernel
theorem dX3_givePlace_44 : decode cX3_givePlace 44 = .ok (.ixor, 1) := by decide +kernel
theorem dX3_givePlace_45 : decode cX3_givePlace 45 = .ok (.iand, 1) := by decide +kernel
theorem dX3_givePlace_46 : decode cX3_givePlace 46 = .ok (.putfield 123, 3) := by decide +kernel
theorem dX3_givePlace_49 : decode cX3_givePlace 49 = .ok (.return_, 1) := by decide +kernel
set_option maxRecDepth 20000 in
theorem ggX3_isLawful_X7_isHeld : GoodIn wsX3_isLawful wsX7_isHeld := goodIn_r _ [10, 11, 34, 35, 36, 37, 38] (by decide +kernel) (by decide +kernel)
set_option maxRecDepth 20000 in
theorem gX3_isLawful_X7_isHeld : GoodIn wsX3_isLawful (wsV RX3 98 RX7 yX7_isHeld wsX7_isHeld) := goodIn_app (goodIn_of _ (by decide +kernel)) ggX3_isLawful_X7_isHeld
theorem dX3_isLawful_0 : decode cX3_isLawful 0 = .ok (.iconst 0, 1) := by decide +kernel
theorem dX3_isLawful_1 : decode cX3_isLawful 1 = .ok (.istore_n 2, 1) := by decide +kernel
theorem dX3_isLawful_2 : decode cX3_isLawful 2 = .ok (.iload_n 2, 1) := by decide +kernel
theorem dX3_isLawful_3 : decode cX3_isLawful 3 = .ok (.aload_n 1, 1) := by decide +kernel
theorem dX3_isLawful_4 : decode cX3_isLawful 4 = .ok (.getfield 59, 3) := by decide +kernel
theorem dX3_isLawful_7 : decode cX3_isLawful 7 = .ok (.getfield 68, 3) := by decide +kernel
theorem dX3_isLawful_10 : decode cX3_isLawful 10 = .ok (.if_icmp .ge 43, 3) := by decide +kernel
theorem dX3_isLawful_13 : decode cX3_isLawful 13 = .ok (.aload_n 0, 1) := by decide +kernel
theorem dX3_isLawful_14 : decode cX3_isLawful 14 = .ok (.getfield 12, 3) := by decide +kernel
theorem dX3_isLawful_17 : decode cX3_isLawful 17 = .ok (.iload_n 2, 1) := by decide +kernel
theorem dX3_isLawful_18 : decode cX3_isLawful 18 = .ok (.invokevirtual 98, 3) := by decide +kernel
theorem dX3_isLawful_21 : decode cX3_isLawful 21 = .ok (.ifCond .eq 26, 3) := by decide +kernel
theorem dX3_isLawful_24 : decode cX3_isLawful 24 = .ok (.aload_n 0, 1) := by decide +kernel
theorem dX3_isLawful_25 : decode cX3_isLawful 25 = .ok (.getfield 12, 3) := by decide +kernel
theorem dX3_isLawful_28 : decode cX3_isLawful 28 = .ok (.getfield 152, 3) := by decide +kernel
theorem dX3_isLawful_31 : decode cX3_isLawful 31 = .ok (.iload_n 2, 1) := by decide +kernel
theorem dX3_isLawful_32 : decode cX3_isLawful 32 = .ok (.iaload, 1) := by decide +kernel
theorem dX3_isLawful_33 : decode cX3_isLawful 33 = .ok (.aload_n 1, 1) := by decide +kernel
theorem dX3_isLawful_34 : decode cX3_isLawful 34 = .ok (.getfield 59, 3) := by decide +kernel
theorem dX3_isLawful_37 : decode cX3_isLawful 37 = .ok (.getfield 120, 3) := by decide +kernel
theorem dX3_isLawful_40 : decode cX3_isLawful 40 = .ok (.iload_n 2, 1) := by decide +kernel
theorem dX3_isLawful_41 : decode cX3_isLawful 41 = .ok (.iaload, 1) := by decide +kernel
theorem dX3_isLawful_42 : decode cX3_isLawful 42 = .ok (.if_icmp .ge 5, 3) := by decide +kernel
theorem dX3_isLawful_45 : decode cX3_isLawful 45 = .ok (.iconst 0, 1) := by decide +kernel
theorem dX3_isLawful_46 : decode cX3_isLawful 46 = .ok (.ireturn, 1) := by decide +kernel
theorem dX3_isLawful_47 : decode cX3_isLawful 47 = .ok (.iinc 2 1, 3) := by decide +kernel
theorem dX3_isLawful_50 : decode cX3_isLawful 50 = .ok (.goto (-48), 3) := by decide +kernel
theorem dX3_isLawful_53 : decode cX3_isLawful 53 = .ok (.iconst 1, 1) := by decide +kernel
theorem dX3_isLawful_54 : decode cX3_isLawful 54 = .ok (.ireturn, 1) := by decide +kernel
set_option maxRecDepth 20000 in
theorem ggX3_planBest_X3_prepare : GoodIn wsX3_planBest wsX3_prepare := goodIn_r _ [8, 9, 10, 11, 12, 13, 1, 14, 2, 15, 16, 17, 18, 19, 20, 21, 22, 7, 23, 24, 25, 26, 27, 28, 29, 30, 31, 32, 33, 124, 125, 126, 127, 128, 129, 130, 131, 132, 133, 112, 113, 114, 115, 116, 117, 134, 135, 118, 119, 120, 121, 122, 123, 136, 137, 138, 139, 140, 141] (by decide +kernel) (by decide +kernel)
set_option maxRecDepth 20000 in
theorem gX3_planBest_X3_prepare : GoodIn wsX3_planBest (wsV RX3 155 RX3 yX3_prepare wsX3_prepare) := goodIn_app (goodIn_of _ (by decide +kernel)) ggX3_planBest_X3_prepare
set_option maxRecDepth 20000 in
theorem ggX3_planBest_X3_findHopeless : GoodIn wsX3_planBest wsX3_findHopeless := goodIn_r _ [37, 3, 1, 2, 17, 18, 19, 38, 124, 125, 126, 127, 128, 129, 130, 131, 132, 133, 112, 113, 114, 115, 116, 117, 118, 119, 120, 121, 122, 123, 136, 137, 138, 139, 140, 141] (by decide +kernel) (by decide +kernel)
set_option maxRecDepth 20000 in
theorem gX3_planBest_X3_findHopeless : GoodIn wsX3_planBest (wsV RX3 159 RX3 yX3_findHopeless wsX3_findHopeless) := goodIn_app (goodIn_of _ (by decide +kernel)) ggX3_planBest_X3_findHopeless
set_option maxRecDepth 20000 in
theorem ggX3_planBest_X3_furnish : GoodIn wsX3_planBest wsX3_furnish := goodIn_r _ [42, 43, 44, 45, 46, 1, 2, 13, 47, 48, 49, 50, 51, 52, 53, 54, 55, 56, 57, 25, 26, 27, 24, 58, 59, 60, 61, 62, 63, 64, 7, 65, 16, 66, 10, 12, 9, 67, 68, 14, 11, 69, 70, 71, 72, 38, 124, 125, 126, 127, 128, 129, 130, 131, 132, 133, 142, 143, 144, 145, 146, 112, 113, 114, 115, 116, 117, 118, 119, 120, 121, 122, 123, 134, 135] (by decide +kernel) (by decide +kernel)
set_option maxRecDepth 20000 in
theorem gX3_planBest_X3_furnish : GoodIn wsX3_planBest (wsV RX3 165 RX3 yX3_furnish wsX3_furnish) := goodIn_app (goodIn_of _ (by decide +kernel)) ggX3_planBest_X3_furnish
set_option maxRecDepth 20000 in
theorem ggX3_planBest_X3_placePupils : GoodIn wsX3_planBest wsX3_placePupils := goodIn_r _ [76, 43, 44, 77, 78, 17, 18, 24, 25, 26, 27, 79, 80, 81, 7, 82, 19, 83, 20, 1, 16, 84, 85, 86, 50, 87, 56, 88, 89, 90, 91, 92, 93, 94, 28, 29, 30, 31, 32, 33, 95, 96, 97, 98, 15, 99, 100, 101, 102, 55, 103, 104, 105, 106, 54, 107, 108, 109, 110, 2, 111, 38, 58, 59, 60, 61, 52, 124, 125, 126, 127, 128, 129, 130, 131, 132, 133, 142, 143, 144, 145, 146, 112, 113, 114, 115, 116, 117, 136, 137, 138, 139, 140, 141, 118, 119, 120, 121, 122, 123] (by decide +kernel) (by decide +kernel)
set_option maxRecDepth 20000 in
theorem gX3_planBest_X3_placePupils : GoodIn wsX3_planBest (wsV RX3 168 RX3 yX3_placePupils wsX3_placePupils) := goodIn_app (goodIn_of _ (by decide +kernel)) ggX3_planBest_X3_placePupils
theorem dX3_planBest_0 : decode cX3_planBest 0 = .ok (.aload_n 0, 1) := by decide +kernel
theorem dX3_planBest_1 : decode cX3_planBest 1 = .ok (.aload_n 1, 1) := by decide +kernel
theorem dX3_planBest_2 : decode cX3_planBest 2 = .ok (.invokevirtual 155, 3) := by decide +kernel
theorem dX3_planBest_5 : decode cX3_planBest 5 = .ok (.aload_n 0, 1) := by decide +kernel
theorem dX3_planBest_6 : decode cX3_planBest 6 = .ok (.aload_n 1, 1) := by decide +kernel
theorem dX3_planBest_7 : decode cX3_planBest 7 = .ok (.invokevirtual 159, 3) := by decide +kernel
theorem dX3_planBest_10 : decode cX3_planBest 10 = .ok (.iconst 0, 1) := by decide +kernel
theorem dX3_planBest_11 : decode cX3_planBest 11 = .ok (.istore_n 2, 1) := by decide +kernel
theorem dX3_planBest_12 : decode cX3_planBest 12 = .ok (.iconst 0, 1) := by decide +kernel
theorem dX3_planBest_13 : decode cX3_planBest 13 = .ok (.istore_n 3, 1) := by decide +kernel
theorem dX3_planBest_14 : decode cX3_planBest 14 = .ok (.iconst 1, 1) := by decide +kernel
theorem dX3_planBest_15 : decode cX3_planBest 15 = .ok (.aload_n 1, 1) := by decide +kernel
theorem dX3_planBest_16 : decode cX3_planBest 16 = .ok (.getfield 59, 3) := by decide +kernel
theorem dX3_planBest_19 : decode cX3_planBest 19 = .ok (.getfield 68, 3) := by decide +kernel
theorem dX3_planBest_22 : decode cX3_planBest 22 = .ok (.ishl, 1) := by decide +kernel
theorem dX3_planBest_23 : decode cX3_planBest 23 = .ok (.istore 4, 2) := by decide +kernel
theorem dX3_planBest_25 : decode cX3_planBest 25 = .ok (.iconst 1, 1) := by decide +kernel
theorem dX3_planBest_26 : decode cX3_planBest 26 = .ok (.istore 5, 2) := by decide +kernel
theorem dX3_planBest_28 : decode cX3_planBest 28 = .ok (.iload 5, 2) := by decide +kernel
theorem dX3_planBest_30 : decode cX3_planBest 30 = .ok (.iload 4, 2) := by decide +kernel
theorem dX3_planBest_32 : decode cX3_planBest 32 = .ok (.if_icmp .ge 48, 3) := by decide +kernel
theorem dX3_planBest_35 : decode cX3_planBest 35 = .ok (.iload 5, 2) := by decide +kernel
theorem dX3_planBest_37 : decode cX3_planBest 37 = .ok (.aload_n 0, 1) := by decide +kernel
theorem dX3_planBest_38 : decode cX3_planBest 38 = .ok (.getfield 162, 3) := by decide +kernel
theorem dX3_planBest_41 : decode cX3_planBest 41 = .ok (.iand, 1) := by decide +kernel
theorem dX3_planBest_42 : decode cX3_planBest 42 = .ok (.ifCond .ne 32, 3) := by decide +kernel
theorem dX3_planBest_45 : decode cX3_planBest 45 = .ok (.aload_n 0, 1) := by decide +kernel
theorem dX3_planBest_46 : decode cX3_planBest 46 = .ok (.aload_n 1, 1) := by decide +kernel
theorem dX3_planBest_47 : decode cX3_planBest 47 = .ok (.iload 5, 2) := by decide +kernel
theorem dX3_planBest_49 : decode cX3_planBest 49 = .ok (.invokevirtual 165, 3) := by decide +kernel
theorem dX3_planBest_52 : decode cX3_planBest 52 = .ok (.ifCond .eq 22, 3) := by decide +kernel
theorem dX3_planBest_55 : decode cX3_planBest 55 = .ok (.aload_n 0, 1) := by decide +kernel
theorem dX3_planBest_56 : decode cX3_planBest 56 = .ok (.aload_n 1, 1) := by decide +kernel
theorem dX3_planBest_57 : decode cX3_planBest 57 = .ok (.invokevirtual 168, 3) := by decide +kernel
theorem dX3_planBest_60 : decode cX3_planBest 60 = .ok (.istore 6, 2) := by decide +kernel
theorem dX3_planBest_62 : decode cX3_planBest 62 = .ok (.iload 6, 2) := by decide +kernel
theorem dX3_planBest_64 : decode cX3_planBest 64 = .ok (.iload_n 3, 1) := by decide +kernel
theorem dX3_planBest_65 : decode cX3_planBest 65 = .ok (.if_icmp .le 9, 3) := by decide +kernel
theorem dX3_planBest_68 : decode cX3_planBest 68 = .ok (.iload 5, 2) := by decide +kernel
theorem dX3_planBest_70 : decode cX3_planBest 70 = .ok (.istore_n 2, 1) := by decide +kernel
theorem dX3_planBest_71 : decode cX3_planBest 71 = .ok (.iload 6, 2) := by decide +kernel
theorem dX3_planBest_73 : decode cX3_planBest 73 = .ok (.istore_n 3, 1) := by decide +kernel
theorem dX3_planBest_74 : decode cX3_planBest 74 = .ok (.iinc 5 1, 3) := by decide +kernel
theorem dX3_planBest_77 : decode cX3_planBest 77 = .ok (.goto (-49), 3) := by decide +kernel
theorem dX3_planBest_80 : decode cX3_planBest 80 = .ok (.aload_n 0, 1) := by decide +kernel
theorem dX3_planBest_81 : decode cX3_planBest 81 = .ok (.aload_n 1, 1) := by decide +kernel
theorem dX3_planBest_82 : decode cX3_planBest 82 = .ok (.iload_n 2, 1) := by decide +kernel
theorem dX3_planBest_83 : decode cX3_planBest 83 = .ok (.invokevirtual 165, 3) := by decide +kernel
theorem dX3_planBest_86 : decode cX3_planBest 86 = .ok (.pop, 1) := by decide +kernel
theorem dX3_planBest_87 : decode cX3_planBest 87 = .ok (.aload_n 0, 1) := by decide +kernel
theorem dX3_planBest_88 : decode cX3_planBest 88 = .ok (.aload_n 1, 1) := by decide +kernel
theorem dX3_planBest_89 : decode cX3_planBest 89 = .ok (.invokevirtual 168, 3) := by decide +kernel
theorem dX3_planBest_92 : decode cX3_planBest 92 = .ok (.pop, 1) := by decide +kernel
theorem dX3_planBest_93 : decode cX3_planBest 93 = .ok (.iload_n 3, 1) := by decide +kernel
theorem dX3_planBest_94 : decode cX3_planBest 94 = .ok (.ireturn, 1) := by decide +kernel
theorem dX3_findHopeless_0 : decode cX3_findHopeless 0 = .ok (.aload_n 0, 1) := by decide +kernel
theorem dX3_findHopeless_1 : decode cX3_findHopeless 1 = .ok (.iconst 0, 1) := by decide +kernel
theorem dX3_findHopeless_2 : decode cX3_findHopeless 2 = .ok (.putfield 162, 3) := by decide +kernel
theorem dX3_findHopeless_5 : decode cX3_findHopeless 5 = .ok (.iconst 0, 1) := by decide +kernel
theorem dX3_findHopeless_6 : decode cX3_findHopeless 6 = .ok (.istore_n 2, 1) := by decide +kernel
theorem dX3_findHopeless_7 : decode cX3_findHopeless 7 = .ok (.iload_n 2, 1) := by decide +kernel
theorem dX3_findHopeless_8 : decode cX3_findHopeless 8 = .ok (.aload_n 1, 1) := by decide +kernel
theorem dX3_findHopeless_9 : decode cX3_findHopeless 9 = .ok (.getfield 59, 3) := by decide +kernel
theorem dX3_findHopeless_12 : decode cX3_findHopeless 12 = .ok (.getfield 68, 3) := by decide +kernel
theorem dX3_findHopeless_15 : decode cX3_findHopeless 15 = .ok (.if_icmp .ge 71, 3) := by decide +kernel
theorem dX3_findHopeless_18 : decode cX3_findHopeless 18 = .ok (.iconst 0, 1) := by decide +kernel
theorem dX3_findHopeless_19 : decode cX3_findHopeless 19 = .ok (.istore_n 3, 1) := by decide +kernel
theorem dX3_findHopeless_20 : decode cX3_findHopeless 20 = .ok (.iconst 0, 1) := by decide +kernel
theorem dX3_findHopeless_21 : decode cX3_findHopeless 21 = .ok (.istore 4, 2) := by decide +kernel
theorem dX3_findHopeless_23 : decode cX3_findHopeless 23 = .ok (.iload 4, 2) := by decide +kernel
theorem dX3_findHopeless_25 : decode cX3_findHopeless 25 = .ok (.aload_n 1, 1) := by decide +kernel
theorem dX3_findHopeless_26 : decode cX3_findHopeless 26 = .ok (.getfield 78, 3) := by decide +kernel
theorem dX3_findHopeless_29 : decode cX3_findHopeless 29 = .ok (.getfield 82, 3) := by decide +kernel
