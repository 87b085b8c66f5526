theorem dX3_findHopeless_32 : decode cX3_findHopeless 32 = .ok (.if_icmp .ge 23, 3) := by decide +kernel
theorem dX3_findHopeless_35 : decode cX3_findHopeless 35 = .ok (.iload_n 3, 1) := by decide +kernel
theorem dX3_findHopeless_36 : decode cX3_findHopeless 36 = .ok (.aload_n 0, 1) := by decide +kernel
theorem dX3_findHopeless_37 : decode cX3_findHopeless 37 = .ok (.getfield 34, 3) := by decide +kernel
theorem dX3_findHopeless_40 : decode cX3_findHopeless 40 = .ok (.iload 4, 2) := by decide +kernel
theorem dX3_findHopeless_42 : decode cX3_findHopeless 42 = .ok (.iaload, 1) := by decide +kernel
theorem dX3_findHopeless_43 : decode cX3_findHopeless 43 = .ok (.iload_n 2, 1) := by decide +kernel
theorem dX3_findHopeless_44 : decode cX3_findHopeless 44 = .ok (.ishr, 1) := by decide +kernel
theorem dX3_findHopeless_45 : decode cX3_findHopeless 45 = .ok (.iconst 1, 1) := by decide +kernel
theorem dX3_findHopeless_46 : decode cX3_findHopeless 46 = .ok (.iand, 1) := by decide +kernel
theorem dX3_findHopeless_47 : decode cX3_findHopeless 47 = .ok (.iadd, 1) := by decide +kernel
theorem dX3_findHopeless_48 : decode cX3_findHopeless 48 = .ok (.istore_n 3, 1) := by decide +kernel
theorem dX3_findHopeless_49 : decode cX3_findHopeless 49 = .ok (.iinc 4 1, 3) := by decide +kernel
theorem dX3_findHopeless_52 : decode cX3_findHopeless 52 = .ok (.goto (-29), 3) := by decide +kernel
theorem dX3_findHopeless_55 : decode cX3_findHopeless 55 = .ok (.iload_n 3, 1) := by decide +kernel
theorem dX3_findHopeless_56 : decode cX3_findHopeless 56 = .ok (.aload_n 1, 1) := by decide +kernel
theorem dX3_findHopeless_57 : decode cX3_findHopeless 57 = .ok (.getfield 59, 3) := by decide +kernel
theorem dX3_findHopeless_60 : decode cX3_findHopeless 60 = .ok (.getfield 120, 3) := by decide +kernel
theorem dX3_findHopeless_63 : decode cX3_findHopeless 63 = .ok (.iload_n 2, 1) := by decide +kernel
theorem dX3_findHopeless_64 : decode cX3_findHopeless 64 = .ok (.iaload, 1) := by decide +kernel
theorem dX3_findHopeless_65 : decode cX3_findHopeless 65 = .ok (.if_icmp .ge 15, 3) := by decide +kernel
theorem dX3_findHopeless_68 : decode cX3_findHopeless 68 = .ok (.aload_n 0, 1) := by decide +kernel
theorem dX3_findHopeless_69 : decode cX3_findHopeless 69 = .ok (.dup, 1) := by decide +kernel
theorem dX3_findHopeless_70 : decode cX3_findHopeless 70 = .ok (.getfield 162, 3) := by decide +kernel
theorem dX3_findHopeless_73 : decode cX3_findHopeless 73 = .ok (.iconst 1, 1) := by decide +kernel
theorem dX3_findHopeless_74 : decode cX3_findHopeless 74 = .ok (.iload_n 2, 1) := by decide +kernel
theorem dX3_findHopeless_75 : decode cX3_findHopeless 75 = .ok (.ishl, 1) := by decide +kernel
theorem dX3_findHopeless_76 : decode cX3_findHopeless 76 = .ok (.ior, 1) := by decide +kernel
theorem dX3_findHopeless_77 : decode cX3_findHopeless 77 = .ok (.putfield 162, 3) := by decide +kernel
theorem dX3_findHopeless_80 : decode cX3_findHopeless 80 = .ok (.iinc 2 1, 3) := by decide +kernel
theorem dX3_findHopeless_83 : decode cX3_findHopeless 83 = .ok (.goto (-76), 3) := by decide +kernel
theorem dX3_findHopeless_86 : decode cX3_findHopeless 86 = .ok (.return_, 1) := by decide +kernel
theorem dX4_init_0 : decode cX4_init 0 = .ok (.aload_n 0, 1) := by decide +kernel
theorem dX4_init_1 : decode cX4_init 1 = .ok (.invokespecial 3, 3) := by decide +kernel
theorem dX4_init_4 : decode cX4_init 4 = .ok (.aload_n 0, 1) := by decide +kernel
theorem dX4_init_5 : decode cX4_init 5 = .ok (.bipush 30, 2) := by decide +kernel
theorem dX4_init_7 : decode cX4_init 7 = .ok (.newarray .int, 2) := by decide +kernel
theorem dX4_init_9 : decode cX4_init 9 = .ok (.putfield 9, 3) := by decide +kernel
theorem dX4_init_12 : decode cX4_init 12 = .ok (.aload_n 0, 1) := by decide +kernel
theorem dX4_init_13 : decode cX4_init 13 = .ok (.bipush 30, 2) := by decide +kernel
theorem dX4_init_15 : decode cX4_init 15 = .ok (.newarray .int, 2) := by decide +kernel
theorem dX4_init_17 : decode cX4_init 17 = .ok (.putfield 15, 3) := by decide +kernel
theorem dX4_init_20 : decode cX4_init 20 = .ok (.aload_n 0, 1) := by decide +kernel
theorem dX4_init_21 : decode cX4_init 21 = .ok (.bipush 30, 2) := by decide +kernel
theorem dX4_init_23 : decode cX4_init 23 = .ok (.newarray .int, 2) := by decide +kernel
theorem dX4_init_25 : decode cX4_init 25 = .ok (.putfield 18, 3) := by decide +kernel
theorem dX4_init_28 : decode cX4_init 28 = .ok (.aload_n 0, 1) := by decide +kernel
theorem dX4_init_29 : decode cX4_init 29 = .ok (.bipush 30, 2) := by decide +kernel
theorem dX4_init_31 : decode cX4_init 31 = .ok (.newarray .int, 2) := by decide +kernel
theorem dX4_init_33 : decode cX4_init 33 = .ok (.putfield 21, 3) := by decide +kernel
theorem dX4_init_36 : decode cX4_init 36 = .ok (.aload_n 0, 1) := by decide +kernel
theorem dX4_init_37 : decode cX4_init 37 = .ok (.sipush 180, 3) := by decide +kernel
theorem dX4_init_40 : decode cX4_init 40 = .ok (.newarray .int, 2) := by decide +kernel
theorem dX4_init_42 : decode cX4_init 42 = .ok (.putfield 24, 3) := by decide +kernel
theorem dX4_init_45 : decode cX4_init 45 = .ok (.return_, 1) := by decide +kernel
theorem dX4_copyFrom_0 : decode cX4_copyFrom 0 = .ok (.aload_n 0, 1) := by decide +kernel
theorem dX4_copyFrom_1 : decode cX4_copyFrom 1 = .ok (.aload_n 1, 1) := by decide +kernel
theorem dX4_copyFrom_2 : decode cX4_copyFrom 2 = .ok (.getfield 27, 3) := by decide +kernel
theorem dX4_copyFrom_5 : decode cX4_copyFrom 5 = .ok (.putfield 27, 3) := by decide +kernel
theorem dX4_copyFrom_8 : decode cX4_copyFrom 8 = .ok (.aload_n 1, 1) := by decide +kernel
theorem dX4_copyFrom_9 : decode cX4_copyFrom 9 = .ok (.getfield 9, 3) := by decide +kernel
theorem dX4_copyFrom_12 : decode cX4_copyFrom 12 = .ok (.iconst 0, 1) := by decide +kernel
theorem dX4_copyFrom_13 : decode cX4_copyFrom 13 = .ok (.aload_n 0, 1) := by decide +kernel
theorem dX4_copyFrom_14 : decode cX4_copyFrom 14 = .ok (.getfield 9, 3) := by decide +kernel
theorem dX4_copyFrom_17 : decode cX4_copyFrom 17 = .ok (.iconst 0, 1) := by decide +kernel
theorem dX4_copyFrom_18 : decode cX4_copyFrom 18 = .ok (.bipush 30, 2) := by decide +kernel
theorem dX4_copyFrom_20 : decode cX4_copyFrom 20 = .ok (.invokestatic 31, 3) := by decide +kernel
theorem dX4_copyFrom_23 : decode cX4_copyFrom 23 = .ok (.aload_n 1, 1) := by decide +kernel
theorem dX4_copyFrom_24 : decode cX4_copyFrom 24 = .ok (.getfield 15, 3) := by decide +kernel
theorem dX4_copyFrom_27 : decode cX4_copyFrom 27 = .ok (.iconst 0, 1) := by decide +kernel
theorem dX4_copyFrom_28 : decode cX4_copyFrom 28 = .ok (.aload_n 0, 1) := by decide +kernel
theorem dX4_copyFrom_29 : decode cX4_copyFrom 29 = .ok (.getfield 15, 3) := by decide +kernel
theorem dX4_copyFrom_32 : decode cX4_copyFrom 32 = .ok (.iconst 0, 1) := by decide +kernel
theorem dX4_copyFrom_33 : decode cX4_copyFrom 33 = .ok (.bipush 30, 2) := by decide +kernel
theorem dX4_copyFrom_35 : decode cX4_copyFrom 35 = .ok (.invokestatic 31, 3) := by decide +kernel
theorem dX4_copyFrom_38 : decode cX4_copyFrom 38 = .ok (.aload_n 1, 1) := by decide +kernel
theorem dX4_copyFrom_39 : decode cX4_copyFrom 39 = .ok (.getfield 18, 3) := by decide +kernel
theorem dX4_copyFrom_42 : decode cX4_copyFrom 42 = .ok (.iconst 0, 1) := by decide +kernel
theorem dX4_copyFrom_43 : decode cX4_copyFrom 43 = .ok (.aload_n 0, 1) := by decide +kernel
theorem dX4_copyFrom_44 : decode cX4_copyFrom 44 = .ok (.getfield 18, 3) := by decide +kernel
theorem dX4_copyFrom_47 : decode cX4_copyFrom 47 = .ok (.iconst 0, 1) := by decide +kernel
theorem dX4_copyFrom_48 : decode cX4_copyFrom 48 = .ok (.bipush 30, 2) := by decide +kernel
theorem dX4_copyFrom_50 : decode cX4_copyFrom 50 = .ok (.invokestatic 31, 3) := by decide +kernel
theorem dX4_copyFrom_53 : decode cX4_copyFrom 53 = .ok (.aload_n 1, 1) := by decide +kernel
theorem dX4_copyFrom_54 : decode cX4_copyFrom 54 = .ok (.getfield 21, 3) := by decide +kernel
theorem dX4_copyFrom_57 : decode cX4_copyFrom 57 = .ok (.iconst 0, 1) := by decide +kernel
theorem dX4_copyFrom_58 : decode cX4_copyFrom 58 = .ok (.aload_n 0, 1) := by decide +kernel
theorem dX4_copyFrom_59 : decode cX4_copyFrom 59 = .ok (.getfield 21, 3) := by decide +kernel
theorem dX4_copyFrom_62 : decode cX4_copyFrom 62 = .ok (.iconst 0, 1) := by decide +kernel
theorem dX4_copyFrom_63 : decode cX4_copyFrom 63 = .ok (.bipush 30, 2) := by decide +kernel
theorem dX4_copyFrom_65 : decode cX4_copyFrom 65 = .ok (.invokestatic 31, 3) := by decide +kernel
theorem dX4_copyFrom_68 : decode cX4_copyFrom 68 = .ok (.aload_n 1, 1) := by decide +kernel
theorem dX4_copyFrom_69 : decode cX4_copyFrom 69 = .ok (.getfield 24, 3) := by decide +kernel
theorem dX4_copyFrom_72 : decode cX4_copyFrom 72 = .ok (.iconst 0, 1) := by decide +kernel
theorem dX4_copyFrom_73 : decode cX4_copyFrom 73 = .ok (.aload_n 0, 1) := by decide +kernel
theorem dX4_copyFrom_74 : decode cX4_copyFrom 74 = .ok (.getfield 24, 3) := by decide +kernel
theorem dX4_copyFrom_77 : decode cX4_copyFrom 77 = .ok (.iconst 0, 1) := by decide +kernel
theorem dX4_copyFrom_78 : decode cX4_copyFrom 78 = .ok (.sipush 180, 3) := by decide +kernel
theorem dX4_copyFrom_81 : decode cX4_copyFrom 81 = .ok (.invokestatic 31, 3) := by decide +kernel
theorem dX4_copyFrom_84 : decode cX4_copyFrom 84 = .ok (.return_, 1) := by decide +kernel
theorem dX4_courseOfRank_0 : decode cX4_courseOfRank 0 = .ok (.aload_n 0, 1) := by decide +kernel
theorem dX4_courseOfRank_1 : decode cX4_courseOfRank 1 = .ok (.getfield 24, 3) := by decide +kernel
theorem dX4_courseOfRank_4 : decode cX4_courseOfRank 4 = .ok (.iload_n 1, 1) := by decide +kernel
theorem dX4_courseOfRank_5 : decode cX4_courseOfRank 5 = .ok (.bipush 6, 2) := by decide +kernel
theorem dX4_courseOfRank_7 : decode cX4_courseOfRank 7 = .ok (.imul, 1) := by decide +kernel
theorem dX4_courseOfRank_8 : decode cX4_courseOfRank 8 = .ok (.iload_n 2, 1) := by decide +kernel
theorem dX4_courseOfRank_9 : decode cX4_courseOfRank 9 = .ok (.iadd, 1) := by decide +kernel
theorem dX4_courseOfRank_10 : decode cX4_courseOfRank 10 = .ok (.iaload, 1) := by decide +kernel
theorem dX4_courseOfRank_11 : decode cX4_courseOfRank 11 = .ok (.ireturn, 1) := by decide +kernel
set_option maxRecDepth 20000 in
theorem ggX4_rankOf_X4_courseOfRank : GoodIn wsX4_rankOf wsX4_courseOfRank := goodIn_r _ [6, 7, 8, 9, 10, 11, 12, 13] (by decide +kernel) (by decide +kernel)
set_option maxRecDepth 20000 in
theorem gX4_rankOf_X4_courseOfRank : GoodIn wsX4_rankOf (wsV RX4 37 RX4 yX4_courseOfRank wsX4_courseOfRank) := goodIn_app (goodIn_of _ (by decide +kernel)) ggX4_rankOf_X4_courseOfRank
theorem dX4_rankOf_0 : decode cX4_rankOf 0 = .ok (.iconst 0, 1) := by decide +kernel
theorem dX4_rankOf_1 : decode cX4_rankOf 1 = .ok (.istore_n 3, 1) := by decide +kernel
theorem dX4_rankOf_2 : decode cX4_rankOf 2 = .ok (.iload_n 3, 1) := by decide +kernel
theorem dX4_rankOf_3 : decode cX4_rankOf 3 = .ok (.aload_n 0, 1) := by decide +kernel
theorem dX4_rankOf_4 : decode cX4_rankOf 4 = .ok (.getfield 21, 3) := by decide +kernel
theorem dX4_rankOf_7 : decode cX4_rankOf 7 = .ok (.iload_n 1, 1) := by decide +kernel
theorem dX4_rankOf_8 : decode cX4_rankOf 8 = .ok (.iaload, 1) := by decide +kernel
theorem dX4_rankOf_9 : decode cX4_rankOf 9 = .ok (.if_icmp .ge 21, 3) := by decide +kernel
theorem dX4_rankOf_12 : decode cX4_rankOf 12 = .ok (.aload_n 0, 1) := by decide +kernel
theorem dX4_rankOf_13 : decode cX4_rankOf 13 = .ok (.iload_n 1, 1) := by decide +kernel
theorem dX4_rankOf_14 : decode cX4_rankOf 14 = .ok (.iload_n 3, 1) := by decide +kernel
theorem dX4_rankOf_15 : decode cX4_rankOf 15 = .ok (.invokevirtual 37, 3) := by decide +kernel
theorem dX4_rankOf_18 : decode cX4_rankOf 18 = .ok (.iload_n 2, 1) := by decide +kernel
theorem dX4_rankOf_19 : decode cX4_rankOf 19 = .ok (.if_icmp .ne 5, 3) := by decide +kernel
theorem dX4_rankOf_22 : decode cX4_rankOf 22 = .ok (.iload_n 3, 1) := by decide +kernel
theorem dX4_rankOf_23 : decode cX4_rankOf 23 = .ok (.ireturn, 1) := by decide +kernel
theorem dX4_rankOf_24 : decode cX4_rankOf 24 = .ok (.iinc 3 1, 3) := by decide +kernel
theorem dX4_rankOf_27 : decode cX4_rankOf 27 = .ok (.goto (-25), 3) := by decide +kernel
theorem dX4_rankOf_30 : decode cX4_rankOf 30 = .ok (.iconst (-1), 1) := by decide +kernel
theorem dX4_rankOf_31 : decode cX4_rankOf 31 = .ok (.ireturn, 1) := by decide +kernel
theorem dX4_addWish_0 : decode cX4_addWish 0 = .ok (.aload_n 0, 1) := by decide +kernel
theorem dX4_addWish_1 : decode cX4_addWish 1 = .ok (.getfield 21, 3) := by decide +kernel
theorem dX4_addWish_4 : decode cX4_addWish 4 = .ok (.iload_n 1, 1) := by decide +kernel
theorem dX4_addWish_5 : decode cX4_addWish 5 = .ok (.iaload, 1) := by decide +kernel
theorem dX4_addWish_6 : decode cX4_addWish 6 = .ok (.istore_n 3, 1) := by decide +kernel
theorem dX4_addWish_7 : decode cX4_addWish 7 = .ok (.aload_n 0, 1) := by decide +kernel
theorem dX4_addWish_8 : decode cX4_addWish 8 = .ok (.getfield 24, 3) := by decide +kernel
theorem dX4_addWish_11 : decode cX4_addWish 11 = .ok (.iload_n 1, 1) := by decide +kernel
theorem dX4_addWish_12 : decode cX4_addWish 12 = .ok (.bipush 6, 2) := by decide +kernel
theorem dX4_addWish_14 : decode cX4_addWish 14 = .ok (.imul, 1) := by decide +kernel
theorem dX4_addWish_15 : decode cX4_addWish 15 = .ok (.iload_n 3, 1) := by decide +kernel
theorem dX4_addWish_16 : decode cX4_addWish 16 = .ok (.iadd, 1) := by decide +kernel
theorem dX4_addWish_17 : decode cX4_addWish 17 = .ok (.iload_n 2, 1) := by decide +kernel
theorem dX4_addWish_18 : decode cX4_addWish 18 = .ok (.iastore, 1) := by decide +kernel
theorem dX4_addWish_19 : decode cX4_addWish 19 = .ok (.aload_n 0, 1) := by decide +kernel
theorem dX4_addWish_20 : decode cX4_addWish 20 = .ok (.getfield 21, 3) := by decide +kernel
theorem dX4_addWish_23 : decode cX4_addWish 23 = .ok (.iload_n 1, 1) := by decide +kernel
theorem dX4_addWish_24 : decode cX4_addWish 24 = .ok (.iload_n 3, 1) := by decide +kernel
theorem dX4_addWish_25 : decode cX4_addWish 25 = .ok (.iconst 1, 1) := by decide +kernel
theorem dX4_addWish_26 : decode cX4_addWish 26 = .ok (.iadd, 1) := by decide +kernel
theorem dX4_addWish_27 : decode cX4_addWish 27 = .ok (.iastore, 1) := by decide +kernel
theorem dX4_addWish_28 : decode cX4_addWish 28 = .ok (.iload_n 3, 1) := by decide +kernel
theorem dX4_addWish_29 : decode cX4_addWish 29 = .ok (.ireturn, 1) := by decide +kernel
set_option maxRecDepth 20000 in
theorem ggX4_dropWish_X4_rankOf : GoodIn wsX4_dropWish wsX4_rankOf := goodIn_r _ [7, 1, 8, 9, 10, 6, 11, 2, 12, 13, 14, 15, 16, 17] (by decide +kernel) (by decide +kernel)
set_option maxRecDepth 20000 in
theorem gX4_dropWish_X4_rankOf : GoodIn wsX4_dropWish (wsV RX4 41 RX4 yX4_rankOf wsX4_rankOf) := goodIn_app (goodIn_of _ (by decide +kernel)) ggX4_dropWish_X4_rankOf
set_option maxRecDepth 20000 in
theorem ggX4_dropWish_X4_courseOfRank : GoodIn wsX4_dropWish wsX4_courseOfRank := goodIn_r _ [11, 2, 12, 13, 14, 15, 16, 17] (by decide +kernel) (by decide +kernel)
set_option maxRecDepth 20000 in
theorem gX4_dropWish_X4_courseOfRank : GoodIn wsX4_dropWish (wsV RX4 37 RX4 yX4_courseOfRank wsX4_courseOfRank) := goodIn_app (goodIn_of _ (by decide +kernel)) ggX4_dropWish_X4_courseOfRank
theorem dX4_dropWish_0 : decode cX4_dropWish 0 = .ok (.aload_n 0, 1) := by decide +kernel
theorem dX4_dropWish_1 : decode cX4_dropWish 1 = .ok (.iload_n 1, 1) := by decide +kernel
theorem dX4_dropWish_2 : decode cX4_dropWish 2 = .ok (.iload_n 2, 1) := by decide +kernel
theorem dX4_dropWish_3 : decode cX4_dropWish 3 = .ok (.invokevirtual 41, 3) := by decide +kernel
theorem dX4_dropWish_6 : decode cX4_dropWish 6 = .ok (.istore_n 3, 1) := by decide +kernel
theorem dX4_dropWish_7 : decode cX4_dropWish 7 = .ok (.iload_n 3, 1) := by decide +kernel
theorem dX4_dropWish_8 : decode cX4_dropWish 8 = .ok (.iconst (-1), 1) := by decide +kernel
theorem dX4_dropWish_9 : decode cX4_dropWish 9 = .ok (.if_icmp .ne 4, 3) := by decide +kernel
theorem dX4_dropWish_12 : decode cX4_dropWish 12 = .ok (.return_, 1) := by decide +kernel
theorem dX4_dropWish_13 : decode cX4_dropWish 13 = .ok (.aload_n 0, 1) := by decide +kernel
theorem dX4_dropWish_14 : decode cX4_dropWish 14 = .ok (.getfield 21, 3) := by decide +kernel
theorem dX4_dropWish_17 : decode cX4_dropWish 17 = .ok (.iload_n 1, 1) := by decide +kernel
theorem dX4_dropWish_18 : decode cX4_dropWish 18 = .ok (.iaload, 1) := by decide +kernel
theorem dX4_dropWish_19 : decode cX4_dropWish 19 = .ok (.iconst 1, 1) := by decide +kernel
theorem dX4_dropWish_20 : decode cX4_dropWish 20 = .ok (.isub, 1) := by decide +kernel
theorem dX4_dropWish_21 : decode cX4_dropWish 21 = .ok (.istore 4, 2) := by decide +kernel
theorem dX4_dropWish_23 : decode cX4_dropWish 23 = .ok (.iload_n 3, 1) := by decide +kernel
theorem dX4_dropWish_24 : decode cX4_dropWish 24 = .ok (.istore 5, 2) := by decide +kernel
theorem dX4_dropWish_26 : decode cX4_dropWish 26 = .ok (.iload 5, 2) := by decide +kernel
theorem dX4_dropWish_28 : decode cX4_dropWish 28 = .ok (.iload 4, 2) := by decide +kernel
theorem dX4_dropWish_30 : decode cX4_dropWish 30 = .ok (.if_icmp .ge 30, 3) := by decide +kernel
theorem dX4_dropWish_33 : decode cX4_dropWish 33 = .ok (.aload_n 0, 1) := by decide +kernel
theorem dX4_dropWish_34 : decode cX4_dropWish 34 = .ok (.getfield 24, 3) := by decide +kernel
theorem dX4_dropWish_37 : decode cX4_dropWish 37 = .ok (.iload_n 1, 1) := by decide +kernel
theorem dX4_dropWish_38 : decode cX4_dropWish 38 = .ok (.bipush 6, 2) := by decide +kernel
theorem dX4_dropWish_40 : decode cX4_dropWish 40 = .ok (.imul, 1) := by decide +kernel
theorem dX4_dropWish_41 : decode cX4_dropWish 41 = .ok (.iload 5, 2) := by decide +kernel
theorem dX4_dropWish_43 : decode cX4_dropWish 43 = .ok (.iadd, 1) := by decide +kernel
theorem dX4_dropWish_44 : decode cX4_dropWish 44 = .ok (.aload_n 0, 1) := by decide +kernel
theorem dX4_dropWish_45 : decode cX4_dropWish 45 = .ok (.iload_n 1, 1) := by decide +kernel
theorem dX4_dropWish_46 : decode cX4_dropWish 46 = .ok (.iload 5, 2) := by decide +kernel
theorem dX4_dropWish_48 : decode cX4_dropWish 48 = .ok (.iconst 1, 1) := by decide +kernel
theorem dX4_dropWish_49 : decode cX4_dropWish 49 = .ok (.iadd, 1) := by decide +kernel
theorem dX4_dropWish_50 : decode cX4_dropWish 50 = .ok (.invokevirtual 37, 3) := by decide +kernel
theorem dX4_dropWish_53 : decode cX4_dropWish 53 = .ok (.iastore, 1) := by decide +kernel
theorem dX4_dropWish_54 : decode cX4_dropWish 54 = .ok (.iinc 5 1, 3) := by decide +kernel
theorem dX4_dropWish_57 : decode cX4_dropWish 57 = .ok (.goto (-31), 3) := by decide +kernel
theorem dX4_dropWish_60 : decode cX4_dropWish 60 = .ok (.aload_n 0, 1) := by decide +kernel
theorem dX4_dropWish_61 : decode cX4_dropWish 61 = .ok (.getfield 21, 3) := by decide +kernel
theorem dX4_dropWish_64 : decode cX4_dropWish 64 = .ok (.iload_n 1, 1) := by decide +kernel
theorem dX4_dropWish_65 : decode cX4_dropWish 65 = .ok (.iload 4, 2) := by decide +kernel
theorem dX4_dropWish_67 : decode cX4_dropWish 67 = .ok (.iastore, 1) := by decide +kernel
theorem dX4_dropWish_68 : decode cX4_dropWish 68 = .ok (.return_, 1) := by decide +kernel
theorem dX5_init_0 : decode cX5_init 0 = .ok (.aload_n 0, 1) := by decide +kernel
theorem dX5_init_1 : decode cX5_init 1 = .ok (.invokespecial 3, 3) := by decide +kernel
theorem dX5_init_4 : decode cX5_init 4 = .ok (.aload_n 0, 1) := by decide +kernel
theorem dX5_init_5 : decode cX5_init 5 = .ok (.iconst 5, 1) := by decide +kernel
theorem dX5_init_6 : decode cX5_init 6 = .ok (.newarray .int, 2) := by decide +kernel
theorem dX5_init_8 : decode cX5_init 8 = .ok (.putfield 9, 3) := by decide +kernel
theorem dX5_init_11 : decode cX5_init 11 = .ok (.return_, 1) := by decide +kernel
theorem dX5_copyFrom_0 : decode cX5_copyFrom 0 = .ok (.aload_n 0, 1) := by decide +kernel
theorem dX5_copyFrom_1 : decode cX5_copyFrom 1 = .ok (.aload_n 1, 1) := by decide +kernel
theorem dX5_copyFrom_2 : decode cX5_copyFrom 2 = .ok (.getfield 15, 3) := by decide +kernel
theorem dX5_copyFrom_5 : decode cX5_copyFrom 5 = .ok (.putfield 15, 3) := by decide +kernel
theorem dX5_copyFrom_8 : decode cX5_copyFrom 8 = .ok (.aload_n 1, 1) := by decide +kernel
theorem dX5_copyFrom_9 : decode cX5_copyFrom 9 = .ok (.getfield 9, 3) := by decide +kernel
theorem dX5_copyFrom_12 : decode cX5_copyFrom 12 = .ok (.iconst 0, 1) := by decide +kernel
theorem dX5_copyFrom_13 : decode cX5_copyFrom 13 = .ok (.aload_n 0, 1) := by decide +kernel
theorem dX5_copyFrom_14 : decode cX5_copyFrom 14 = .ok (.getfield 9, 3) := by decide +kernel
theorem dX5_copyFrom_17 : decode cX5_copyFrom 17 = .ok (.iconst 0, 1) := by decide +kernel
theorem dX5_copyFrom_18 : decode cX5_copyFrom 18 = .ok (.iconst 5, 1) := by decide +kernel
theorem dX5_copyFrom_19 : decode cX5_copyFrom 19 = .ok (.invokestatic 19, 3) := by decide +kernel
theorem dX5_copyFrom_22 : decode cX5_copyFrom 22 = .ok (.return_, 1) := by decide +kernel
set_option maxRecDepth 20000 in
theorem ggX6_init_X5_init : GoodIn wsX6_init wsX5_init := goodIn_r _ [29, 30, 2, 3, 31, 32, 79, 80] (by decide +kernel) (by decide +kernel)
set_option maxRecDepth 20000 in
theorem gX6_init_X5_init_n11 : GoodIn wsX6_init (wsX5_init) := ggX6_init_X5_init
set_option maxRecDepth 20000 in
theorem ggX6_init_X0_init : GoodIn wsX6_init wsX0_init := goodIn_r _ [34, 35, 2, 3, 31, 36, 37, 38, 39, 40, 87, 88, 89, 90, 91, 92] (by decide +kernel) (by decide +kernel)
set_option maxRecDepth 20000 in
theorem gX6_init_X0_init_n20 : GoodIn wsX6_init (wsX0_init) := ggX6_init_X0_init
set_option maxRecDepth 20000 in
theorem ggX6_init_X4_init : GoodIn wsX6_init wsX4_init := goodIn_r _ [42, 43, 2, 3, 31, 44, 45, 46, 47, 48, 93, 94, 95, 96, 97, 98] (by decide +kernel) (by decide +kernel)
set_option maxRecDepth 20000 in
theorem gX6_init_X4_init_n27 : GoodIn wsX6_init (wsX4_init) := ggX6_init_X4_init
set_option maxRecDepth 20000 in
theorem ggX6_init_X7_init : GoodIn wsX6_init wsX7_init := goodIn_r _ [51, 52, 2, 3, 31, 53, 54, 55, 56, 57, 58, 59, 60, 99, 100, 101, 102, 103] (by decide +kernel) (by decide +kernel)
set_option maxRecDepth 20000 in
theorem gX6_init_X7_init : GoodIn wsX6_init (wsX7_init) := ggX6_init_X7_init
set_option maxRecDepth 20000 in
theorem ggX6_init_X8_init : GoodIn wsX6_init wsX8_init := goodIn_r _ [62, 63, 2, 3, 64, 31, 65, 66, 67, 68, 104, 105, 106, 107, 108, 109] (by decide +kernel) (by decide +kernel)
set_option maxRecDepth 20000 in
theorem gX6_init_X8_init_n41 : GoodIn wsX6_init (wsX8_init) := ggX6_init_X8_init
set_option maxRecDepth 20000 in
theorem ggX6_init_X2_init : GoodIn wsX6_init wsX2_init := goodIn_r _ [70, 71, 2, 3, 31, 72, 73, 74, 75, 76, 77, 78, 110, 111, 112, 113, 114, 115, 116, 117] (by decide +kernel) (by decide +kernel)
set_option maxRecDepth 20000 in
theorem gX6_init_X2_init_n48 : GoodIn wsX6_init (wsX2_init) := ggX6_init_X2_init
theorem dX6_init_0 : decode cX6_init 0 = .ok (.aload_n 0, 1) := by decide +kernel
theorem dX6_init_1 : decode cX6_init 1 = .ok (.invokespecial 3, 3) := by decide +kernel
theorem dX6_init_4 : decode cX6_init 4 = .ok (.aload_n 0, 1) := by decide +kernel
theorem dX6_init_5 : decode cX6_init 5 = .ok (.new 9, 3) := by decide +kernel
theorem dX6_init_8 : decode cX6_init 8 = .ok (.dup, 1) := by decide +kernel
theorem dX6_init_9 : decode cX6_init 9 = .ok (.invokespecial 11, 3) := by decide +kernel
theorem dX6_init_12 : decode cX6_init 12 = .ok (.putfield 12, 3) := by decide +kernel
theorem dX6_init_15 : decode cX6_init 15 = .ok (.aload_n 0, 1) := by decide +kernel
theorem dX6_init_16 : decode cX6_init 16 = .ok (.new 18, 3) := by decide +kernel
theorem dX6_init_19 : decode cX6_init 19 = .ok (.dup, 1) := by decide +kernel
theorem dX6_init_20 : decode cX6_init 20 = .ok (.invokespecial 20, 3) := by decide +kernel
theorem dX6_init_23 : decode cX6_init 23 = .ok (.putfield 21, 3) := by decide +kernel
theorem dX6_init_26 : decode cX6_init 26 = .ok (.aload_n 0, 1) := by decide +kernel
theorem dX6_init_27 : decode cX6_init 27 = .ok (.new 25, 3) := by decide +kernel
theorem dX6_init_30 : decode cX6_init 30 = .ok (.dup, 1) := by decide +kernel
theorem dX6_init_31 : decode cX6_init 31 = .ok (.invokespecial 27, 3) := by decide +kernel
theorem dX6_init_34 : decode cX6_init 34 = .ok (.putfield 28, 3) := by decide +kernel
theorem dX6_init_37 : decode cX6_init 37 = .ok (.aload_n 0, 1) := by decide +kernel
theorem dX6_init_38 : decode cX6_init 38 = .ok (.new 32, 3) := by decide +kernel
theorem dX6_init_41 : decode cX6_init 41 = .ok (.dup, 1) := by decide +kernel
theorem dX6_init_42 : decode cX6_init 42 = .ok (.invokespecial 34, 3) := by decide +kernel
theorem dX6_init_45 : decode cX6_init 45 = .ok (.putfield 35, 3) := by decide +kernel
theorem dX6_init_48 : decode cX6_init 48 = .ok (.aload_n 0, 1) := by decide +kernel
theorem dX6_init_49 : decode cX6_init 49 = .ok (.new 39, 3) := by decide +kernel
theorem dX6_init_52 : decode cX6_init 52 = .ok (.dup, 1) := by decide +kernel
theorem dX6_init_53 : decode cX6_init 53 = .ok (.invokespecial 41, 3) := by decide +kernel
theorem dX6_init_56 : decode cX6_init 56 = .ok (.putfield 42, 3) := by decide +kernel
theorem dX6_init_59 : decode cX6_init 59 = .ok (.aload_n 0, 1) := by decide +kernel
theorem dX6_init_60 : decode cX6_init 60 = .ok (.new 46, 3) := by decide +kernel
theorem dX6_init_63 : decode cX6_init 63 = .ok (.dup, 1) := by decide +kernel
theorem dX6_init_64 : decode cX6_init 64 = .ok (.invokespecial 48, 3) := by decide +kernel
theorem dX6_init_67 : decode cX6_init 67 = .ok (.putfield 49, 3) := by decide +kernel
theorem dX6_init_70 : decode cX6_init 70 = .ok (.return_, 1) := by decide +kernel
set_option maxRecDepth 20000 in
theorem ggX6_copyFrom_X5_copyFrom : GoodIn wsX6_copyFrom wsX5_copyFrom := goodIn_r _ [11, 12, 13, 14, 15, 16, 17, 85, 86] (by decide +kernel) (by decide +kernel)
set_option maxRecDepth 20000 in
theorem gX6_copyFrom_X5_copyFrom : GoodIn wsX6_copyFrom (wsV RX6 53 RX5 yX5_copyFrom wsX5_copyFrom) := goodIn_app (goodIn_of _ (by decide +kernel)) ggX6_copyFrom_X5_copyFrom
set_option maxRecDepth 20000 in
theorem ggX6_copyFrom_X0_copyFrom : GoodIn wsX6_copyFrom wsX0_copyFrom := goodIn_r _ [22, 23, 24, 25, 15, 16, 17, 26, 27, 28, 29, 87, 88, 89, 90, 91, 92] (by decide +kernel) (by decide +kernel)
set_option maxRecDepth 20000 in
theorem gX6_copyFrom_X0_copyFrom : GoodIn wsX6_copyFrom (wsV RX6 57 RX0 yX0_copyFrom wsX0_copyFrom) := goodIn_app (goodIn_of _ (by decide +kernel)) ggX6_copyFrom_X0_copyFrom
set_option maxRecDepth 20000 in
theorem ggX6_copyFrom_X4_copyFrom : GoodIn wsX6_copyFrom wsX4_copyFrom := goodIn_r _ [34, 35, 36, 37, 15, 16, 17, 38, 39, 40, 41, 93, 94, 95, 96, 97, 98] (by decide +kernel) (by decide +kernel)
set_option maxRecDepth 20000 in
theorem gX6_copyFrom_X4_copyFrom : GoodIn wsX6_copyFrom (wsV RX6 60 RX4 yX4_copyFrom wsX4_copyFrom) := goodIn_app (goodIn_of _ (by decide +kernel)) ggX6_copyFrom_X4_copyFrom
set_option maxRecDepth 20000 in
theorem ggX6_copyFrom_X7_copyFrom : GoodIn wsX6_copyFrom wsX7_copyFrom := goodIn_r _ [46, 47, 48, 49, 15, 16, 17, 50, 51, 52, 99, 100, 101, 102, 103] (by decide +kernel) (by decide +kernel)
set_option maxRecDepth 20000 in
theorem gX6_copyFrom_X7_copyFrom : GoodIn wsX6_copyFrom (wsV RX6 63 RX7 yX7_copyFrom wsX7_copyFrom) := goodIn_app (goodIn_of _ (by decide +kernel)) ggX6_copyFrom_X7_copyFrom
set_option maxRecDepth 20000 in
theorem ggX6_copyFrom_X8_copyFrom : GoodIn wsX6_copyFrom wsX8_copyFrom := goodIn_r _ [57, 58, 59, 60, 61, 15, 16, 17, 62, 63, 64, 104, 105, 106, 107, 108, 109] (by decide +kernel) (by decide +kernel)
set_option maxRecDepth 20000 in
theorem gX6_copyFrom_X8_copyFrom : GoodIn wsX6_copyFrom (wsV RX6 66 RX8 yX8_copyFrom wsX8_copyFrom) := goodIn_app (goodIn_of _ (by decide +kernel)) ggX6_copyFrom_X8_copyFrom
set_option maxRecDepth 20000 in
theorem ggX6_copyFrom_X2_copyFrom : GoodIn wsX6_copyFrom wsX2_copyFrom := goodIn_r _ [69, 70, 71, 72, 15, 16, 17, 73, 74, 75, 76, 77, 78, 110, 111, 112, 113, 114, 115, 116, 117] (by decide +kernel) (by decide +kernel)
set_option maxRecDepth 20000 in
theorem gX6_copyFrom_X2_copyFrom : GoodIn wsX6_copyFrom (wsV RX6 69 RX2 yX2_copyFrom wsX2_copyFrom) := goodIn_app (goodIn_of _ (by decide +kernel)) ggX6_copyFrom_X2_copyFrom
theorem dX6_copyFrom_0 : decode cX6_copyFrom 0 = .ok (.aload_n 0, 1) := by decide +kernel
theorem dX6_copyFrom_1 : decode cX6_copyFrom 1 = .ok (.getfield 12, 3) := by decide +kernel
theorem dX6_copyFrom_4 : decode cX6_copyFrom 4 = .ok (.aload_n 1, 1) := by decide +kernel
theorem dX6_copyFrom_5 : decode cX6_copyFrom 5 = .ok (.getfield 12, 3) := by decide +kernel
theorem dX6_copyFrom_8 : decode cX6_copyFrom 8 = .ok (.invokevirtual 53, 3) := by decide +kernel
theorem dX6_copyFrom_11 : decode cX6_copyFrom 11 = .ok (.aload_n 0, 1) := by decide +kernel
theorem dX6_copyFrom_12 : decode cX6_copyFrom 12 = .ok (.getfield 21, 3) := by decide +kernel
theorem dX6_copyFrom_15 : decode cX6_copyFrom 15 = .ok (.aload_n 1, 1) := by decide +kernel
theorem dX6_copyFrom_16 : decode cX6_copyFrom 16 = .ok (.getfield 21, 3) := by decide +kernel
theorem dX6_copyFrom_19 : decode cX6_copyFrom 19 = .ok (.invokevirtual 57, 3) := by decide +kernel
theorem dX6_copyFrom_22 : decode cX6_copyFrom 22 = .ok (.aload_n 0, 1) := by decide +kernel
theorem dX6_copyFrom_23 : decode cX6_copyFrom 23 = .ok (.getfield 28, 3) := by decide +kernel
theorem dX6_copyFrom_26 : decode cX6_copyFrom 26 = .ok (.aload_n 1, 1) := by decide +kernel
theorem dX6_copyFrom_27 : decode cX6_copyFrom 27 = .ok (.getfield 28, 3) := by decide +kernel
theorem dX6_copyFrom_30 : decode cX6_copyFrom 30 = .ok (.invokevirtual 60, 3) := by decide +kernel
theorem dX6_copyFrom_33 : decode cX6_copyFrom 33 = .ok (.aload_n 0, 1) := by decide +kernel
theorem dX6_copyFrom_34 : decode cX6_copyFrom 34 = .ok (.getfield 35, 3) := by decide +kernel
theorem dX6_copyFrom_37 : decode cX6_copyFrom 37 = .ok (.aload_n 1, 1) := by decide +kernel
theorem dX6_copyFrom_38 : decode cX6_copyFrom 38 = .ok (.getfield 35, 3) := by decide +kernel
theorem dX6_copyFrom_41 : decode cX6_copyFrom 41 = .ok (.invokevirtual 63, 3) := by decide +kernel
theorem dX6_copyFrom_44 : decode cX6_copyFrom 44 = .ok (.aload_n 0, 1) := by decide +kernel
theorem dX6_copyFrom_45 : decode cX6_copyFrom 45 = .ok (.getfield 42, 3) := by decide +kernel
theorem dX6_copyFrom_48 : decode cX6_copyFrom 48 = .ok (.aload_n 1, 1) := by decide +kernel
theorem dX6_copyFrom_49 : decode cX6_copyFrom 49 = .ok (.getfield 42, 3) := by decide +kernel
theorem dX6_copyFrom_52 : decode cX6_copyFrom 52 = .ok (.invokevirtual 66, 3) := by decide +kernel
theorem dX6_copyFrom_55 : decode cX6_copyFrom 55 = .ok (.aload_n 0, 1) := by decide +kernel
theorem dX6_copyFrom_56 : decode cX6_copyFrom 56 = .ok (.getfield 49, 3) := by decide +kernel
theorem dX6_copyFrom_59 : decode cX6_copyFrom 59 = .ok (.aload_n 1, 1) := by decide +kernel
theorem dX6_copyFrom_60 : decode cX6_copyFrom 60 = .ok (.getfield 49, 3) := by decide +kernel
theorem dX6_copyFrom_63 : decode cX6_copyFrom 63 = .ok (.invokevirtual 69, 3) := by decide +kernel
theorem dX6_copyFrom_66 : decode cX6_copyFrom 66 = .ok (.return_, 1) := by decide +kernel
set_option maxRecDepth 20000 in
theorem ggX6_courseOn_X7_hasCourse : GoodIn wsX6_courseOn wsX7_hasCourse := goodIn_r _ [9, 10, 23, 24, 25, 26, 27] (by decide +kernel) (by decide +kernel)
set_option maxRecDepth 20000 in
theorem gX6_courseOn_X7_hasCourse : GoodIn wsX6_courseOn (wsV RX6 80 RX7 yX7_hasCourse wsX7_hasCourse) := goodIn_app (goodIn_of _ (by decide +kernel)) ggX6_courseOn_X7_hasCourse
theorem dX6_courseOn_0 : decode cX6_courseOn 0 = .ok (.iconst 0, 1) := by decide +kernel
theorem dX6_courseOn_1 : decode cX6_courseOn 1 = .ok (.istore_n 3, 1) := by decide +kernel
theorem dX6_courseOn_2 : decode cX6_courseOn 2 = .ok (.iload_n 3, 1) := by decide +kernel
theorem dX6_courseOn_3 : decode cX6_courseOn 3 = .ok (.aload_n 0, 1) := by decide +kernel
theorem dX6_courseOn_4 : decode cX6_courseOn 4 = .ok (.getfield 21, 3) := by decide +kernel
theorem dX6_courseOn_7 : decode cX6_courseOn 7 = .ok (.getfield 72, 3) := by decide +kernel
theorem dX6_courseOn_10 : decode cX6_courseOn 10 = .ok (.if_icmp .ge 36, 3) := by decide +kernel
theorem dX6_courseOn_13 : decode cX6_courseOn 13 = .ok (.aload_n 0, 1) := by decide +kernel
theorem dX6_courseOn_14 : decode cX6_courseOn 14 = .ok (.getfield 21, 3) := by decide +kernel
theorem dX6_courseOn_17 : decode cX6_courseOn 17 = .ok (.getfield 76, 3) := by decide +kernel
theorem dX6_courseOn_20 : decode cX6_courseOn 20 = .ok (.iload_n 3, 1) := by decide +kernel
theorem dX6_courseOn_21 : decode cX6_courseOn 21 = .ok (.iaload, 1) := by decide +kernel
theorem dX6_courseOn_22 : decode cX6_courseOn 22 = .ok (.iload_n 2, 1) := by decide +kernel
theorem dX6_courseOn_23 : decode cX6_courseOn 23 = .ok (.if_icmp .ne 17, 3) := by decide +kernel
theorem dX6_courseOn_26 : decode cX6_courseOn 26 = .ok (.aload_n 0, 1) := by decide +kernel
theorem dX6_courseOn_27 : decode cX6_courseOn 27 = .ok (.getfield 35, 3) := by decide +kernel
theorem dX6_courseOn_30 : decode cX6_courseOn 30 = .ok (.iload_n 1, 1) := by decide +kernel
theorem dX6_courseOn_31 : decode cX6_courseOn 31 = .ok (.iload_n 3, 1) := by decide +kernel
theorem dX6_courseOn_32 : decode cX6_courseOn 32 = .ok (.invokevirtual 80, 3) := by decide +kernel
theorem dX6_courseOn_35 : decode cX6_courseOn 35 = .ok (.ifCond .eq 5, 3) := by decide +kernel
theorem dX6_courseOn_38 : decode cX6_courseOn 38 = .ok (.iload_n 3, 1) := by decide +kernel
theorem dX6_courseOn_39 : decode cX6_courseOn 39 = .ok (.ireturn, 1) := by decide +kernel
theorem dX6_courseOn_40 : decode cX6_courseOn 40 = .ok (.iinc 3 1, 3) := by decide +kernel
theorem dX6_courseOn_43 : decode cX6_courseOn 43 = .ok (.goto (-41), 3) := by decide +kernel
theorem dX6_courseOn_46 : decode cX6_courseOn 46 = .ok (.iconst (-1), 1) := by decide +kernel
theorem dX6_courseOn_47 : decode cX6_courseOn 47 = .ok (.ireturn, 1) := by decide +kernel
set_option maxRecDepth 20000 in
theorem ggX6_reasonFor_X7_hasCourse : GoodIn wsX6_reasonFor wsX7_hasCourse := goodIn_r _ [10, 11, 63, 64, 65, 66, 67] (by decide +kernel) (by decide +kernel)
set_option maxRecDepth 20000 in
theorem gX6_reasonFor_X7_hasCourse : GoodIn wsX6_reasonFor (wsV RX6 80 RX7 yX7_hasCourse wsX7_hasCourse) := goodIn_app (goodIn_of _ (by decide +kernel)) ggX6_reasonFor_X7_hasCourse
set_option maxRecDepth 20000 in
theorem ggX6_reasonFor_X4_rankOf : GoodIn wsX6_reasonFor wsX4_rankOf := goodIn_r _ [16, 17, 18, 19, 20, 15, 21, 22, 57, 58, 59, 60, 61, 62] (by decide +kernel) (by decide +kernel)
set_option maxRecDepth 20000 in
theorem gX6_reasonFor_X4_rankOf : GoodIn wsX6_reasonFor (wsV RX6 84 RX4 yX4_rankOf wsX4_rankOf) := goodIn_app (goodIn_of _ (by decide +kernel)) ggX6_reasonFor_X4_rankOf
set_option maxRecDepth 20000 in
theorem ggX6_reasonFor_X7_isHeld : GoodIn wsX6_reasonFor wsX7_isHeld := goodIn_r _ [26, 27, 63, 64, 65, 66, 67] (by decide +kernel) (by decide +kernel)
set_option maxRecDepth 20000 in
theorem gX6_reasonFor_X7_isHeld : GoodIn wsX6_reasonFor (wsV RX6 88 RX7 yX7_isHeld wsX7_isHeld) := goodIn_app (goodIn_of _ (by decide +kernel)) ggX6_reasonFor_X7_isHeld
set_option maxRecDepth 20000 in
theorem ggX6_reasonFor_X6_courseOn : GoodIn wsX6_reasonFor wsX6_courseOn := goodIn_r _ [32, 3, 33, 4, 1, 6, 7, 8, 9, 10, 11, 45, 46, 47, 48, 49, 50, 51, 52, 53, 54, 55, 56, 63, 64, 65, 66, 67] (by decide +kernel) (by decide +kernel)
set_option maxRecDepth 20000 in
theorem gX6_reasonFor_X6_courseOn : GoodIn wsX6_reasonFor (wsV RX6 92 RX6 yX6_courseOn wsX6_courseOn) := goodIn_app (goodIn_of _ (by decide +kernel)) ggX6_reasonFor_X6_courseOn
set_option maxRecDepth 20000 in
theorem ggX6_reasonFor_X7_coursesOf : GoodIn wsX6_reasonFor wsX7_coursesOf := goodIn_r _ [37, 11, 38, 39, 40, 41, 42, 43, 44, 63, 64, 65, 66, 67] (by decide +kernel) (by decide +kernel)
set_option maxRecDepth 20000 in
theorem gX6_reasonFor_X7_coursesOf : GoodIn wsX6_reasonFor (wsV RX6 95 RX7 yX7_coursesOf wsX7_coursesOf) := goodIn_app (goodIn_of _ (by decide +kernel)) ggX6_reasonFor_X7_coursesOf
theorem dX6_reasonFor_0 : decode cX6_reasonFor 0 = .ok (.aload_n 0, 1) := by decide +kernel
theorem dX6_reasonFor_1 : decode cX6_reasonFor 1 = .ok (.getfield 35, 3) := by decide +kernel
theorem dX6_reasonFor_4 : decode cX6_reasonFor 4 = .ok (.iload_n 1, 1) := by decide +kernel
theorem dX6_reasonFor_5 : decode cX6_reasonFor 5 = .ok (.iload_n 2, 1) := by decide +kernel
theorem dX6_reasonFor_6 : decode cX6_reasonFor 6 = .ok (.invokevirtual 80, 3) := by decide +kernel
theorem dX6_reasonFor_9 : decode cX6_reasonFor 9 = .ok (.ifCond .eq 5, 3) := by decide +kernel
theorem dX6_reasonFor_12 : decode cX6_reasonFor 12 = .ok (.iconst 0, 1) := by decide +kernel
theorem dX6_reasonFor_13 : decode cX6_reasonFor 13 = .ok (.ireturn, 1) := by decide +kernel
theorem dX6_reasonFor_14 : decode cX6_reasonFor 14 = .ok (.aload_n 0, 1) := by decide +kernel
theorem dX6_reasonFor_15 : decode cX6_reasonFor 15 = .ok (.getfield 28, 3) := by decide +kernel
theorem dX6_reasonFor_18 : decode cX6_reasonFor 18 = .ok (.iload_n 1, 1) := by decide +kernel
theorem dX6_reasonFor_19 : decode cX6_reasonFor 19 = .ok (.iload_n 2, 1) := by decide +kernel
theorem dX6_reasonFor_20 : decode cX6_reasonFor 20 = .ok (.invokevirtual 84, 3) := by decide +kernel
theorem dX6_reasonFor_23 : decode cX6_reasonFor 23 = .ok (.istore_n 3, 1) := by decide +kernel
theorem dX6_reasonFor_24 : decode cX6_reasonFor 24 = .ok (.iload_n 3, 1) := by decide +kernel
theorem dX6_reasonFor_25 : decode cX6_reasonFor 25 = .ok (.iconst (-1), 1) := by decide +kernel
theorem dX6_reasonFor_26 : decode cX6_reasonFor 26 = .ok (.if_icmp .ne 5, 3) := by decide +kernel
theorem dX6_reasonFor_29 : decode cX6_reasonFor 29 = .ok (.iconst 1, 1) := by decide +kernel
theorem dX6_reasonFor_30 : decode cX6_reasonFor 30 = .ok (.ireturn, 1) := by decide +kernel
theorem dX6_reasonFor_31 : decode cX6_reasonFor 31 = .ok (.aload_n 0, 1) := by decide +kernel
theorem dX6_reasonFor_32 : decode cX6_reasonFor 32 = .ok (.getfield 35, 3) := by decide +kernel
theorem dX6_reasonFor_35 : decode cX6_reasonFor 35 = .ok (.iload_n 2, 1) := by decide +kernel
theorem dX6_reasonFor_36 : decode cX6_reasonFor 36 = .ok (.invokevirtual 88, 3) := by decide +kernel
theorem dX6_reasonFor_39 : decode cX6_reasonFor 39 = .ok (.ifCond .ne 5, 3) := by decide +kernel
theorem dX6_reasonFor_42 : decode cX6_reasonFor 42 = .ok (.iconst 2, 1) := by decide +kernel
theorem dX6_reasonFor_43 : decode cX6_reasonFor 43 = .ok (.ireturn, 1) := by decide +kernel
theorem dX6_reasonFor_44 : decode cX6_reasonFor 44 = .ok (.aload_n 0, 1) := by decide +kernel
theorem dX6_reasonFor_45 : decode cX6_reasonFor 45 = .ok (.iload_n 1, 1) := by decide +kernel
theorem dX6_reasonFor_46 : decode cX6_reasonFor 46 = .ok (.aload_n 0, 1) := by decide +kernel
theorem dX6_reasonFor_47 : decode cX6_reasonFor 47 = .ok (.getfield 21, 3) := by decide +kernel
theorem dX6_reasonFor_50 : decode cX6_reasonFor 50 = .ok (.getfield 76, 3) := by decide +kernel
theorem dX6_reasonFor_53 : decode cX6_reasonFor 53 = .ok (.iload_n 2, 1) := by decide +kernel
theorem dX6_reasonFor_54 : decode cX6_reasonFor 54 = .ok (.iaload, 1) := by decide +kernel
theorem dX6_reasonFor_55 : decode cX6_reasonFor 55 = .ok (.invokevirtual 92, 3) := by decide +kernel
theorem dX6_reasonFor_58 : decode cX6_reasonFor 58 = .ok (.istore 4, 2) := by decide +kernel
theorem dX6_reasonFor_60 : decode cX6_reasonFor 60 = .ok (.iload 4, 2) := by decide +kernel
theorem dX6_reasonFor_62 : decode cX6_reasonFor 62 = .ok (.iconst (-1), 1) := by decide +kernel
theorem dX6_reasonFor_63 : decode cX6_reasonFor 63 = .ok (.if_icmp .eq 23, 3) := by decide +kernel
theorem dX6_reasonFor_66 : decode cX6_reasonFor 66 = .ok (.aload_n 0, 1) := by decide +kernel
theorem dX6_reasonFor_67 : decode cX6_reasonFor 67 = .ok (.getfield 28, 3) := by decide +kernel
theorem dX6_reasonFor_70 : decode cX6_reasonFor 70 = .ok (.iload_n 1, 1) := by decide +kernel
theorem dX6_reasonFor_71 : decode cX6_reasonFor 71 = .ok (.iload 4, 2) := by decide +kernel
theorem dX6_reasonFor_73 : decode cX6_reasonFor 73 = .ok (.invokevirtual 84, 3) := by decide +kernel
theorem dX6_reasonFor_76 : decode cX6_reasonFor 76 = .ok (.iload_n 3, 1) := by decide +kernel
theorem dX6_reasonFor_77 : decode cX6_reasonFor 77 = .ok (.if_icmp .ge 7, 3) := by decide +kernel
theorem dX6_reasonFor_80 : decode cX6_reasonFor 80 = .ok (.iconst 3, 1) := by decide +kernel
theorem dX6_reasonFor_81 : decode cX6_reasonFor 81 = .ok (.goto 4, 3) := by decide +kernel
theorem dX6_reasonFor_84 : decode cX6_reasonFor 84 = .ok (.iconst 5, 1) := by decide +kernel
theorem dX6_reasonFor_85 : decode cX6_reasonFor 85 = .ok (.ireturn, 1) := by decide +kernel
theorem dX6_reasonFor_86 : decode cX6_reasonFor 86 = .ok (.aload_n 0, 1) := by decide +kernel
theorem dX6_reasonFor_87 : decode cX6_reasonFor 87 = .ok (.getfield 35, 3) := by decide +kernel
theorem dX6_reasonFor_90 : decode cX6_reasonFor 90 = .ok (.iload_n 1, 1) := by decide +kernel
theorem dX6_reasonFor_91 : decode cX6_reasonFor 91 = .ok (.invokevirtual 95, 3) := by decide +kernel
theorem dX6_reasonFor_94 : decode cX6_reasonFor 94 = .ok (.aload_n 0, 1) := by decide +kernel
theorem dX6_reasonFor_95 : decode cX6_reasonFor 95 = .ok (.getfield 28, 3) := by decide +kernel
theorem dX6_reasonFor_98 : decode cX6_reasonFor 98 = .ok (.getfield 99, 3) := by decide +kernel
theorem dX6_reasonFor_101 : decode cX6_reasonFor 101 = .ok (.iload_n 1, 1) := by decide +kernel
theorem dX6_reasonFor_102 : decode cX6_reasonFor 102 = .ok (.iaload, 1) := by decide +kernel
theorem dX6_reasonFor_103 : decode cX6_reasonFor 103 = .ok (.if_icmp .lt 7, 3) := by decide +kernel
theorem dX6_reasonFor_106 : decode cX6_reasonFor 106 = .ok (.iconst 4, 1) := by decide +kernel
theorem dX6_reasonFor_107 : decode cX6_reasonFor 107 = .ok (.goto 4, 3) := by decide +kernel
theorem dX6_reasonFor_110 : decode cX6_reasonFor 110 = .ok (.iconst 5, 1) := by decide +kernel
theorem dX6_reasonFor_111 : decode cX6_reasonFor 111 = .ok (.ireturn, 1) := by decide +kernel
set_option maxRecDepth 20000 in
theorem ggX6_moveUp_X6_moveFirstPupil : GoodIn wsX6_moveUp wsX6_moveFirstPupil := goodIn_r _ [5, 6, 7, 8, 9, 10, 11, 12, 13, 14, 15, 16, 17, 18, 19, 20, 21, 22, 23, 24, 25, 4, 26, 27, 28, 29, 30, 31, 32, 33, 34, 35, 36, 37, 38, 39, 40, 41, 42, 43, 44, 45, 46, 47, 48, 49, 50, 51, 52, 53, 54, 55, 56, 57, 58, 59, 60, 61, 62, 63, 64, 65, 66, 67, 68, 69, 70, 71, 72, 73, 74, 75, 76, 77, 78, 79, 80, 81, 82, 83, 84, 85, 86, 87, 88, 89, 90, 91, 92, 93, 94, 95, 96, 97, 98, 99, 100, 101, 102, 103, 104, 105] (by decide +kernel) (by decide +kernel)
set_option maxRecDepth 20000 in
theorem gX6_moveUp_X6_moveFirstPupil : GoodIn wsX6_moveUp (wsV RX6 102 RX6 yX6_moveFirstPupil wsX6_moveFirstPupil) := goodIn_app (goodIn_of _ (by decide +kernel)) ggX6_moveUp_X6_moveFirstPupil
theorem dX6_moveUp_0 : decode cX6_moveUp 0 = .ok (.iconst 1, 1) := by decide +kernel
theorem dX6_moveUp_1 : decode cX6_moveUp 1 = .ok (.istore_n 1, 1) := by decide +kernel
theorem dX6_moveUp_2 : decode cX6_moveUp 2 = .ok (.iconst 0, 1) := by decide +kernel
theorem dX6_moveUp_3 : decode cX6_moveUp 3 = .ok (.istore_n 2, 1) := by decide +kernel
theorem dX6_moveUp_4 : decode cX6_moveUp 4 = .ok (.iload_n 1, 1) := by decide +kernel
theorem dX6_moveUp_5 : decode cX6_moveUp 5 = .ok (.ifCond .eq 21, 3) := by decide +kernel
theorem dX6_moveUp_8 : decode cX6_moveUp 8 = .ok (.iload_n 2, 1) := by decide +kernel
theorem dX6_moveUp_9 : decode cX6_moveUp 9 = .ok (.sipush 10000, 3) := by decide +kernel
theorem dX6_moveUp_12 : decode cX6_moveUp 12 = .ok (.if_icmp .ge 14, 3) := by decide +kernel
theorem dX6_moveUp_15 : decode cX6_moveUp 15 = .ok (.aload_n 0, 1) := by decide +kernel
theorem dX6_moveUp_16 : decode cX6_moveUp 16 = .ok (.invokevirtual 102, 3) := by decide +kernel
theorem dX6_moveUp_19 : decode cX6_moveUp 19 = .ok (.istore_n 1, 1) := by decide +kernel
theorem dX6_moveUp_20 : decode cX6_moveUp 20 = .ok (.iinc 2 1, 3) := by decide +kernel
theorem dX6_moveUp_23 : decode cX6_moveUp 23 = .ok (.goto (-19), 3) := by decide +kernel
theorem dX6_moveUp_26 : decode cX6_moveUp 26 = .ok (.return_, 1) := by decide +kernel
set_option maxRecDepth 20000 in
theorem ggX6_moveFirstPupil_X4_courseOfRank : GoodIn wsX6_moveFirstPupil wsX4_courseOfRank := goodIn_r _ [9, 10, 79, 80, 81, 82, 83, 84] (by decide +kernel) (by decide +kernel)
set_option maxRecDepth 20000 in
theorem gX6_moveFirstPupil_X4_courseOfRank : GoodIn wsX6_moveFirstPupil (wsV RX6 110 RX4 yX4_courseOfRank wsX4_courseOfRank) := goodIn_app (goodIn_of _ (by decide +kernel)) ggX6_moveFirstPupil_X4_courseOfRank
set_option maxRecDepth 20000 in
theorem ggX6_moveFirstPupil_X7_hasPlaceLeft : GoodIn wsX6_moveFirstPupil wsX7_hasPlaceLeft := goodIn_r _ [15, 16, 17, 85, 86, 87, 88, 89] (by decide +kernel) (by decide +kernel)
set_option maxRecDepth 20000 in
theorem gX6_moveFirstPupil_X7_hasPlaceLeft : GoodIn wsX6_moveFirstPupil (wsV RX6 113 RX7 yX7_hasPlaceLeft wsX7_hasPlaceLeft) := goodIn_app (goodIn_of _ (by decide +kernel)) ggX6_moveFirstPupil_X7_hasPlaceLeft
set_option maxRecDepth 20000 in
theorem ggX6_moveFirstPupil_X6_reasonFor : GoodIn wsX6_moveFirstPupil wsX6_reasonFor := goodIn_r _ [22, 4, 1, 23, 24, 25, 26, 27, 28, 14, 29, 30, 31, 32, 33, 8, 34, 35, 36, 6, 7, 9, 10, 37, 38, 39, 40, 41, 42, 43, 44, 21, 45, 46, 47, 48, 49, 50, 51, 52, 53, 54, 55, 56, 57, 73, 74, 75, 76, 77, 78, 90, 91, 92, 93, 94, 95, 79, 80, 81, 82, 83, 84, 85, 86, 87, 88, 89] (by decide +kernel) (by decide +kernel)
set_option maxRecDepth 20000 in
theorem gX6_moveFirstPupil_X6_reasonFor : GoodIn wsX6_moveFirstPupil (wsV RX6 116 RX6 yX6_reasonFor wsX6_reasonFor) := goodIn_app (goodIn_of _ (by decide +kernel)) ggX6_moveFirstPupil_X6_reasonFor
set_option maxRecDepth 20000 in
theorem ggX6_moveFirstPupil_X6_moveInto : GoodIn wsX6_moveFirstPupil wsX6_moveInto := goodIn_r _ [61, 23, 24, 4, 62, 63, 64, 42, 43, 44, 21, 45, 46, 26, 27, 28, 14, 29, 30, 65, 66, 67, 68, 16, 69, 70, 71, 72, 73, 74, 75, 76, 77, 78, 90, 91, 92, 93, 94, 95, 96, 97, 98, 99, 100, 101, 85, 86, 87, 88, 89] (by decide +kernel) (by decide +kernel)
set_option maxRecDepth 20000 in
theorem gX6_moveFirstPupil_X6_moveInto : GoodIn wsX6_moveFirstPupil (wsV RX6 119 RX6 yX6_moveInto wsX6_moveInto) := goodIn_app (goodIn_of _ (by decide +kernel)) ggX6_moveFirstPupil_X6_moveInto
theorem dX6_moveFirstPupil_0 : decode cX6_moveFirstPupil 0 = .ok (.iconst 0, 1) := by decide +kernel
theorem dX6_moveFirstPupil_1 : decode cX6_moveFirstPupil 1 = .ok (.istore_n 1, 1) := by decide +kernel
theorem dX6_moveFirstPupil_2 : decode cX6_moveFirstPupil 2 = .ok (.iload_n 1, 1) := by decide +kernel
theorem dX6_moveFirstPupil_3 : decode cX6_moveFirstPupil 3 = .ok (.aload_n 0, 1) := by decide +kernel
theorem dX6_moveFirstPupil_4 : decode cX6_moveFirstPupil 4 = .ok (.getfield 28, 3) := by decide +kernel
theorem dX6_moveFirstPupil_7 : decode cX6_moveFirstPupil 7 = .ok (.getfield 106, 3) := by decide +kernel
theorem dX6_moveFirstPupil_10 : decode cX6_moveFirstPupil 10 = .ok (.if_icmp .ge 69, 3) := by decide +kernel
theorem dX6_moveFirstPupil_13 : decode cX6_moveFirstPupil 13 = .ok (.iconst 0, 1) := by decide +kernel
theorem dX6_moveFirstPupil_14 : decode cX6_moveFirstPupil 14 = .ok (.istore_n 2, 1) := by decide +kernel
theorem dX6_moveFirstPupil_15 : decode cX6_moveFirstPupil 15 = .ok (.iload_n 2, 1) := by decide +kernel
theorem dX6_moveFirstPupil_16 : decode cX6_moveFirstPupil 16 = .ok (.aload_n 0, 1) := by decide +kernel
theorem dX6_moveFirstPupil_17 : decode cX6_moveFirstPupil 17 = .ok (.getfield 28, 3) := by decide +kernel
theorem dX6_moveFirstPupil_20 : decode cX6_moveFirstPupil 20 = .ok (.getfield 107, 3) := by decide +kernel
theorem dX6_moveFirstPupil_23 : decode cX6_moveFirstPupil 23 = .ok (.iload_n 1, 1) := by decide +kernel
theorem dX6_moveFirstPupil_24 : decode cX6_moveFirstPupil 24 = .ok (.iaload, 1) := by decide +kernel
theorem dX6_moveFirstPupil_25 : decode cX6_moveFirstPupil 25 = .ok (.if_icmp .ge 48, 3) := by decide +kernel
theorem dX6_moveFirstPupil_28 : decode cX6_moveFirstPupil 28 = .ok (.aload_n 0, 1) := by decide +kernel
theorem dX6_moveFirstPupil_29 : decode cX6_moveFirstPupil 29 = .ok (.getfield 28, 3) := by decide +kernel
theorem dX6_moveFirstPupil_32 : decode cX6_moveFirstPupil 32 = .ok (.iload_n 1, 1) := by decide +kernel
theorem dX6_moveFirstPupil_33 : decode cX6_moveFirstPupil 33 = .ok (.iload_n 2, 1) := by decide +kernel
theorem dX6_moveFirstPupil_34 : decode cX6_moveFirstPupil 34 = .ok (.invokevirtual 110, 3) := by decide +kernel
theorem dX6_moveFirstPupil_37 : decode cX6_moveFirstPupil 37 = .ok (.istore_n 3, 1) := by decide +kernel
theorem dX6_moveFirstPupil_38 : decode cX6_moveFirstPupil 38 = .ok (.aload_n 0, 1) := by decide +kernel
theorem dX6_moveFirstPupil_39 : decode cX6_moveFirstPupil 39 = .ok (.getfield 35, 3) := by decide +kernel
theorem dX6_moveFirstPupil_42 : decode cX6_moveFirstPupil 42 = .ok (.iload_n 3, 1) := by decide +kernel
theorem dX6_moveFirstPupil_43 : decode cX6_moveFirstPupil 43 = .ok (.invokevirtual 113, 3) := by decide +kernel
theorem dX6_moveFirstPupil_46 : decode cX6_moveFirstPupil 46 = .ok (.ifCond .eq 21, 3) := by decide +kernel
theorem dX6_moveFirstPupil_49 : decode cX6_moveFirstPupil 49 = .ok (.aload_n 0, 1) := by decide +kernel
theorem dX6_moveFirstPupil_50 : decode cX6_moveFirstPupil 50 = .ok (.iload_n 1, 1) := by decide +kernel
theorem dX6_moveFirstPupil_51 : decode cX6_moveFirstPupil 51 = .ok (.iload_n 3, 1) := by decide +kernel
theorem dX6_moveFirstPupil_52 : decode cX6_moveFirstPupil 52 = .ok (.invokevirtual 116, 3) := by decide +kernel
theorem dX6_moveFirstPupil_55 : decode cX6_moveFirstPupil 55 = .ok (.iconst 5, 1) := by decide +kernel
theorem dX6_moveFirstPupil_56 : decode cX6_moveFirstPupil 56 = .ok (.if_icmp .ne 11, 3) := by decide +kernel
theorem dX6_moveFirstPupil_59 : decode cX6_moveFirstPupil 59 = .ok (.aload_n 0, 1) := by decide +kernel
theorem dX6_moveFirstPupil_60 : decode cX6_moveFirstPupil 60 = .ok (.iload_n 1, 1) := by decide +kernel
theorem dX6_moveFirstPupil_61 : decode cX6_moveFirstPupil 61 = .ok (.iload_n 3, 1) := by decide +kernel
theorem dX6_moveFirstPupil_62 : decode cX6_moveFirstPupil 62 = .ok (.invokevirtual 119, 3) := by decide +kernel
theorem dX6_moveFirstPupil_65 : decode cX6_moveFirstPupil 65 = .ok (.iconst 1, 1) := by decide +kernel
theorem dX6_moveFirstPupil_66 : decode cX6_moveFirstPupil 66 = .ok (.ireturn, 1) := by decide +kernel
theorem dX6_moveFirstPupil_67 : decode cX6_moveFirstPupil 67 = .ok (.iinc 2 1, 3) := by decide +kernel
theorem dX6_moveFirstPupil_70 : decode cX6_moveFirstPupil 70 = .ok (.goto (-55), 3) := by decide +kernel
theorem dX6_moveFirstPupil_73 : decode cX6_moveFirstPupil 73 = .ok (.iinc 1 1, 3) := by decide +kernel
theorem dX6_moveFirstPupil_76 : decode cX6_moveFirstPupil 76 = .ok (.goto (-74), 3) := by decide +kernel
theorem dX6_moveFirstPupil_79 : decode cX6_moveFirstPupil 79 = .ok (.iconst 0, 1) := by decide +kernel
theorem dX6_moveFirstPupil_80 : decode cX6_moveFirstPupil 80 = .ok (.ireturn, 1) := by decide +kernel
set_option maxRecDepth 20000 in
theorem ggX6_moveInto_X6_courseOn : GoodIn wsX6_moveInto wsX6_courseOn := goodIn_r _ [11, 1, 12, 2, 3, 13, 14, 15, 16, 17, 18, 28, 29, 30, 31, 32, 33, 34, 35, 36, 37, 38, 39, 46, 47, 48, 49, 50] (by decide +kernel) (by decide +kernel)
set_option maxRecDepth 20000 in
theorem gX6_moveInto_X6_courseOn : GoodIn wsX6_moveInto (wsV RX6 92 RX6 yX6_courseOn wsX6_courseOn) := goodIn_app (goodIn_of _ (by decide +kernel)) ggX6_moveInto_X6_courseOn
set_option maxRecDepth 20000 in
theorem ggX6_moveInto_X7_takeAway : GoodIn wsX6_moveInto wsX7_takeAway := goodIn_r _ [22, 18, 23, 46, 47, 48, 49, 50] (by decide +kernel) (by decide +kernel)
set_option maxRecDepth 20000 in
theorem gX6_moveInto_X7_takeAway : GoodIn wsX6_moveInto (wsV RX6 123 RX7 yX7_takeAway wsX7_takeAway) := goodIn_app (goodIn_of _ (by decide +kernel)) ggX6_moveInto_X7_takeAway
set_option maxRecDepth 20000 in
theorem ggX6_moveInto_X7_give : GoodIn wsX6_moveInto wsX7_give := goodIn_r _ [27, 18, 23, 46, 47, 48, 49, 50] (by decide +kernel) (by decide +kernel)
set_option maxRecDepth 20000 in
theorem gX6_moveInto_X7_give : GoodIn wsX6_moveInto (wsV RX6 126 RX7 yX7_give wsX7_give) := goodIn_app (goodIn_of _ (by decide +kernel)) ggX6_moveInto_X7_give
theorem dX6_moveInto_0 : decode cX6_moveInto 0 = .ok (.aload_n 0, 1) := by decide +kernel
theorem dX6_moveInto_1 : decode cX6_moveInto 1 = .ok (.iload_n 1, 1) := by decide +kernel
theorem dX6_moveInto_2 : decode cX6_moveInto 2 = .ok (.aload_n 0, 1) := by decide +kernel
theorem dX6_moveInto_3 : decode cX6_moveInto 3 = .ok (.getfield 21, 3) := by decide +kernel
theorem dX6_moveInto_6 : decode cX6_moveInto 6 = .ok (.getfield 76, 3) := by decide +kernel
theorem dX6_moveInto_9 : decode cX6_moveInto 9 = .ok (.iload_n 2, 1) := by decide +kernel
theorem dX6_moveInto_10 : decode cX6_moveInto 10 = .ok (.iaload, 1) := by decide +kernel
theorem dX6_moveInto_11 : decode cX6_moveInto 11 = .ok (.invokevirtual 92, 3) := by decide +kernel
theorem dX6_moveInto_14 : decode cX6_moveInto 14 = .ok (.istore_n 3, 1) := by decide +kernel
theorem dX6_moveInto_15 : decode cX6_moveInto 15 = .ok (.iload_n 3, 1) := by decide +kernel
theorem dX6_moveInto_16 : decode cX6_moveInto 16 = .ok (.iconst (-1), 1) := by decide +kernel
theorem dX6_moveInto_17 : decode cX6_moveInto 17 = .ok (.if_icmp .eq 12, 3) := by decide +kernel
theorem dX6_moveInto_20 : decode cX6_moveInto 20 = .ok (.aload_n 0, 1) := by decide +kernel
theorem dX6_moveInto_21 : decode cX6_moveInto 21 = .ok (.getfield 35, 3) := by decide +kernel
theorem dX6_moveInto_24 : decode cX6_moveInto 24 = .ok (.iload_n 1, 1) := by decide +kernel
theorem dX6_moveInto_25 : decode cX6_moveInto 25 = .ok (.iload_n 3, 1) := by decide +kernel
theorem dX6_moveInto_26 : decode cX6_moveInto 26 = .ok (.invokevirtual 123, 3) := by decide +kernel
theorem dX6_moveInto_29 : decode cX6_moveInto 29 = .ok (.aload_n 0, 1) := by decide +kernel
theorem dX6_moveInto_30 : decode cX6_moveInto 30 = .ok (.getfield 35, 3) := by decide +kernel
theorem dX6_moveInto_33 : decode cX6_moveInto 33 = .ok (.iload_n 1, 1) := by decide +kernel
theorem dX6_moveInto_34 : decode cX6_moveInto 34 = .ok (.iload_n 2, 1) := by decide +kernel
theorem dX6_moveInto_35 : decode cX6_moveInto 35 = .ok (.invokevirtual 126, 3) := by decide +kernel
theorem dX6_moveInto_38 : decode cX6_moveInto 38 = .ok (.aload_n 0, 1) := by decide +kernel
theorem dX6_moveInto_39 : decode cX6_moveInto 39 = .ok (.getfield 42, 3) := by decide +kernel
theorem dX6_moveInto_42 : decode cX6_moveInto 42 = .ok (.getfield 129, 3) := by decide +kernel
theorem dX6_moveInto_45 : decode cX6_moveInto 45 = .ok (.iload_n 1, 1) := by decide +kernel
theorem dX6_moveInto_46 : decode cX6_moveInto 46 = .ok (.dup2, 1) := by decide +kernel
theorem dX6_moveInto_47 : decode cX6_moveInto 47 = .ok (.iaload, 1) := by decide +kernel
theorem dX6_moveInto_48 : decode cX6_moveInto 48 = .ok (.iconst 1, 1) := by decide +kernel
theorem dX6_moveInto_49 : decode cX6_moveInto 49 = .ok (.iadd, 1) := by decide +kernel
theorem dX6_moveInto_50 : decode cX6_moveInto 50 = .ok (.iastore, 1) := by decide +kernel
theorem dX6_moveInto_51 : decode cX6_moveInto 51 = .ok (.aload_n 0, 1) := by decide +kernel
theorem dX6_moveInto_52 : decode cX6_moveInto 52 = .ok (.getfield 42, 3) := by decide +kernel
theorem dX6_moveInto_55 : decode cX6_moveInto 55 = .ok (.dup, 1) := by decide +kernel
theorem dX6_moveInto_56 : decode cX6_moveInto 56 = .ok (.getfield 132, 3) := by decide +kernel
theorem dX6_moveInto_59 : decode cX6_moveInto 59 = .ok (.iconst 1, 1) := by decide +kernel
theorem dX6_moveInto_60 : decode cX6_moveInto 60 = .ok (.iadd, 1) := by decide +kernel
theorem dX6_moveInto_61 : decode cX6_moveInto 61 = .ok (.putfield 132, 3) := by decide +kernel
theorem dX6_moveInto_64 : decode cX6_moveInto 64 = .ok (.return_, 1) := by decide +kernel
set_option maxRecDepth 20000 in
theorem ggX6_passWeek_X7_isHeld : GoodIn wsX6_passWeek wsX7_isHeld := goodIn_r _ [12, 13, 116, 117, 118, 119, 120] (by decide +kernel) (by decide +kernel)
set_option maxRecDepth 20000 in
theorem gX6_passWeek_X7_isHeld : GoodIn wsX6_passWeek (wsV RX6 88 RX7 yX7_isHeld wsX7_isHeld) := goodIn_app (goodIn_of _ (by decide +kernel)) ggX6_passWeek_X7_isHeld
set_option maxRecDepth 20000 in
theorem ggX6_passWeek_X6_countWeekOf : GoodIn wsX6_passWeek wsX6_countWeekOf := goodIn_r _ [18, 1, 19, 20, 3, 21, 5, 22, 23, 98, 99, 100, 101, 102, 103, 104, 105, 106, 107, 108, 109, 110, 111, 112, 113, 114, 115, 116, 117, 118, 119, 120] (by decide +kernel) (by decide +kernel)
set_option maxRecDepth 20000 in
theorem gX6_passWeek_X6_countWeekOf : GoodIn wsX6_passWeek (wsV RX6 138 RX6 yX6_countWeekOf wsX6_countWeekOf) := goodIn_app (goodIn_of _ (by decide +kernel)) ggX6_passWeek_X6_countWeekOf
set_option maxRecDepth 20000 in
theorem ggX6_passWeek_X7_cancel : GoodIn wsX6_passWeek wsX7_cancel := goodIn_r _ [27, 13, 28, 29, 30, 31, 116, 117, 118, 119, 120] (by decide +kernel) (by decide +kernel)
set_option maxRecDepth 20000 in
theorem gX6_passWeek_X7_cancel : GoodIn wsX6_passWeek (wsV RX6 148 RX7 yX7_cancel wsX7_cancel) := goodIn_app (goodIn_of _ (by decide +kernel)) ggX6_passWeek_X7_cancel
set_option maxRecDepth 20000 in
theorem ggX6_passWeek_X6_moveUp : GoodIn wsX6_passWeek wsX6_moveUp := goodIn_r _ [35, 36, 37, 38, 17, 39, 40, 41, 42, 5, 43, 44, 45, 46, 47, 48, 49, 50, 51, 11, 52, 30, 29, 53, 54, 55, 56, 3, 57, 58, 59, 60, 61, 62, 31, 63, 64, 65, 66, 67, 68, 8, 9, 10, 12, 13, 69, 70, 71, 72, 4, 73, 74, 75, 76, 77, 78, 79, 80, 81, 82, 83, 84, 85, 86, 87, 1, 88, 89, 90, 91, 92, 93, 94, 95, 96, 97, 98, 99, 100, 101, 102, 103, 121, 122, 123, 124, 125, 126, 116, 117, 118, 119, 120, 110, 111, 112, 113, 114, 115, 104, 105, 106, 107, 108, 109] (by decide +kernel) (by decide +kernel)
set_option maxRecDepth 20000 in
theorem gX6_passWeek_X6_moveUp : GoodIn wsX6_passWeek (wsV RX6 151 RX6 yX6_moveUp wsX6_moveUp) := goodIn_app (goodIn_of _ (by decide +kernel)) ggX6_passWeek_X6_moveUp
theorem dX6_passWeek_0 : decode cX6_passWeek 0 = .ok (.aload_n 0, 1) := by decide +kernel
theorem dX6_passWeek_1 : decode cX6_passWeek 1 = .ok (.getfield 42, 3) := by decide +kernel
theorem dX6_passWeek_4 : decode cX6_passWeek 4 = .ok (.dup, 1) := by decide +kernel
theorem dX6_passWeek_5 : decode cX6_passWeek 5 = .ok (.getfield 135, 3) := by decide +kernel
theorem dX6_passWeek_8 : decode cX6_passWeek 8 = .ok (.iconst 1, 1) := by decide +kernel
theorem dX6_passWeek_9 : decode cX6_passWeek 9 = .ok (.iadd, 1) := by decide +kernel
theorem dX6_passWeek_10 : decode cX6_passWeek 10 = .ok (.putfield 135, 3) := by decide +kernel
theorem dX6_passWeek_13 : decode cX6_passWeek 13 = .ok (.iconst 0, 1) := by decide +kernel
theorem dX6_passWeek_14 : decode cX6_passWeek 14 = .ok (.istore_n 1, 1) := by decide +kernel
theorem dX6_passWeek_15 : decode cX6_passWeek 15 = .ok (.iload_n 1, 1) := by decide +kernel
theorem dX6_passWeek_16 : decode cX6_passWeek 16 = .ok (.aload_n 0, 1) := by decide +kernel
theorem dX6_passWeek_17 : decode cX6_passWeek 17 = .ok (.getfield 21, 3) := by decide +kernel
theorem dX6_passWeek_20 : decode cX6_passWeek 20 = .ok (.getfield 72, 3) := by decide +kernel
theorem dX6_passWeek_23 : decode cX6_passWeek 23 = .ok (.if_icmp .ge 25, 3) := by decide +kernel
theorem dX6_passWeek_26 : decode cX6_passWeek 26 = .ok (.aload_n 0, 1) := by decide +kernel
theorem dX6_passWeek_27 : decode cX6_passWeek 27 = .ok (.getfield 35, 3) := by decide +kernel
theorem dX6_passWeek_30 : decode cX6_passWeek 30 = .ok (.iload_n 1, 1) := by decide +kernel
theorem dX6_passWeek_31 : decode cX6_passWeek 31 = .ok (.invokevirtual 88, 3) := by decide +kernel
theorem dX6_passWeek_34 : decode cX6_passWeek 34 = .ok (.ifCond .eq 8, 3) := by decide +kernel
theorem dX6_passWeek_37 : decode cX6_passWeek 37 = .ok (.aload_n 0, 1) := by decide +kernel
theorem dX6_passWeek_38 : decode cX6_passWeek 38 = .ok (.iload_n 1, 1) := by decide +kernel
theorem dX6_passWeek_39 : decode cX6_passWeek 39 = .ok (.invokevirtual 138, 3) := by decide +kernel
theorem dX6_passWeek_42 : decode cX6_passWeek 42 = .ok (.iinc 1 1, 3) := by decide +kernel
theorem dX6_passWeek_45 : decode cX6_passWeek 45 = .ok (.goto (-30), 3) := by decide +kernel
theorem dX6_passWeek_48 : decode cX6_passWeek 48 = .ok (.iconst 0, 1) := by decide +kernel
theorem dX6_passWeek_49 : decode cX6_passWeek 49 = .ok (.istore_n 1, 1) := by decide +kernel
theorem dX6_passWeek_50 : decode cX6_passWeek 50 = .ok (.iload_n 1, 1) := by decide +kernel
theorem dX6_passWeek_51 : decode cX6_passWeek 51 = .ok (.aload_n 0, 1) := by decide +kernel
theorem dX6_passWeek_52 : decode cX6_passWeek 52 = .ok (.getfield 21, 3) := by decide +kernel
theorem dX6_passWeek_55 : decode cX6_passWeek 55 = .ok (.getfield 72, 3) := by decide +kernel
theorem dX6_passWeek_58 : decode cX6_passWeek 58 = .ok (.if_icmp .ge 51, 3) := by decide +kernel
theorem dX6_passWeek_61 : decode cX6_passWeek 61 = .ok (.aload_n 0, 1) := by decide +kernel
theorem dX6_passWeek_62 : decode cX6_passWeek 62 = .ok (.getfield 35, 3) := by decide +kernel
theorem dX6_passWeek_65 : decode cX6_passWeek 65 = .ok (.iload_n 1, 1) := by decide +kernel
theorem dX6_passWeek_66 : decode cX6_passWeek 66 = .ok (.invokevirtual 88, 3) := by decide +kernel
theorem dX6_passWeek_69 : decode cX6_passWeek 69 = .ok (.ifCond .eq 34, 3) := by decide +kernel
theorem dX6_passWeek_72 : decode cX6_passWeek 72 = .ok (.iconst 2, 1) := by decide +kernel
theorem dX6_passWeek_73 : decode cX6_passWeek 73 = .ok (.aload_n 0, 1) := by decide +kernel
theorem dX6_passWeek_74 : decode cX6_passWeek 74 = .ok (.getfield 35, 3) := by decide +kernel
theorem dX6_passWeek_77 : decode cX6_passWeek 77 = .ok (.getfield 142, 3) := by decide +kernel
theorem dX6_passWeek_80 : decode cX6_passWeek 80 = .ok (.iload_n 1, 1) := by decide +kernel
theorem dX6_passWeek_81 : decode cX6_passWeek 81 = .ok (.iaload, 1) := by decide +kernel
theorem dX6_passWeek_82 : decode cX6_passWeek 82 = .ok (.imul, 1) := by decide +kernel
theorem dX6_passWeek_83 : decode cX6_passWeek 83 = .ok (.aload_n 0, 1) := by decide +kernel
theorem dX6_passWeek_84 : decode cX6_passWeek 84 = .ok (.getfield 21, 3) := by decide +kernel
theorem dX6_passWeek_87 : decode cX6_passWeek 87 = .ok (.getfield 145, 3) := by decide +kernel
theorem dX6_passWeek_90 : decode cX6_passWeek 90 = .ok (.iload_n 1, 1) := by decide +kernel
theorem dX6_passWeek_91 : decode cX6_passWeek 91 = .ok (.iaload, 1) := by decide +kernel
theorem dX6_passWeek_92 : decode cX6_passWeek 92 = .ok (.if_icmp .ge 11, 3) := by decide +kernel
theorem dX6_passWeek_95 : decode cX6_passWeek 95 = .ok (.aload_n 0, 1) := by decide +kernel
theorem dX6_passWeek_96 : decode cX6_passWeek 96 = .ok (.getfield 35, 3) := by decide +kernel
theorem dX6_passWeek_99 : decode cX6_passWeek 99 = .ok (.iload_n 1, 1) := by decide +kernel
theorem dX6_passWeek_100 : decode cX6_passWeek 100 = .ok (.invokevirtual 148, 3) := by decide +kernel
theorem dX6_passWeek_103 : decode cX6_passWeek 103 = .ok (.iinc 1 1, 3) := by decide +kernel
theorem dX6_passWeek_106 : decode cX6_passWeek 106 = .ok (.goto (-56), 3) := by decide +kernel
theorem dX6_passWeek_109 : decode cX6_passWeek 109 = .ok (.aload_n 0, 1) := by decide +kernel
theorem dX6_passWeek_110 : decode cX6_passWeek 110 = .ok (.invokevirtual 151, 3) := by decide +kernel
theorem dX6_passWeek_113 : decode cX6_passWeek 113 = .ok (.return_, 1) := by decide +kernel
theorem dX6_countWeekOf_0 : decode cX6_countWeekOf 0 = .ok (.aload_n 0, 1) := by decide +kernel
theorem dX6_countWeekOf_1 : decode cX6_countWeekOf 1 = .ok (.getfield 42, 3) := by decide +kernel
theorem dX6_countWeekOf_4 : decode cX6_countWeekOf 4 = .ok (.getfield 154, 3) := by decide +kernel
theorem dX6_countWeekOf_7 : decode cX6_countWeekOf 7 = .ok (.iload_n 1, 1) := by decide +kernel
theorem dX6_countWeekOf_8 : decode cX6_countWeekOf 8 = .ok (.dup2, 1) := by decide +kernel
theorem dX6_countWeekOf_9 : decode cX6_countWeekOf 9 = .ok (.iaload, 1) := by decide +kernel
theorem dX6_countWeekOf_10 : decode cX6_countWeekOf 10 = .ok (.iconst 1, 1) := by decide +kernel
theorem dX6_countWeekOf_11 : decode cX6_countWeekOf 11 = .ok (.iadd, 1) := by decide +kernel
theorem dX6_countWeekOf_12 : decode cX6_countWeekOf 12 = .ok (.iastore, 1) := by decide +kernel
theorem dX6_countWeekOf_13 : decode cX6_countWeekOf 13 = .ok (.aload_n 0, 1) := by decide +kernel
theorem dX6_countWeekOf_14 : decode cX6_countWeekOf 14 = .ok (.getfield 42, 3) := by decide +kernel
theorem dX6_countWeekOf_17 : decode cX6_countWeekOf 17 = .ok (.getfield 157, 3) := by decide +kernel
theorem dX6_countWeekOf_20 : decode cX6_countWeekOf 20 = .ok (.aload_n 0, 1) := by decide +kernel
theorem dX6_countWeekOf_21 : decode cX6_countWeekOf 21 = .ok (.getfield 21, 3) := by decide +kernel
theorem dX6_countWeekOf_24 : decode cX6_countWeekOf 24 = .ok (.getfield 160, 3) := by decide +kernel
theorem dX6_countWeekOf_27 : decode cX6_countWeekOf 27 = .ok (.iload_n 1, 1) := by decide +kernel
theorem dX6_countWeekOf_28 : decode cX6_countWeekOf 28 = .ok (.iaload, 1) := by decide +kernel
theorem dX6_countWeekOf_29 : decode cX6_countWeekOf 29 = .ok (.dup2, 1) := by decide +kernel
theorem dX6_countWeekOf_30 : decode cX6_countWeekOf 30 = .ok (.iaload, 1) := by decide +kernel
theorem dX6_countWeekOf_31 : decode cX6_countWeekOf 31 = .ok (.iconst 2, 1) := by decide +kernel
theorem dX6_countWeekOf_32 : decode cX6_countWeekOf 32 = .ok (.iadd, 1) := by decide +kernel
theorem dX6_countWeekOf_33 : decode cX6_countWeekOf 33 = .ok (.iastore, 1) := by decide +kernel
theorem dX6_countWeekOf_34 : decode cX6_countWeekOf 34 = .ok (.aload_n 0, 1) := by decide +kernel
theorem dX6_countWeekOf_35 : decode cX6_countWeekOf 35 = .ok (.getfield 35, 3) := by decide +kernel
theorem dX6_countWeekOf_38 : decode cX6_countWeekOf 38 = .ok (.getfield 163, 3) := by decide +kernel
theorem dX6_countWeekOf_41 : decode cX6_countWeekOf 41 = .ok (.iload_n 1, 1) := by decide +kernel
theorem dX6_countWeekOf_42 : decode cX6_countWeekOf 42 = .ok (.iaload, 1) := by decide +kernel
theorem dX6_countWeekOf_43 : decode cX6_countWeekOf 43 = .ok (.istore_n 2, 1) := by decide +kernel
theorem dX6_countWeekOf_44 : decode cX6_countWeekOf 44 = .ok (.iload_n 2, 1) := by decide +kernel
theorem dX6_countWeekOf_45 : decode cX6_countWeekOf 45 = .ok (.iconst (-1), 1) := by decide +kernel
theorem dX6_countWeekOf_46 : decode cX6_countWeekOf 46 = .ok (.if_icmp .eq 16, 3) := by decide +kernel
theorem dX6_countWeekOf_49 : decode cX6_countWeekOf 49 = .ok (.aload_n 0, 1) := by decide +kernel
theorem dX6_countWeekOf_50 : decode cX6_countWeekOf 50 = .ok (.getfield 42, 3) := by decide +kernel
theorem dX6_countWeekOf_53 : decode cX6_countWeekOf 53 = .ok (.getfield 166, 3) := by decide +kernel
theorem dX6_countWeekOf_56 : decode cX6_countWeekOf 56 = .ok (.iload_n 2, 1) := by decide +kernel
theorem dX6_countWeekOf_57 : decode cX6_countWeekOf 57 = .ok (.dup2, 1) := by decide +kernel
theorem dX6_countWeekOf_58 : decode cX6_countWeekOf 58 = .ok (.iaload, 1) := by decide +kernel
theorem dX6_countWeekOf_59 : decode cX6_countWeekOf 59 = .ok (.iconst 2, 1) := by decide +kernel
theorem dX6_countWeekOf_60 : decode cX6_countWeekOf 60 = .ok (.iadd, 1) := by decide +kernel
theorem dX6_countWeekOf_61 : decode cX6_countWeekOf 61 = .ok (.iastore, 1) := by decide +kernel
theorem dX6_countWeekOf_62 : decode cX6_countWeekOf 62 = .ok (.return_, 1) := by decide +kernel
set_option maxRecDepth 20000 in
theorem ggX6_pointsOf_X4_courseOfRank : GoodIn wsX6_pointsOf wsX4_courseOfRank := goodIn_r _ [8, 9, 22, 23, 24, 25, 26, 27] (by decide +kernel) (by decide +kernel)
set_option maxRecDepth 20000 in
theorem gX6_pointsOf_X4_courseOfRank : GoodIn wsX6_pointsOf (wsV RX6 110 RX4 yX4_courseOfRank wsX4_courseOfRank) := goodIn_app (goodIn_of _ (by decide +kernel)) ggX6_pointsOf_X4_courseOfRank
set_option maxRecDepth 20000 in
theorem ggX6_pointsOf_X7_hasCourse : GoodIn wsX6_pointsOf wsX7_hasCourse := goodIn_r _ [14, 15, 28, 29, 30, 31, 32] (by decide +kernel) (by decide +kernel)
set_option maxRecDepth 20000 in
theorem gX6_pointsOf_X7_hasCourse : GoodIn wsX6_pointsOf (wsV RX6 80 RX7 yX7_hasCourse wsX7_hasCourse) := goodIn_app (goodIn_of _ (by decide +kernel)) ggX6_pointsOf_X7_hasCourse
theorem dX6_pointsOf_0 : decode cX6_pointsOf 0 = .ok (.iconst 0, 1) := by decide +kernel
theorem dX6_pointsOf_1 : decode cX6_pointsOf 1 = .ok (.istore_n 2, 1) := by decide +kernel
theorem dX6_pointsOf_2 : decode cX6_pointsOf 2 = .ok (.iconst 0, 1) := by decide +kernel
theorem dX6_pointsOf_3 : decode cX6_pointsOf 3 = .ok (.istore_n 3, 1) := by decide +kernel
theorem dX6_pointsOf_4 : decode cX6_pointsOf 4 = .ok (.iload_n 3, 1) := by decide +kernel
theorem dX6_pointsOf_5 : decode cX6_pointsOf 5 = .ok (.aload_n 0, 1) := by decide +kernel
theorem dX6_pointsOf_6 : decode cX6_pointsOf 6 = .ok (.getfield 28, 3) := by decide +kernel
theorem dX6_pointsOf_9 : decode cX6_pointsOf 9 = .ok (.getfield 107, 3) := by decide +kernel
theorem dX6_pointsOf_12 : decode cX6_pointsOf 12 = .ok (.iload_n 1, 1) := by decide +kernel
theorem dX6_pointsOf_13 : decode cX6_pointsOf 13 = .ok (.iaload, 1) := by decide +kernel
theorem dX6_pointsOf_14 : decode cX6_pointsOf 14 = .ok (.if_icmp .ge 36, 3) := by decide +kernel
theorem dX6_pointsOf_17 : decode cX6_pointsOf 17 = .ok (.aload_n 0, 1) := by decide +kernel
theorem dX6_pointsOf_18 : decode cX6_pointsOf 18 = .ok (.getfield 35, 3) := by decide +kernel
theorem dX6_pointsOf_21 : decode cX6_pointsOf 21 = .ok (.iload_n 1, 1) := by decide +kernel
theorem dX6_pointsOf_22 : decode cX6_pointsOf 22 = .ok (.aload_n 0, 1) := by decide +kernel
theorem dX6_pointsOf_23 : decode cX6_pointsOf 23 = .ok (.getfield 28, 3) := by decide +kernel
theorem dX6_pointsOf_26 : decode cX6_pointsOf 26 = .ok (.iload_n 1, 1) := by decide +kernel
theorem dX6_pointsOf_27 : decode cX6_pointsOf 27 = .ok (.iload_n 3, 1) := by decide +kernel
theorem dX6_pointsOf_28 : decode cX6_pointsOf 28 = .ok (.invokevirtual 110, 3) := by decide +kernel
theorem dX6_pointsOf_31 : decode cX6_pointsOf 31 = .ok (.invokevirtual 80, 3) := by decide +kernel
theorem dX6_pointsOf_34 : decode cX6_pointsOf 34 = .ok (.ifCond .eq 10, 3) := by decide +kernel
theorem dX6_pointsOf_37 : decode cX6_pointsOf 37 = .ok (.iload_n 2, 1) := by decide +kernel
theorem dX6_pointsOf_38 : decode cX6_pointsOf 38 = .ok (.bipush 6, 2) := by decide +kernel
theorem dX6_pointsOf_40 : decode cX6_pointsOf 40 = .ok (.iload_n 3, 1) := by decide +kernel
theorem dX6_pointsOf_41 : decode cX6_pointsOf 41 = .ok (.isub, 1) := by decide +kernel
theorem dX6_pointsOf_42 : decode cX6_pointsOf 42 = .ok (.iadd, 1) := by decide +kernel
theorem dX6_pointsOf_43 : decode cX6_pointsOf 43 = .ok (.istore_n 2, 1) := by decide +kernel
theorem dX6_pointsOf_44 : decode cX6_pointsOf 44 = .ok (.iinc 3 1, 3) := by decide +kernel
theorem dX6_pointsOf_47 : decode cX6_pointsOf 47 = .ok (.goto (-43), 3) := by decide +kernel
theorem dX6_pointsOf_50 : decode cX6_pointsOf 50 = .ok (.iload_n 2, 1) := by decide +kernel
theorem dX6_pointsOf_51 : decode cX6_pointsOf 51 = .ok (.ireturn, 1) := by decide +kernel
set_option maxRecDepth 20000 in
theorem ggX6_pointsInAll_X6_pointsOf : GoodIn wsX6_pointsInAll wsX6_pointsOf := goodIn_r _ [7, 1, 8, 9, 10, 11, 12, 13, 14, 15, 16, 17, 18, 19, 20, 21, 22, 23, 24, 25, 26, 27, 28, 29, 30, 31, 32, 33, 34, 35, 36, 37, 38] (by decide +kernel) (by decide +kernel)
set_option maxRecDepth 20000 in
theorem gX6_pointsInAll_X6_pointsOf : GoodIn wsX6_pointsInAll (wsV RX6 169 RX6 yX6_pointsOf wsX6_pointsOf) := goodIn_app (goodIn_of _ (by decide +kernel)) ggX6_pointsInAll_X6_pointsOf
theorem dX6_pointsInAll_0 : decode cX6_pointsInAll 0 = .ok (.iconst 0, 1) := by decide +kernel
theorem dX6_pointsInAll_1 : decode cX6_pointsInAll 1 = .ok (.istore_n 1, 1) := by decide +kernel
theorem dX6_pointsInAll_2 : decode cX6_pointsInAll 2 = .ok (.iconst 0, 1) := by decide +kernel
theorem dX6_pointsInAll_3 : decode cX6_pointsInAll 3 = .ok (.istore_n 2, 1) := by decide +kernel
theorem dX6_pointsInAll_4 : decode cX6_pointsInAll 4 = .ok (.iload_n 2, 1) := by decide +kernel
theorem dX6_pointsInAll_5 : decode cX6_pointsInAll 5 = .ok (.aload_n 0, 1) := by decide +kernel
theorem dX6_pointsInAll_6 : decode cX6_pointsInAll 6 = .ok (.getfield 28, 3) := by decide +kernel
theorem dX6_pointsInAll_9 : decode cX6_pointsInAll 9 = .ok (.getfield 106, 3) := by decide +kernel
theorem dX6_pointsInAll_12 : decode cX6_pointsInAll 12 = .ok (.if_icmp .ge 17, 3) := by decide +kernel
theorem dX6_pointsInAll_15 : decode cX6_pointsInAll 15 = .ok (.iload_n 1, 1) := by decide +kernel
theorem dX6_pointsInAll_16 : decode cX6_pointsInAll 16 = .ok (.aload_n 0, 1) := by decide +kernel
theorem dX6_pointsInAll_17 : decode cX6_pointsInAll 17 = .ok (.iload_n 2, 1) := by decide +kernel
theorem dX6_pointsInAll_18 : decode cX6_pointsInAll 18 = .ok (.invokevirtual 169, 3) := by decide +kernel
theorem dX6_pointsInAll_21 : decode cX6_pointsInAll 21 = .ok (.iadd, 1) := by decide +kernel
theorem dX6_pointsInAll_22 : decode cX6_pointsInAll 22 = .ok (.istore_n 1, 1) := by decide +kernel
theorem dX6_pointsInAll_23 : decode cX6_pointsInAll 23 = .ok (.iinc 2 1, 3) := by decide +kernel
theorem dX6_pointsInAll_26 : decode cX6_pointsInAll 26 = .ok (.goto (-22), 3) := by decide +kernel
theorem dX6_pointsInAll_29 : decode cX6_pointsInAll 29 = .ok (.iload_n 1, 1) := by decide +kernel
theorem dX6_pointsInAll_30 : decode cX6_pointsInAll 30 = .ok (.ireturn, 1) := by decide +kernel
theorem dX6_placesHad_0 : decode cX6_placesHad 0 = .ok (.iconst 0, 1) := by decide +kernel
theorem dX6_placesHad_1 : decode cX6_placesHad 1 = .ok (.istore_n 1, 1) := by decide +kernel
theorem dX6_placesHad_2 : decode cX6_placesHad 2 = .ok (.iconst 0, 1) := by decide +kernel
theorem dX6_placesHad_3 : decode cX6_placesHad 3 = .ok (.istore_n 2, 1) := by decide +kernel
theorem dX6_placesHad_4 : decode cX6_placesHad 4 = .ok (.iload_n 2, 1) := by decide +kernel
theorem dX6_placesHad_5 : decode cX6_placesHad 5 = .ok (.aload_n 0, 1) := by decide +kernel
theorem dX6_placesHad_6 : decode cX6_placesHad 6 = .ok (.getfield 21, 3) := by decide +kernel
theorem dX6_placesHad_9 : decode cX6_placesHad 9 = .ok (.getfield 72, 3) := by decide +kernel
theorem dX6_placesHad_12 : decode cX6_placesHad 12 = .ok (.if_icmp .ge 21, 3) := by decide +kernel
theorem dX6_placesHad_15 : decode cX6_placesHad 15 = .ok (.iload_n 1, 1) := by decide +kernel
theorem dX6_placesHad_16 : decode cX6_placesHad 16 = .ok (.aload_n 0, 1) := by decide +kernel
theorem dX6_placesHad_17 : decode cX6_placesHad 17 = .ok (.getfield 35, 3) := by decide +kernel
theorem dX6_placesHad_20 : decode cX6_placesHad 20 = .ok (.getfield 142, 3) := by decide +kernel
theorem dX6_placesHad_23 : decode cX6_placesHad 23 = .ok (.iload_n 2, 1) := by decide +kernel
theorem dX6_placesHad_24 : decode cX6_placesHad 24 = .ok (.iaload, 1) := by decide +kernel
theorem dX6_placesHad_25 : decode cX6_placesHad 25 = .ok (.iadd, 1) := by decide +kernel
theorem dX6_placesHad_26 : decode cX6_placesHad 26 = .ok (.istore_n 1, 1) := by decide +kernel
theorem dX6_placesHad_27 : decode cX6_placesHad 27 = .ok (.iinc 2 1, 3) := by decide +kernel
theorem dX6_placesHad_30 : decode cX6_placesHad 30 = .ok (.goto (-26), 3) := by decide +kernel
theorem dX6_placesHad_33 : decode cX6_placesHad 33 = .ok (.iload_n 1, 1) := by decide +kernel
theorem dX6_placesHad_34 : decode cX6_placesHad 34 = .ok (.ireturn, 1) := by decide +kernel
set_option maxRecDepth 20000 in
theorem ggX6_sumBehind_X6_pricesOf : GoodIn wsX6_sumBehind wsX6_pricesOf := goodIn_r _ [7, 8, 9, 10, 11, 12, 13, 14, 15, 16, 17, 83, 84, 85, 86, 87, 88, 97, 98, 99, 100, 101, 102, 103, 104, 105, 106, 107] (by decide +kernel) (by decide +kernel)
set_option maxRecDepth 20000 in
theorem gX6_sumBehind_X6_pricesOf : GoodIn wsX6_sumBehind (wsV RX6 172 RX6 yX6_pricesOf wsX6_pricesOf) := goodIn_app (goodIn_of _ (by decide +kernel)) ggX6_sumBehind_X6_pricesOf
set_option maxRecDepth 20000 in
theorem ggX6_sumBehind_X6_allTestsHold : GoodIn wsX6_sumBehind wsX6_allTestsHold := goodIn_r _ [21, 1, 22, 23, 24, 25, 26, 6, 27, 28, 29, 30, 10, 31, 32, 33, 34, 35, 15, 36, 17, 37, 38, 39, 40, 41, 42, 43, 44, 45, 46, 47, 48, 49, 50, 51, 52, 53, 54, 12, 13, 14, 16, 55, 56, 57, 58, 59, 60, 61, 62, 63, 64, 65, 66, 67, 83, 84, 85, 86, 87, 88, 89, 90, 91, 92, 93, 94, 95, 96, 108, 109, 110, 111, 112, 113, 114, 115, 116, 117, 118, 119, 103, 104, 105, 106, 107] (by decide +kernel) (by decide +kernel)
set_option maxRecDepth 20000 in
theorem gX6_sumBehind_X6_allTestsHold : GoodIn wsX6_sumBehind (wsV RX6 176 RX6 yX6_allTestsHold wsX6_allTestsHold) := goodIn_app (goodIn_of _ (by decide +kernel)) ggX6_sumBehind_X6_allTestsHold
set_option maxRecDepth 20000 in
theorem ggX6_sumBehind_X2_sumAfterAct : GoodIn wsX6_sumBehind wsX2_sumAfterAct := goodIn_r _ [71, 72, 73, 74, 75, 76, 77, 78, 79, 80, 81, 82, 89, 90, 91, 92, 93, 94, 95, 96] (by decide +kernel) (by decide +kernel)
set_option maxRecDepth 20000 in
theorem gX6_sumBehind_X2_sumAfterAct : GoodIn wsX6_sumBehind (wsV RX6 183 RX2 yX2_sumAfterAct wsX2_sumAfterAct) := goodIn_app (goodIn_of _ (by decide +kernel)) ggX6_sumBehind_X2_sumAfterAct
theorem dX6_sumBehind_0 : decode cX6_sumBehind 0 = .ok (.aload_n 0, 1) := by decide +kernel
theorem dX6_sumBehind_1 : decode cX6_sumBehind 1 = .ok (.iload_n 1, 1) := by decide +kernel
theorem dX6_sumBehind_2 : decode cX6_sumBehind 2 = .ok (.invokevirtual 172, 3) := by decide +kernel
theorem dX6_sumBehind_5 : decode cX6_sumBehind 5 = .ok (.lstore_n 3, 1) := by decide +kernel
theorem dX6_sumBehind_6 : decode cX6_sumBehind 6 = .ok (.iconst 0, 1) := by decide +kernel
theorem dX6_sumBehind_7 : decode cX6_sumBehind 7 = .ok (.istore 5, 2) := by decide +kernel
theorem dX6_sumBehind_9 : decode cX6_sumBehind 9 = .ok (.iload 5, 2) := by decide +kernel
theorem dX6_sumBehind_11 : decode cX6_sumBehind 11 = .ok (.iload_n 2, 1) := by decide +kernel
theorem dX6_sumBehind_12 : decode cX6_sumBehind 12 = .ok (.if_icmp .ge 50, 3) := by decide +kernel
theorem dX6_sumBehind_15 : decode cX6_sumBehind 15 = .ok (.aload_n 0, 1) := by decide +kernel
theorem dX6_sumBehind_16 : decode cX6_sumBehind 16 = .ok (.iload_n 1, 1) := by decide +kernel
theorem dX6_sumBehind_17 : decode cX6_sumBehind 17 = .ok (.iload 5, 2) := by decide +kernel
theorem dX6_sumBehind_19 : decode cX6_sumBehind 19 = .ok (.lload_n 3, 1) := by decide +kernel
theorem dX6_sumBehind_20 : decode cX6_sumBehind 20 = .ok (.invokevirtual 176, 3) := by decide +kernel
theorem dX6_sumBehind_23 : decode cX6_sumBehind 23 = .ok (.ifCond .eq 33, 3) := by decide +kernel
theorem dX6_sumBehind_26 : decode cX6_sumBehind 26 = .ok (.aload_n 0, 1) := by decide +kernel
theorem dX6_sumBehind_27 : decode cX6_sumBehind 27 = .ok (.getfield 49, 3) := by decide +kernel
theorem dX6_sumBehind_30 : decode cX6_sumBehind 30 = .ok (.getfield 180, 3) := by decide +kernel
theorem dX6_sumBehind_33 : decode cX6_sumBehind 33 = .ok (.iload 5, 2) := by decide +kernel
theorem dX6_sumBehind_35 : decode cX6_sumBehind 35 = .ok (.iaload, 1) := by decide +kernel
theorem dX6_sumBehind_36 : decode cX6_sumBehind 36 = .ok (.sipush 215, 3) := by decide +kernel
theorem dX6_sumBehind_39 : decode cX6_sumBehind 39 = .ok (.if_icmp .ne 6, 3) := by decide +kernel
theorem dX6_sumBehind_42 : decode cX6_sumBehind 42 = .ok (.goto 20, 3) := by decide +kernel
theorem dX6_sumBehind_45 : decode cX6_sumBehind 45 = .ok (.aload_n 0, 1) := by decide +kernel
theorem dX6_sumBehind_46 : decode cX6_sumBehind 46 = .ok (.getfield 49, 3) := by decide +kernel
theorem dX6_sumBehind_49 : decode cX6_sumBehind 49 = .ok (.iload 5, 2) := by decide +kernel
theorem dX6_sumBehind_51 : decode cX6_sumBehind 51 = .ok (.lload_n 3, 1) := by decide +kernel
theorem dX6_sumBehind_52 : decode cX6_sumBehind 52 = .ok (.invokevirtual 183, 3) := by decide +kernel
theorem dX6_sumBehind_55 : decode cX6_sumBehind 55 = .ok (.lstore_n 3, 1) := by decide +kernel
theorem dX6_sumBehind_56 : decode cX6_sumBehind 56 = .ok (.iinc 5 1, 3) := by decide +kernel
theorem dX6_sumBehind_59 : decode cX6_sumBehind 59 = .ok (.goto (-50), 3) := by decide +kernel
theorem dX6_sumBehind_62 : decode cX6_sumBehind 62 = .ok (.lload_n 3, 1) := by decide +kernel
theorem dX6_sumBehind_63 : decode cX6_sumBehind 63 = .ok (.l2i, 1) := by decide +kernel
theorem dX6_sumBehind_64 : decode cX6_sumBehind 64 = .ok (.ireturn, 1) := by decide +kernel
set_option maxRecDepth 20000 in
theorem ggX6_pricesOf_X7_hasCourse : GoodIn wsX6_pricesOf wsX7_hasCourse := goodIn_r _ [9, 10, 23, 24, 25, 26, 27] (by decide +kernel) (by decide +kernel)
set_option maxRecDepth 20000 in
theorem gX6_pricesOf_X7_hasCourse : GoodIn wsX6_pricesOf (wsV RX6 80 RX7 yX7_hasCourse wsX7_hasCourse) := goodIn_app (goodIn_of _ (by decide +kernel)) ggX6_pricesOf_X7_hasCourse
theorem dX6_pricesOf_0 : decode cX6_pricesOf 0 = .ok (.lconst 0, 1) := by decide +kernel
theorem dX6_pricesOf_1 : decode cX6_pricesOf 1 = .ok (.lstore_n 2, 1) := by decide +kernel
theorem dX6_pricesOf_2 : decode cX6_pricesOf 2 = .ok (.iconst 0, 1) := by decide +kernel
theorem dX6_pricesOf_3 : decode cX6_pricesOf 3 = .ok (.istore 4, 2) := by decide +kernel
theorem dX6_pricesOf_5 : decode cX6_pricesOf 5 = .ok (.iload 4, 2) := by decide +kernel
theorem dX6_pricesOf_7 : decode cX6_pricesOf 7 = .ok (.aload_n 0, 1) := by decide +kernel
theorem dX6_pricesOf_8 : decode cX6_pricesOf 8 = .ok (.getfield 21, 3) := by decide +kernel
theorem dX6_pricesOf_11 : decode cX6_pricesOf 11 = .ok (.getfield 72, 3) := by decide +kernel
theorem dX6_pricesOf_14 : decode cX6_pricesOf 14 = .ok (.if_icmp .ge 36, 3) := by decide +kernel
theorem dX6_pricesOf_17 : decode cX6_pricesOf 17 = .ok (.aload_n 0, 1) := by decide +kernel
theorem dX6_pricesOf_18 : decode cX6_pricesOf 18 = .ok (.getfield 35, 3) := by decide +kernel
theorem dX6_pricesOf_21 : decode cX6_pricesOf 21 = .ok (.iload_n 1, 1) := by decide +kernel
theorem dX6_pricesOf_22 : decode cX6_pricesOf 22 = .ok (.iload 4, 2) := by decide +kernel
theorem dX6_pricesOf_24 : decode cX6_pricesOf 24 = .ok (.invokevirtual 80, 3) := by decide +kernel
theorem dX6_pricesOf_27 : decode cX6_pricesOf 27 = .ok (.ifCond .eq 17, 3) := by decide +kernel
theorem dX6_pricesOf_30 : decode cX6_pricesOf 30 = .ok (.lload_n 2, 1) := by decide +kernel
theorem dX6_pricesOf_31 : decode cX6_pricesOf 31 = .ok (.aload_n 0, 1) := by decide +kernel
theorem dX6_pricesOf_32 : decode cX6_pricesOf 32 = .ok (.getfield 21, 3) := by decide +kernel
theorem dX6_pricesOf_35 : decode cX6_pricesOf 35 = .ok (.getfield 187, 3) := by decide +kernel
theorem dX6_pricesOf_38 : decode cX6_pricesOf 38 = .ok (.iload 4, 2) := by decide +kernel
theorem dX6_pricesOf_40 : decode cX6_pricesOf 40 = .ok (.iaload, 1) := by decide +kernel
theorem dX6_pricesOf_41 : decode cX6_pricesOf 41 = .ok (.i2l, 1) := by decide +kernel
theorem dX6_pricesOf_42 : decode cX6_pricesOf 42 = .ok (.ladd, 1) := by decide +kernel
theorem dX6_pricesOf_43 : decode cX6_pricesOf 43 = .ok (.lstore_n 2, 1) := by decide +kernel
theorem dX6_pricesOf_44 : decode cX6_pricesOf 44 = .ok (.iinc 4 1, 3) := by decide +kernel
theorem dX6_pricesOf_47 : decode cX6_pricesOf 47 = .ok (.goto (-42), 3) := by decide +kernel
theorem dX6_pricesOf_50 : decode cX6_pricesOf 50 = .ok (.lload_n 2, 1) := by decide +kernel
theorem dX6_pricesOf_51 : decode cX6_pricesOf 51 = .ok (.lreturn, 1) := by decide +kernel
set_option maxRecDepth 20000 in
theorem ggX6_allTestsHold_X6_valueOf : GoodIn wsX6_allTestsHold wsX6_valueOf := goodIn_r _ [8, 9, 10, 11, 12, 13, 14, 15, 16, 17, 18, 19, 20, 21, 22, 23, 24, 25, 26, 27, 28, 29, 30, 7, 31, 32, 33, 34, 35, 36, 37, 38, 39, 40, 41, 42, 43, 44, 45, 46, 47, 48, 56, 57, 58, 59, 60, 61, 70, 71, 72, 73, 74, 75, 76, 77, 78, 79, 80, 81, 82, 83, 84, 85, 86] (by decide +kernel) (by decide +kernel)
set_option maxRecDepth 20000 in
theorem gX6_allTestsHold_X6_valueOf : GoodIn wsX6_allTestsHold (wsV RX6 196 RX6 yX6_valueOf wsX6_valueOf) := goodIn_app (goodIn_of _ (by decide +kernel)) ggX6_allTestsHold_X6_valueOf
set_option maxRecDepth 20000 in
theorem ggX6_allTestsHold_X2_testHolds : GoodIn wsX6_allTestsHold wsX2_testHolds := goodIn_r _ [53, 54, 55, 62, 63, 64, 65, 66, 67, 68, 69] (by decide +kernel) (by decide +kernel)
set_option maxRecDepth 20000 in
theorem gX6_allTestsHold_X2_testHolds : GoodIn wsX6_allTestsHold (wsV RX6 200 RX2 yX2_testHolds wsX2_testHolds) := goodIn_app (goodIn_of _ (by decide +kernel)) ggX6_allTestsHold_X2_testHolds
theorem dX6_allTestsHold_0 : decode cX6_allTestsHold 0 = .ok (.iconst 0, 1) := by decide +kernel
theorem dX6_allTestsHold_1 : decode cX6_allTestsHold 1 = .ok (.istore 5, 2) := by decide +kernel
theorem dX6_allTestsHold_3 : decode cX6_allTestsHold 3 = .ok (.iload 5, 2) := by decide +kernel
theorem dX6_allTestsHold_5 : decode cX6_allTestsHold 5 = .ok (.aload_n 0, 1) := by decide +kernel
theorem dX6_allTestsHold_6 : decode cX6_allTestsHold 6 = .ok (.getfield 49, 3) := by decide +kernel
theorem dX6_allTestsHold_9 : decode cX6_allTestsHold 9 = .ok (.getfield 190, 3) := by decide +kernel
theorem dX6_allTestsHold_12 : decode cX6_allTestsHold 12 = .ok (.iload_n 2, 1) := by decide +kernel
theorem dX6_allTestsHold_13 : decode cX6_allTestsHold 13 = .ok (.iaload, 1) := by decide +kernel
theorem dX6_allTestsHold_14 : decode cX6_allTestsHold 14 = .ok (.if_icmp .ge 47, 3) := by decide +kernel
theorem dX6_allTestsHold_17 : decode cX6_allTestsHold 17 = .ok (.iload_n 2, 1) := by decide +kernel
theorem dX6_allTestsHold_18 : decode cX6_allTestsHold 18 = .ok (.iconst 4, 1) := by decide +kernel
theorem dX6_allTestsHold_19 : decode cX6_allTestsHold 19 = .ok (.imul, 1) := by decide +kernel
theorem dX6_allTestsHold_20 : decode cX6_allTestsHold 20 = .ok (.iload 5, 2) := by decide +kernel
theorem dX6_allTestsHold_22 : decode cX6_allTestsHold 22 = .ok (.iadd, 1) := by decide +kernel
theorem dX6_allTestsHold_23 : decode cX6_allTestsHold 23 = .ok (.istore 6, 2) := by decide +kernel
theorem dX6_allTestsHold_25 : decode cX6_allTestsHold 25 = .ok (.aload_n 0, 1) := by decide +kernel
theorem dX6_allTestsHold_26 : decode cX6_allTestsHold 26 = .ok (.getfield 49, 3) := by decide +kernel
theorem dX6_allTestsHold_29 : decode cX6_allTestsHold 29 = .ok (.iload 6, 2) := by decide +kernel
theorem dX6_allTestsHold_31 : decode cX6_allTestsHold 31 = .ok (.aload_n 0, 1) := by decide +kernel
theorem dX6_allTestsHold_32 : decode cX6_allTestsHold 32 = .ok (.aload_n 0, 1) := by decide +kernel
theorem dX6_allTestsHold_33 : decode cX6_allTestsHold 33 = .ok (.getfield 49, 3) := by decide +kernel
theorem dX6_allTestsHold_36 : decode cX6_allTestsHold 36 = .ok (.getfield 193, 3) := by decide +kernel
theorem dX6_allTestsHold_39 : decode cX6_allTestsHold 39 = .ok (.iload 6, 2) := by decide +kernel
theorem dX6_allTestsHold_41 : decode cX6_allTestsHold 41 = .ok (.iaload, 1) := by decide +kernel
theorem dX6_allTestsHold_42 : decode cX6_allTestsHold 42 = .ok (.iload_n 1, 1) := by decide +kernel
theorem dX6_allTestsHold_43 : decode cX6_allTestsHold 43 = .ok (.lload_n 3, 1) := by decide +kernel
theorem dX6_allTestsHold_44 : decode cX6_allTestsHold 44 = .ok (.invokevirtual 196, 3) := by decide +kernel
theorem dX6_allTestsHold_47 : decode cX6_allTestsHold 47 = .ok (.invokevirtual 200, 3) := by decide +kernel
theorem dX6_allTestsHold_50 : decode cX6_allTestsHold 50 = .ok (.ifCond .ne 5, 3) := by decide +kernel
theorem dX6_allTestsHold_53 : decode cX6_allTestsHold 53 = .ok (.iconst 0, 1) := by decide +kernel
theorem dX6_allTestsHold_54 : decode cX6_allTestsHold 54 = .ok (.ireturn, 1) := by decide +kernel
theorem dX6_allTestsHold_55 : decode cX6_allTestsHold 55 = .ok (.iinc 5 1, 3) := by decide +kernel
theorem dX6_allTestsHold_58 : decode cX6_allTestsHold 58 = .ok (.goto (-55), 3) := by decide +kernel
theorem dX6_allTestsHold_61 : decode cX6_allTestsHold 61 = .ok (.iconst 1, 1) := by decide +kernel
theorem dX6_allTestsHold_62 : decode cX6_allTestsHold 62 = .ok (.ireturn, 1) := by decide +kernel
set_option maxRecDepth 20000 in
theorem ggX6_valueOf_X7_coursesOf : GoodIn wsX6_valueOf wsX7_coursesOf := goodIn_r _ [11, 12, 13, 14, 15, 16, 17, 18, 19, 60, 61, 62, 63, 64] (by decide +kernel) (by decide +kernel)
set_option maxRecDepth 20000 in
theorem gX6_valueOf_X7_coursesOf : GoodIn wsX6_valueOf (wsV RX6 95 RX7 yX7_coursesOf wsX7_coursesOf) := goodIn_app (goodIn_of _ (by decide +kernel)) ggX6_valueOf_X7_coursesOf
set_option maxRecDepth 20000 in
theorem ggX6_valueOf_X6_hasFirstWish : GoodIn wsX6_valueOf wsX6_hasFirstWish := goodIn_r _ [24, 1, 25, 4, 26, 27, 28, 29, 30, 31, 32, 33, 34, 10, 35, 12, 42, 43, 44, 45, 46, 47, 48, 49, 50, 51, 52, 53, 60, 61, 62, 63, 64] (by decide +kernel) (by decide +kernel)
set_option maxRecDepth 20000 in
theorem gX6_valueOf_X6_hasFirstWish : GoodIn wsX6_valueOf (wsV RX6 210 RX6 yX6_hasFirstWish wsX6_hasFirstWish) := goodIn_app (goodIn_of _ (by decide +kernel)) ggX6_valueOf_X6_hasFirstWish
set_option maxRecDepth 20000 in
theorem ggX6_valueOf_X8_isOn : GoodIn wsX6_valueOf wsX8_isOn := goodIn_r _ [40, 41, 54, 55, 56, 57, 58, 59] (by decide +kernel) (by decide +kernel)
set_option maxRecDepth 20000 in
theorem gX6_valueOf_X8_isOn : GoodIn wsX6_valueOf (wsV RX6 213 RX8 yX8_isOn wsX8_isOn) := goodIn_app (goodIn_of _ (by decide +kernel)) ggX6_valueOf_X8_isOn
theorem dX6_valueOf_0 : decode cX6_valueOf 0 = .ok (.iload_n 1, 1) := by decide +kernel
theorem dX6_valueOf_1 : decode cX6_valueOf 1 = .ok (.tableswitch 108 203 208 #[39, 50, 61, 108, 71, 85], 39) := by decide +kernel
theorem dX6_valueOf_40 : decode cX6_valueOf 40 = .ok (.aload_n 0, 1) := by decide +kernel
theorem dX6_valueOf_41 : decode cX6_valueOf 41 = .ok (.getfield 28, 3) := by decide +kernel
theorem dX6_valueOf_44 : decode cX6_valueOf 44 = .ok (.getfield 204, 3) := by decide +kernel
theorem dX6_valueOf_47 : decode cX6_valueOf 47 = .ok (.iload_n 2, 1) := by decide +kernel
theorem dX6_valueOf_48 : decode cX6_valueOf 48 = .ok (.iaload, 1) := by decide +kernel
theorem dX6_valueOf_49 : decode cX6_valueOf 49 = .ok (.i2l, 1) := by decide +kernel
theorem dX6_valueOf_50 : decode cX6_valueOf 50 = .ok (.lreturn, 1) := by decide +kernel
theorem dX6_valueOf_51 : decode cX6_valueOf 51 = .ok (.aload_n 0, 1) := by decide +kernel
theorem dX6_valueOf_52 : decode cX6_valueOf 52 = .ok (.getfield 28, 3) := by decide +kernel
theorem dX6_valueOf_55 : decode cX6_valueOf 55 = .ok (.getfield 207, 3) := by decide +kernel
theorem dX6_valueOf_58 : decode cX6_valueOf 58 = .ok (.iload_n 2, 1) := by decide +kernel
theorem dX6_valueOf_59 : decode cX6_valueOf 59 = .ok (.iaload, 1) := by decide +kernel
theorem dX6_valueOf_60 : decode cX6_valueOf 60 = .ok (.i2l, 1) := by decide +kernel
theorem dX6_valueOf_61 : decode cX6_valueOf 61 = .ok (.lreturn, 1) := by decide +kernel
theorem dX6_valueOf_62 : decode cX6_valueOf 62 = .ok (.aload_n 0, 1) := by decide +kernel
theorem dX6_valueOf_63 : decode cX6_valueOf 63 = .ok (.getfield 35, 3) := by decide +kernel
theorem dX6_valueOf_66 : decode cX6_valueOf 66 = .ok (.iload_n 2, 1) := by decide +kernel
theorem dX6_valueOf_67 : decode cX6_valueOf 67 = .ok (.invokevirtual 95, 3) := by decide +kernel
theorem dX6_valueOf_70 : decode cX6_valueOf 70 = .ok (.i2l, 1) := by decide +kernel
theorem dX6_valueOf_71 : decode cX6_valueOf 71 = .ok (.lreturn, 1) := by decide +kernel
theorem dX6_valueOf_72 : decode cX6_valueOf 72 = .ok (.aload_n 0, 1) := by decide +kernel
theorem dX6_valueOf_73 : decode cX6_valueOf 73 = .ok (.iload_n 2, 1) := by decide +kernel
theorem dX6_valueOf_74 : decode cX6_valueOf 74 = .ok (.invokevirtual 210, 3) := by decide +kernel
theorem dX6_valueOf_77 : decode cX6_valueOf 77 = .ok (.ifCond .eq 7, 3) := by decide +kernel
theorem dX6_valueOf_80 : decode cX6_valueOf 80 = .ok (.lconst 1, 1) := by decide +kernel
theorem dX6_valueOf_81 : decode cX6_valueOf 81 = .ok (.goto 4, 3) := by decide +kernel
theorem dX6_valueOf_84 : decode cX6_valueOf 84 = .ok (.lconst 0, 1) := by decide +kernel
theorem dX6_valueOf_85 : decode cX6_valueOf 85 = .ok (.lreturn, 1) := by decide +kernel
theorem dX6_valueOf_86 : decode cX6_valueOf 86 = .ok (.aload_n 0, 1) := by decide +kernel
theorem dX6_valueOf_87 : decode cX6_valueOf 87 = .ok (.getfield 42, 3) := by decide +kernel
theorem dX6_valueOf_90 : decode cX6_valueOf 90 = .ok (.invokevirtual 213, 3) := by decide +kernel
theorem dX6_valueOf_93 : decode cX6_valueOf 93 = .ok (.ifCond .eq 14, 3) := by decide +kernel
theorem dX6_valueOf_96 : decode cX6_valueOf 96 = .ok (.aload_n 0, 1) := by decide +kernel
theorem dX6_valueOf_97 : decode cX6_valueOf 97 = .ok (.getfield 42, 3) := by decide +kernel
theorem dX6_valueOf_100 : decode cX6_valueOf 100 = .ok (.getfield 135, 3) := by decide +kernel
theorem dX6_valueOf_103 : decode cX6_valueOf 103 = .ok (.i2l, 1) := by decide +kernel
theorem dX6_valueOf_104 : decode cX6_valueOf 104 = .ok (.goto 4, 3) := by decide +kernel
theorem dX6_valueOf_107 : decode cX6_valueOf 107 = .ok (.lconst 0, 1) := by decide +kernel
theorem dX6_valueOf_108 : decode cX6_valueOf 108 = .ok (.lreturn, 1) := by decide +kernel
theorem dX6_valueOf_109 : decode cX6_valueOf 109 = .ok (.lload_n 3, 1) := by decide +kernel
theorem dX6_valueOf_110 : decode cX6_valueOf 110 = .ok (.lreturn, 1) := by decide +kernel
set_option maxRecDepth 20000 in
theorem ggX6_hasFirstWish_X4_courseOfRank : GoodIn wsX6_hasFirstWish wsX4_courseOfRank := goodIn_r _ [8, 9, 22, 23, 24, 25, 26, 27] (by decide +kernel) (by decide +kernel)
set_option maxRecDepth 20000 in
theorem gX6_hasFirstWish_X4_courseOfRank : GoodIn wsX6_hasFirstWish (wsV RX6 110 RX4 yX4_courseOfRank wsX4_courseOfRank) := goodIn_app (goodIn_of _ (by decide +kernel)) ggX6_hasFirstWish_X4_courseOfRank
set_option maxRecDepth 20000 in
theorem ggX6_hasFirstWish_X7_hasCourse : GoodIn wsX6_hasFirstWish wsX7_hasCourse := goodIn_r _ [14, 15, 28, 29, 30, 31, 32] (by decide +kernel) (by decide +kernel)
set_option maxRecDepth 20000 in
theorem gX6_hasFirstWish_X7_hasCourse : GoodIn wsX6_hasFirstWish (wsV RX6 80 RX7 yX7_hasCourse wsX7_hasCourse) := goodIn_app (goodIn_of _ (by decide +kernel)) ggX6_hasFirstWish_X7_hasCourse
theorem dX6_hasFirstWish_0 : decode cX6_hasFirstWish 0 = .ok (.aload_n 0, 1) := by decide +kernel
theorem dX6_hasFirstWish_1 : decode cX6_hasFirstWish 1 = .ok (.getfield 28, 3) := by decide +kernel
theorem dX6_hasFirstWish_4 : decode cX6_hasFirstWish 4 = .ok (.getfield 107, 3) := by decide +kernel
theorem dX6_hasFirstWish_7 : decode cX6_hasFirstWish 7 = .ok (.iload_n 1, 1) := by decide +kernel
theorem dX6_hasFirstWish_8 : decode cX6_hasFirstWish 8 = .ok (.iaload, 1) := by decide +kernel
theorem dX6_hasFirstWish_9 : decode cX6_hasFirstWish 9 = .ok (.ifCond .le 27, 3) := by decide +kernel
theorem dX6_hasFirstWish_12 : decode cX6_hasFirstWish 12 = .ok (.aload_n 0, 1) := by decide +kernel
theorem dX6_hasFirstWish_13 : decode cX6_hasFirstWish 13 = .ok (.getfield 35, 3) := by decide +kernel
theorem dX6_hasFirstWish_16 : decode cX6_hasFirstWish 16 = .ok (.iload_n 1, 1) := by decide +kernel
theorem dX6_hasFirstWish_17 : decode cX6_hasFirstWish 17 = .ok (.aload_n 0, 1) := by decide +kernel
theorem dX6_hasFirstWish_18 : decode cX6_hasFirstWish 18 = .ok (.getfield 28, 3) := by decide +kernel
theorem dX6_hasFirstWish_21 : decode cX6_hasFirstWish 21 = .ok (.iload_n 1, 1) := by decide +kernel
theorem dX6_hasFirstWish_22 : decode cX6_hasFirstWish 22 = .ok (.iconst 0, 1) := by decide +kernel
theorem dX6_hasFirstWish_23 : decode cX6_hasFirstWish 23 = .ok (.invokevirtual 110, 3) := by decide +kernel
theorem dX6_hasFirstWish_26 : decode cX6_hasFirstWish 26 = .ok (.invokevirtual 80, 3) := by decide +kernel
theorem dX6_hasFirstWish_29 : decode cX6_hasFirstWish 29 = .ok (.ifCond .eq 7, 3) := by decide +kernel
theorem dX6_hasFirstWish_32 : decode cX6_hasFirstWish 32 = .ok (.iconst 1, 1) := by decide +kernel
theorem dX6_hasFirstWish_33 : decode cX6_hasFirstWish 33 = .ok (.goto 4, 3) := by decide +kernel
theorem dX6_hasFirstWish_36 : decode cX6_hasFirstWish 36 = .ok (.iconst 0, 1) := by decide +kernel
theorem dX6_hasFirstWish_37 : decode cX6_hasFirstWish 37 = .ok (.ireturn, 1) := by decide +kernel
set_option maxRecDepth 20000 in
theorem ggX7_init_J7_fill_53178 : GoodIn wsX7_init wsJ7_fill_53178 := goodIn_r _ [12] (by decide +kernel) (by decide +kernel)
set_option maxRecDepth 20000 in
theorem gX7_init_J7_fill_53178 : GoodIn wsX7_init (va_wsS RX7 24 yJ7_fill_53178 wsJ7_fill_53178) := goodIn_app (goodIn_of _ (by decide +kernel)) ggX7_init_J7_fill_53178
theorem dX7_init_0 : decode cX7_init 0 = .ok (.aload_n 0, 1) := by decide +kernel
theorem dX7_init_1 : decode cX7_init 1 = .ok (.invokespecial 3, 3) := by decide +kernel
theorem dX7_init_4 : decode cX7_init 4 = .ok (.aload_n 0, 1) := by decide +kernel
theorem dX7_init_5 : decode cX7_init 5 = .ok (.bipush 10, 2) := by decide +kernel
theorem dX7_init_7 : decode cX7_init 7 = .ok (.newarray .int, 2) := by decide +kernel
theorem dX7_init_9 : decode cX7_init 9 = .ok (.putfield 9, 3) := by decide +kernel
theorem dX7_init_12 : decode cX7_init 12 = .ok (.aload_n 0, 1) := by decide +kernel
theorem dX7_init_13 : decode cX7_init 13 = .ok (.bipush 10, 2) := by decide +kernel
theorem dX7_init_15 : decode cX7_init 15 = .ok (.newarray .int, 2) := by decide +kernel
theorem dX7_init_17 : decode cX7_init 17 = .ok (.putfield 15, 3) := by decide +kernel
theorem dX7_init_20 : decode cX7_init 20 = .ok (.aload_n 0, 1) := by decide +kernel
theorem dX7_init_21 : decode cX7_init 21 = .ok (.bipush 10, 2) := by decide +kernel
theorem dX7_init_23 : decode cX7_init 23 = .ok (.newarray .int, 2) := by decide +kernel
theorem dX7_init_25 : decode cX7_init 25 = .ok (.putfield 18, 3) := by decide +kernel
theorem dX7_init_28 : decode cX7_init 28 = .ok (.aload_n 0, 1) := by decide +kernel
theorem dX7_init_29 : decode cX7_init 29 = .ok (.bipush 30, 2) := by decide +kernel
theorem dX7_init_31 : decode cX7_init 31 = .ok (.newarray .int, 2) := by decide +kernel
theorem dX7_init_33 : decode cX7_init 33 = .ok (.putfield 21, 3) := by decide +kernel
theorem dX7_init_36 : decode cX7_init 36 = .ok (.aload_n 0, 1) := by decide +kernel
theorem dX7_init_37 : decode cX7_init 37 = .ok (.getfield 9, 3) := by decide +kernel
theorem dX7_init_40 : decode cX7_init 40 = .ok (.iconst (-1), 1) := by decide +kernel
theorem dX7_init_41 : decode cX7_init 41 = .ok (.invokestatic 24, 3) := by decide +kernel
theorem dX7_init_44 : decode cX7_init 44 = .ok (.return_, 1) := by decide +kernel
set_option maxRecDepth 20000 in
theorem ggX7_clear_J7_fill_53178 : GoodIn wsX7_clear wsJ7_fill_53178 := goodIn_r _ [9] (by decide +kernel) (by decide +kernel)
set_option maxRecDepth 20000 in
theorem gX7_clear_J7_fill_53178 : GoodIn wsX7_clear (va_wsS RX7 24 yJ7_fill_53178 wsJ7_fill_53178) := goodIn_app (goodIn_of _ (by decide +kernel)) ggX7_clear_J7_fill_53178
theorem dX7_clear_0 : decode cX7_clear 0 = .ok (.aload_n 0, 1) := by decide +kernel
theorem dX7_clear_1 : decode cX7_clear 1 = .ok (.iconst 0, 1) := by decide +kernel
theorem dX7_clear_2 : decode cX7_clear 2 = .ok (.putfield 30, 3) := by decide +kernel
theorem dX7_clear_5 : decode cX7_clear 5 = .ok (.aload_n 0, 1) := by decide +kernel
theorem dX7_clear_6 : decode cX7_clear 6 = .ok (.getfield 9, 3) := by decide +kernel
theorem dX7_clear_9 : decode cX7_clear 9 = .ok (.iconst (-1), 1) := by decide +kernel
theorem dX7_clear_10 : decode cX7_clear 10 = .ok (.invokestatic 24, 3) := by decide +kernel
theorem dX7_clear_13 : decode cX7_clear 13 = .ok (.aload_n 0, 1) := by decide +kernel
theorem dX7_clear_14 : decode cX7_clear 14 = .ok (.getfield 15, 3) := by decide +kernel
theorem dX7_clear_17 : decode cX7_clear 17 = .ok (.iconst 0, 1) := by decide +kernel
theorem dX7_clear_18 : decode cX7_clear 18 = .ok (.invokestatic 24, 3) := by decide +kernel
theorem dX7_clear_21 : decode cX7_clear 21 = .ok (.aload_n 0, 1) := by decide +kernel
theorem dX7_clear_22 : decode cX7_clear 22 = .ok (.getfield 18, 3) := by decide +kernel
theorem dX7_clear_25 : decode cX7_clear 25 = .ok (.iconst 0, 1) := by decide +kernel
theorem dX7_clear_26 : decode cX7_clear 26 = .ok (.invokestatic 24, 3) := by decide +kernel
theorem dX7_clear_29 : decode cX7_clear 29 = .ok (.aload_n 0, 1) := by decide +kernel
theorem dX7_clear_30 : decode cX7_clear 30 = .ok (.getfield 21, 3) := by decide +kernel
theorem dX7_clear_33 : decode cX7_clear 33 = .ok (.iconst 0, 1) := by decide +kernel
theorem dX7_clear_34 : decode cX7_clear 34 = .ok (.invokestatic 24, 3) := by decide +kernel
theorem dX7_clear_37 : decode cX7_clear 37 = .ok (.return_, 1) := by decide +kernel
theorem dX7_copyFrom_0 : decode cX7_copyFrom 0 = .ok (.aload_n 0, 1) := by decide +kernel
theorem dX7_copyFrom_1 : decode cX7_copyFrom 1 = .ok (.aload_n 1, 1) := by decide +kernel
theorem dX7_copyFrom_2 : decode cX7_copyFrom 2 = .ok (.getfield 30, 3) := by decide +kernel
theorem dX7_copyFrom_5 : decode cX7_copyFrom 5 = .ok (.putfield 30, 3) := by decide +kernel
theorem dX7_copyFrom_8 : decode cX7_copyFrom 8 = .ok (.aload_n 1, 1) := by decide +kernel
theorem dX7_copyFrom_9 : decode cX7_copyFrom 9 = .ok (.getfield 9, 3) := by decide +kernel
theorem dX7_copyFrom_12 : decode cX7_copyFrom 12 = .ok (.iconst 0, 1) := by decide +kernel
theorem dX7_copyFrom_13 : decode cX7_copyFrom 13 = .ok (.aload_n 0, 1) := by decide +kernel
theorem dX7_copyFrom_14 : decode cX7_copyFrom 14 = .ok (.getfield 9, 3) := by decide +kernel
theorem dX7_copyFrom_17 : decode cX7_copyFrom 17 = .ok (.iconst 0, 1) := by decide +kernel
theorem dX7_copyFrom_18 : decode cX7_copyFrom 18 = .ok (.bipush 10, 2) := by decide +kernel
theorem dX7_copyFrom_20 : decode cX7_copyFrom 20 = .ok (.invokestatic 34, 3) := by decide +kernel
theorem dX7_copyFrom_23 : decode cX7_copyFrom 23 = .ok (.aload_n 1, 1) := by decide +kernel
theorem dX7_copyFrom_24 : decode cX7_copyFrom 24 = .ok (.getfield 15, 3) := by decide +kernel
theorem dX7_copyFrom_27 : decode cX7_copyFrom 27 = .ok (.iconst 0, 1) := by decide +kernel
theorem dX7_copyFrom_28 : decode cX7_copyFrom 28 = .ok (.aload_n 0, 1) := by decide +kernel
theorem dX7_copyFrom_29 : decode cX7_copyFrom 29 = .ok (.getfield 15, 3) := by decide +kernel
theorem dX7_copyFrom_32 : decode cX7_copyFrom 32 = .ok (.iconst 0, 1) := by decide +kernel
theorem dX7_copyFrom_33 : decode cX7_copyFrom 33 = .ok (.bipush 10, 2) := by decide +kernel
theorem dX7_copyFrom_35 : decode cX7_copyFrom 35 = .ok (.invokestatic 34, 3) := by decide +kernel
theorem dX7_copyFrom_38 : decode cX7_copyFrom 38 = .ok (.aload_n 1, 1) := by decide +kernel
theorem dX7_copyFrom_39 : decode cX7_copyFrom 39 = .ok (.getfield 18, 3) := by decide +kernel
theorem dX7_copyFrom_42 : decode cX7_copyFrom 42 = .ok (.iconst 0, 1) := by decide +kernel
theorem dX7_copyFrom_43 : decode cX7_copyFrom 43 = .ok (.aload_n 0, 1) := by decide +kernel
theorem dX7_copyFrom_44 : decode cX7_copyFrom 44 = .ok (.getfield 18, 3) := by decide +kernel
theorem dX7_copyFrom_47 : decode cX7_copyFrom 47 = .ok (.iconst 0, 1) := by decide +kernel
theorem dX7_copyFrom_48 : decode cX7_copyFrom 48 = .ok (.bipush 10, 2) := by decide +kernel
theorem dX7_copyFrom_50 : decode cX7_copyFrom 50 = .ok (.invokestatic 34, 3) := by decide +kernel
theorem dX7_copyFrom_53 : decode cX7_copyFrom 53 = .ok (.aload_n 1, 1) := by decide +kernel
theorem dX7_copyFrom_54 : decode cX7_copyFrom 54 = .ok (.getfield 21, 3) := by decide +kernel
theorem dX7_copyFrom_57 : decode cX7_copyFrom 57 = .ok (.iconst 0, 1) := by decide +kernel
theorem dX7_copyFrom_58 : decode cX7_copyFrom 58 = .ok (.aload_n 0, 1) := by decide +kernel
theorem dX7_copyFrom_59 : decode cX7_copyFrom 59 = .ok (.getfield 21, 3) := by decide +kernel
theorem dX7_copyFrom_62 : decode cX7_copyFrom 62 = .ok (.iconst 0, 1) := by decide +kernel
theorem dX7_copyFrom_63 : decode cX7_copyFrom 63 = .ok (.bipush 30, 2) := by decide +kernel
theorem dX7_copyFrom_65 : decode cX7_copyFrom 65 = .ok (.invokestatic 34, 3) := by decide +kernel
theorem dX7_copyFrom_68 : decode cX7_copyFrom 68 = .ok (.return_, 1) := by decide +kernel
theorem dX7_isHeld_0 : decode cX7_isHeld 0 = .ok (.aload_n 0, 1) := by decide +kernel
theorem dX7_isHeld_1 : decode cX7_isHeld 1 = .ok (.getfield 30, 3) := by decide +kernel
theorem dX7_isHeld_4 : decode cX7_isHeld 4 = .ok (.iload_n 1, 1) := by decide +kernel
theorem dX7_isHeld_5 : decode cX7_isHeld 5 = .ok (.ishr, 1) := by decide +kernel
theorem dX7_isHeld_6 : decode cX7_isHeld 6 = .ok (.iconst 1, 1) := by decide +kernel
theorem dX7_isHeld_7 : decode cX7_isHeld 7 = .ok (.iand, 1) := by decide +kernel
theorem dX7_isHeld_8 : decode cX7_isHeld 8 = .ok (.ifCond .eq 7, 3) := by decide +kernel
theorem dX7_isHeld_11 : decode cX7_isHeld 11 = .ok (.iconst 1, 1) := by decide +kernel
theorem dX7_isHeld_12 : decode cX7_isHeld 12 = .ok (.goto 4, 3) := by decide +kernel
theorem dX7_isHeld_15 : decode cX7_isHeld 15 = .ok (.iconst 0, 1) := by decide +kernel
theorem dX7_isHeld_16 : decode cX7_isHeld 16 = .ok (.ireturn, 1) := by decide +kernel
theorem dX7_hasCourse_0 : decode cX7_hasCourse 0 = .ok (.aload_n 0, 1) := by decide +kernel
theorem dX7_hasCourse_1 : decode cX7_hasCourse 1 = .ok (.getfield 21, 3) := by decide +kernel
theorem dX7_hasCourse_4 : decode cX7_hasCourse 4 = .ok (.iload_n 1, 1) := by decide +kernel
theorem dX7_hasCourse_5 : decode cX7_hasCourse 5 = .ok (.iaload, 1) := by decide +kernel
theorem dX7_hasCourse_6 : decode cX7_hasCourse 6 = .ok (.iload_n 2, 1) := by decide +kernel
theorem dX7_hasCourse_7 : decode cX7_hasCourse 7 = .ok (.ishr, 1) := by decide +kernel
theorem dX7_hasCourse_8 : decode cX7_hasCourse 8 = .ok (.iconst 1, 1) := by decide +kernel
theorem dX7_hasCourse_9 : decode cX7_hasCourse 9 = .ok (.iand, 1) := by decide +kernel
theorem dX7_hasCourse_10 : decode cX7_hasCourse 10 = .ok (.ifCond .eq 7, 3) := by decide +kernel
theorem dX7_hasCourse_13 : decode cX7_hasCourse 13 = .ok (.iconst 1, 1) := by decide +kernel
theorem dX7_hasCourse_14 : decode cX7_hasCourse 14 = .ok (.goto 4, 3) := by decide +kernel
theorem dX7_hasCourse_17 : decode cX7_hasCourse 17 = .ok (.iconst 0, 1) := by decide +kernel
theorem dX7_hasCourse_18 : decode cX7_hasCourse 18 = .ok (.ireturn, 1) := by decide +kernel
set_option maxRecDepth 20000 in
theorem ggX7_coursesOf_J6_bitCount_0f7a4 : GoodIn wsX7_coursesOf wsJ6_bitCount_0f7a4 := goodIn_r _ [5, 6, 7, 8] (by decide +kernel) (by decide +kernel)
set_option maxRecDepth 20000 in
theorem gX7_coursesOf_J6_bitCount_0f7a4 : GoodIn wsX7_coursesOf (va_wsS RX7 40 yJ6_bitCount_0f7a4 wsJ6_bitCount_0f7a4) := goodIn_app (goodIn_of _ (by decide +kernel)) ggX7_coursesOf_J6_bitCount_0f7a4
theorem dX7_coursesOf_0 : decode cX7_coursesOf 0 = .ok (.aload_n 0, 1) := by decide +kernel
theorem dX7_coursesOf_1 : decode cX7_coursesOf 1 = .ok (.getfield 21, 3) := by decide +kernel
theorem dX7_coursesOf_4 : decode cX7_coursesOf 4 = .ok (.iload_n 1, 1) := by decide +kernel
theorem dX7_coursesOf_5 : decode cX7_coursesOf 5 = .ok (.iaload, 1) := by decide +kernel
theorem dX7_coursesOf_6 : decode cX7_coursesOf 6 = .ok (.invokestatic 40, 3) := by decide +kernel
theorem dX7_coursesOf_9 : decode cX7_coursesOf 9 = .ok (.ireturn, 1) := by decide +kernel
theorem dX7_hasPlaceLeft_0 : decode cX7_hasPlaceLeft 0 = .ok (.aload_n 0, 1) := by decide +kernel
theorem dX7_hasPlaceLeft_1 : decode cX7_hasPlaceLeft 1 = .ok (.getfield 18, 3) := by decide +kernel
theorem dX7_hasPlaceLeft_4 : decode cX7_hasPlaceLeft 4 = .ok (.iload_n 1, 1) := by decide +kernel
theorem dX7_hasPlaceLeft_5 : decode cX7_hasPlaceLeft 5 = .ok (.iaload, 1) := by decide +kernel
theorem dX7_hasPlaceLeft_6 : decode cX7_hasPlaceLeft 6 = .ok (.aload_n 0, 1) := by decide +kernel
theorem dX7_hasPlaceLeft_7 : decode cX7_hasPlaceLeft 7 = .ok (.getfield 15, 3) := by decide +kernel
theorem dX7_hasPlaceLeft_10 : decode cX7_hasPlaceLeft 10 = .ok (.iload_n 1, 1) := by decide +kernel
theorem dX7_hasPlaceLeft_11 : decode cX7_hasPlaceLeft 11 = .ok (.iaload, 1) := by decide +kernel
theorem dX7_hasPlaceLeft_12 : decode cX7_hasPlaceLeft 12 = .ok (.if_icmp .ge 7, 3) := by decide +kernel
theorem dX7_hasPlaceLeft_15 : decode cX7_hasPlaceLeft 15 = .ok (.iconst 1, 1) := by decide +kernel
theorem dX7_hasPlaceLeft_16 : decode cX7_hasPlaceLeft 16 = .ok (.goto 4, 3) := by decide +kernel
theorem dX7_hasPlaceLeft_19 : decode cX7_hasPlaceLeft 19 = .ok (.iconst 0, 1) := by decide +kernel
theorem dX7_hasPlaceLeft_20 : decode cX7_hasPlaceLeft 20 = .ok (.ireturn, 1) := by decide +kernel
theorem dX7_give_0 : decode cX7_give 0 = .ok (.aload_n 0, 1) := by decide +kernel
theorem dX7_give_1 : decode cX7_give 1 = .ok (.getfield 21, 3) := by decide +kernel
theorem dX7_give_4 : decode cX7_give 4 = .ok (.iload_n 1, 1) := by decide +kernel
theorem dX7_give_5 : decode cX7_give 5 = .ok (.dup2, 1) := by decide +kernel
theorem dX7_give_6 : decode cX7_give 6 = .ok (.iaload, 1) := by decide +kernel
theorem dX7_give_7 : decode cX7_give 7 = .ok (.iconst 1, 1) := by decide +kernel
theorem dX7_give_8 : decode cX7_give 8 = .ok (.iload_n 2, 1) := by decide +kernel
theorem dX7_give_9 : decode cX7_give 9 = .ok (.ishl, 1) := by decide +kernel
theorem dX7_give_10 : decode cX7_give 10 = .ok (.ior, 1) := by decide +kernel
theorem dX7_give_11 : decode cX7_give 11 = .ok (.iastore, 1) := by decide +kernel
theorem dX7_give_12 : decode cX7_give 12 = .ok (.aload_n 0, 1) := by decide +kernel
theorem dX7_give_13 : decode cX7_give 13 = .ok (.getfield 18, 3) := by decide +kernel
theorem dX7_give_16 : decode cX7_give 16 = .ok (.iload_n 2, 1) := by decide +kernel
theorem dX7_give_17 : decode cX7_give 17 = .ok (.dup2, 1) := by decide +kernel
theorem dX7_give_18 : decode cX7_give 18 = .ok (.iaload, 1) := by decide +kernel
theorem dX7_give_19 : decode cX7_give 19 = .ok (.iconst 1, 1) := by decide +kernel
theorem dX7_give_20 : decode cX7_give 20 = .ok (.iadd, 1) := by decide +kernel
theorem dX7_give_21 : decode cX7_give 21 = .ok (.iastore, 1) := by decide +kernel
theorem dX7_give_22 : decode cX7_give 22 = .ok (.return_, 1) := by decide +kernel
theorem dX7_takeAway_0 : decode cX7_takeAway 0 = .ok (.aload_n 0, 1) := by decide +kernel
theorem dX7_takeAway_1 : decode cX7_takeAway 1 = .ok (.getfield 21, 3) := by decide +kernel
theorem dX7_takeAway_4 : decode cX7_takeAway 4 = .ok (.iload_n 1, 1) := by decide +kernel
theorem dX7_takeAway_5 : decode cX7_takeAway 5 = .ok (.dup2, 1) := by decide +kernel
theorem dX7_takeAway_6 : decode cX7_takeAway 6 = .ok (.iaload, 1) := by decide +kernel
theorem dX7_takeAway_7 : decode cX7_takeAway 7 = .ok (.iconst 1, 1) := by decide +kernel
theorem dX7_takeAway_8 : decode cX7_takeAway 8 = .ok (.iload_n 2, 1) := by decide +kernel
theorem dX7_takeAway_9 : decode cX7_takeAway 9 = .ok (.ishl, 1) := by decide +kernel
theorem dX7_takeAway_10 : decode cX7_takeAway 10 = .ok (.iconst (-1), 1) := by decide +kernel
theorem dX7_takeAway_11 : decode cX7_takeAway 11 = .ok (.ixor, 1) := by decide +kernel
theorem dX7_takeAway_12 : decode cX7_takeAway 12 = .ok (.iand, 1) := by decide +kernel
theorem dX7_takeAway_13 : decode cX7_takeAway 13 = .ok (.iastore, 1) := by decide +kernel
theorem dX7_takeAway_14 : decode cX7_takeAway 14 = .ok (.aload_n 0, 1) := by decide +kernel
theorem dX7_takeAway_15 : decode cX7_takeAway 15 = .ok (.getfield 18, 3) := by decide +kernel
theorem dX7_takeAway_18 : decode cX7_takeAway 18 = .ok (.iload_n 2, 1) := by decide +kernel
theorem dX7_takeAway_19 : decode cX7_takeAway 19 = .ok (.dup2, 1) := by decide +kernel
theorem dX7_takeAway_20 : decode cX7_takeAway 20 = .ok (.iaload, 1) := by decide +kernel
theorem dX7_takeAway_21 : decode cX7_takeAway 21 = .ok (.iconst 1, 1) := by decide +kernel
theorem dX7_takeAway_22 : decode cX7_takeAway 22 = .ok (.isub, 1) := by decide +kernel
theorem dX7_takeAway_23 : decode cX7_takeAway 23 = .ok (.iastore, 1) := by decide +kernel
theorem dX7_takeAway_24 : decode cX7_takeAway 24 = .ok (.return_, 1) := by decide +kernel
theorem dX7_cancel_0 : decode cX7_cancel 0 = .ok (.iconst 1, 1) := by decide +kernel
theorem dX7_cancel_1 : decode cX7_cancel 1 = .ok (.iload_n 1, 1) := by decide +kernel
theorem dX7_cancel_2 : decode cX7_cancel 2 = .ok (.ishl, 1) := by decide +kernel
theorem dX7_cancel_3 : decode cX7_cancel 3 = .ok (.iconst (-1), 1) := by decide +kernel
theorem dX7_cancel_4 : decode cX7_cancel 4 = .ok (.ixor, 1) := by decide +kernel
theorem dX7_cancel_5 : decode cX7_cancel 5 = .ok (.istore_n 2, 1) := by decide +kernel
theorem dX7_cancel_6 : decode cX7_cancel 6 = .ok (.aload_n 0, 1) := by decide +kernel
theorem dX7_cancel_7 : decode cX7_cancel 7 = .ok (.dup, 1) := by decide +kernel
theorem dX7_cancel_8 : decode cX7_cancel 8 = .ok (.getfield 30, 3) := by decide +kernel
theorem dX7_cancel_11 : decode cX7_cancel 11 = .ok (.iload_n 2, 1) := by decide +kernel
theorem dX7_cancel_12 : decode cX7_cancel 12 = .ok (.iand, 1) := by decide +kernel
theorem dX7_cancel_13 : decode cX7_cancel 13 = .ok (.putfield 30, 3) := by decide +kernel
theorem dX7_cancel_16 : decode cX7_cancel 16 = .ok (.aload_n 0, 1) := by decide +kernel
theorem dX7_cancel_17 : decode cX7_cancel 17 = .ok (.getfield 9, 3) := by decide +kernel
theorem dX7_cancel_20 : decode cX7_cancel 20 = .ok (.iload_n 1, 1) := by decide +kernel
theorem dX7_cancel_21 : decode cX7_cancel 21 = .ok (.iconst (-1), 1) := by decide +kernel
theorem dX7_cancel_22 : decode cX7_cancel 22 = .ok (.iastore, 1) := by decide +kernel
theorem dX7_cancel_23 : decode cX7_cancel 23 = .ok (.aload_n 0, 1) := by decide +kernel
theorem dX7_cancel_24 : decode cX7_cancel 24 = .ok (.getfield 15, 3) := by decide +kernel
theorem dX7_cancel_27 : decode cX7_cancel 27 = .ok (.iload_n 1, 1) := by decide +kernel
theorem dX7_cancel_28 : decode cX7_cancel 28 = .ok (.iconst 0, 1) := by decide +kernel
theorem dX7_cancel_29 : decode cX7_cancel 29 = .ok (.iastore, 1) := by decide +kernel
theorem dX7_cancel_30 : decode cX7_cancel 30 = .ok (.aload_n 0, 1) := by decide +kernel
theorem dX7_cancel_31 : decode cX7_cancel 31 = .ok (.getfield 18, 3) := by decide +kernel
theorem dX7_cancel_34 : decode cX7_cancel 34 = .ok (.iload_n 1, 1) := by decide +kernel
theorem dX7_cancel_35 : decode cX7_cancel 35 = .ok (.iconst 0, 1) := by decide +kernel
theorem dX7_cancel_36 : decode cX7_cancel 36 = .ok (.iastore, 1) := by decide +kernel
theorem dX7_cancel_37 : decode cX7_cancel 37 = .ok (.iconst 0, 1) := by decide +kernel
theorem dX7_cancel_38 : decode cX7_cancel 38 = .ok (.istore_n 3, 1) := by decide +kernel
theorem dX7_cancel_39 : decode cX7_cancel 39 = .ok (.iload_n 3, 1) := by decide +kernel
theorem dX7_cancel_40 : decode cX7_cancel 40 = .ok (.bipush 30, 2) := by decide +kernel
theorem dX7_cancel_42 : decode cX7_cancel 42 = .ok (.if_icmp .ge 19, 3) := by decide +kernel
theorem dX7_cancel_45 : decode cX7_cancel 45 = .ok (.aload_n 0, 1) := by decide +kernel
theorem dX7_cancel_46 : decode cX7_cancel 46 = .ok (.getfield 21, 3) := by decide +kernel
theorem dX7_cancel_49 : decode cX7_cancel 49 = .ok (.iload_n 3, 1) := by decide +kernel
theorem dX7_cancel_50 : decode cX7_cancel 50 = .ok (.dup2, 1) := by decide +kernel
theorem dX7_cancel_51 : decode cX7_cancel 51 = .ok (.iaload, 1) := by decide +kernel
theorem dX7_cancel_52 : decode cX7_cancel 52 = .ok (.iload_n 2, 1) := by decide +kernel
theorem dX7_cancel_53 : decode cX7_cancel 53 = .ok (.iand, 1) := by decide +kernel
theorem dX7_cancel_54 : decode cX7_cancel 54 = .ok (.iastore, 1) := by decide +kernel
theorem dX7_cancel_55 : decode cX7_cancel 55 = .ok (.iinc 3 1, 3) := by decide +kernel
theorem dX7_cancel_58 : decode cX7_cancel 58 = .ok (.goto (-19), 3) := by decide +kernel
theorem dX7_cancel_61 : decode cX7_cancel 61 = .ok (.return_, 1) := by decide +kernel
theorem dX8_init_0 : decode cX8_init 0 = .ok (.aload_n 0, 1) := by decide +kernel
theorem dX8_init_1 : decode cX8_init 1 = .ok (.invokespecial 3, 3) := by decide +kernel
theorem dX8_init_4 : decode cX8_init 4 = .ok (.aload_n 0, 1) := by decide +kernel
theorem dX8_init_5 : decode cX8_init 5 = .ok (.iconst (-1), 1) := by decide +kernel
theorem dX8_init_6 : decode cX8_init 6 = .ok (.putfield 9, 3) := by decide +kernel
theorem dX8_init_9 : decode cX8_init 9 = .ok (.aload_n 0, 1) := by decide +kernel
theorem dX8_init_10 : decode cX8_init 10 = .ok (.bipush 30, 2) := by decide +kernel
theorem dX8_init_12 : decode cX8_init 12 = .ok (.newarray .int, 2) := by decide +kernel
theorem dX8_init_14 : decode cX8_init 14 = .ok (.putfield 15, 3) := by decide +kernel
theorem dX8_init_17 : decode cX8_init 17 = .ok (.aload_n 0, 1) := by decide +kernel
theorem dX8_init_18 : decode cX8_init 18 = .ok (.bipush 10, 2) := by decide +kernel
theorem dX8_init_20 : decode cX8_init 20 = .ok (.newarray .int, 2) := by decide +kernel
theorem dX8_init_22 : decode cX8_init 22 = .ok (.putfield 19, 3) := by decide +kernel
theorem dX8_init_25 : decode cX8_init 25 = .ok (.aload_n 0, 1) := by decide +kernel
theorem dX8_init_26 : decode cX8_init 26 = .ok (.bipush 6, 2) := by decide +kernel
theorem dX8_init_28 : decode cX8_init 28 = .ok (.newarray .int, 2) := by decide +kernel
theorem dX8_init_30 : decode cX8_init 30 = .ok (.putfield 22, 3) := by decide +kernel
theorem dX8_init_33 : decode cX8_init 33 = .ok (.aload_n 0, 1) := by decide +kernel
theorem dX8_init_34 : decode cX8_init 34 = .ok (.iconst 5, 1) := by decide +kernel
theorem dX8_init_35 : decode cX8_init 35 = .ok (.newarray .int, 2) := by decide +kernel
theorem dX8_init_37 : decode cX8_init 37 = .ok (.putfield 25, 3) := by decide +kernel
theorem dX8_init_40 : decode cX8_init 40 = .ok (.return_, 1) := by decide +kernel
theorem dX8_isOn_0 : decode cX8_isOn 0 = .ok (.aload_n 0, 1) := by decide +kernel
theorem dX8_isOn_1 : decode cX8_isOn 1 = .ok (.getfield 9, 3) := by decide +kernel
theorem dX8_isOn_4 : decode cX8_isOn 4 = .ok (.iconst (-1), 1) := by decide +kernel
theorem dX8_isOn_5 : decode cX8_isOn 5 = .ok (.if_icmp .eq 7, 3) := by decide +kernel
theorem dX8_isOn_8 : decode cX8_isOn 8 = .ok (.iconst 1, 1) := by decide +kernel
theorem dX8_isOn_9 : decode cX8_isOn 9 = .ok (.goto 4, 3) := by decide +kernel
theorem dX8_isOn_12 : decode cX8_isOn 12 = .ok (.iconst 0, 1) := by decide +kernel
theorem dX8_isOn_13 : decode cX8_isOn 13 = .ok (.ireturn, 1) := by decide +kernel
set_option maxRecDepth 20000 in
theorem ggX8_beginAnew_J7_fill_53178 : GoodIn wsX8_beginAnew wsJ7_fill_53178 := goodIn_r _ [10] (by decide +kernel) (by decide +kernel)
set_option maxRecDepth 20000 in
theorem gX8_beginAnew_J7_fill_53178 : GoodIn wsX8_beginAnew (va_wsS RX8 31 yJ7_fill_53178 wsJ7_fill_53178) := goodIn_app (goodIn_of _ (by decide +kernel)) ggX8_beginAnew_J7_fill_53178
theorem dX8_beginAnew_0 : decode cX8_beginAnew 0 = .ok (.aload_n 0, 1) := by decide +kernel
theorem dX8_beginAnew_1 : decode cX8_beginAnew 1 = .ok (.iload_n 1, 1) := by decide +kernel
theorem dX8_beginAnew_2 : decode cX8_beginAnew 2 = .ok (.putfield 9, 3) := by decide +kernel
theorem dX8_beginAnew_5 : decode cX8_beginAnew 5 = .ok (.aload_n 0, 1) := by decide +kernel
theorem dX8_beginAnew_6 : decode cX8_beginAnew 6 = .ok (.iconst 0, 1) := by decide +kernel
theorem dX8_beginAnew_7 : decode cX8_beginAnew 7 = .ok (.putfield 28, 3) := by decide +kernel
theorem dX8_beginAnew_10 : decode cX8_beginAnew 10 = .ok (.aload_n 0, 1) := by decide +kernel
theorem dX8_beginAnew_11 : decode cX8_beginAnew 11 = .ok (.getfield 15, 3) := by decide +kernel
theorem dX8_beginAnew_14 : decode cX8_beginAnew 14 = .ok (.iconst 0, 1) := by decide +kernel
theorem dX8_beginAnew_15 : decode cX8_beginAnew 15 = .ok (.invokestatic 31, 3) := by decide +kernel
theorem dX8_beginAnew_18 : decode cX8_beginAnew 18 = .ok (.aload_n 0, 1) := by decide +kernel
theorem dX8_beginAnew_19 : decode cX8_beginAnew 19 = .ok (.getfield 19, 3) := by decide +kernel
theorem dX8_beginAnew_22 : decode cX8_beginAnew 22 = .ok (.iconst 0, 1) := by decide +kernel
theorem dX8_beginAnew_23 : decode cX8_beginAnew 23 = .ok (.invokestatic 31, 3) := by decide +kernel
theorem dX8_beginAnew_26 : decode cX8_beginAnew 26 = .ok (.aload_n 0, 1) := by decide +kernel
theorem dX8_beginAnew_27 : decode cX8_beginAnew 27 = .ok (.getfield 22, 3) := by decide +kernel
theorem dX8_beginAnew_30 : decode cX8_beginAnew 30 = .ok (.iconst 0, 1) := by decide +kernel
theorem dX8_beginAnew_31 : decode cX8_beginAnew 31 = .ok (.invokestatic 31, 3) := by decide +kernel
theorem dX8_beginAnew_34 : decode cX8_beginAnew 34 = .ok (.aload_n 0, 1) := by decide +kernel
theorem dX8_beginAnew_35 : decode cX8_beginAnew 35 = .ok (.getfield 25, 3) := by decide +kernel
theorem dX8_beginAnew_38 : decode cX8_beginAnew 38 = .ok (.iconst 0, 1) := by decide +kernel
theorem dX8_beginAnew_39 : decode cX8_beginAnew 39 = .ok (.invokestatic 31, 3) := by decide +kernel
theorem dX8_beginAnew_42 : decode cX8_beginAnew 42 = .ok (.return_, 1) := by decide +kernel
theorem dX8_copyFrom_0 : decode cX8_copyFrom 0 = .ok (.aload_n 0, 1) := by decide +kernel
theorem dX8_copyFrom_1 : decode cX8_copyFrom 1 = .ok (.aload_n 1, 1) := by decide +kernel
theorem dX8_copyFrom_2 : decode cX8_copyFrom 2 = .ok (.getfield 9, 3) := by decide +kernel
theorem dX8_copyFrom_5 : decode cX8_copyFrom 5 = .ok (.putfield 9, 3) := by decide +kernel
theorem dX8_copyFrom_8 : decode cX8_copyFrom 8 = .ok (.aload_n 0, 1) := by decide +kernel
theorem dX8_copyFrom_9 : decode cX8_copyFrom 9 = .ok (.aload_n 1, 1) := by decide +kernel
theorem dX8_copyFrom_10 : decode cX8_copyFrom 10 = .ok (.getfield 28, 3) := by decide +kernel
theorem dX8_copyFrom_13 : decode cX8_copyFrom 13 = .ok (.putfield 28, 3) := by decide +kernel
theorem dX8_copyFrom_16 : decode cX8_copyFrom 16 = .ok (.aload_n 1, 1) := by decide +kernel
theorem dX8_copyFrom_17 : decode cX8_copyFrom 17 = .ok (.getfield 15, 3) := by decide +kernel
theorem dX8_copyFrom_20 : decode cX8_copyFrom 20 = .ok (.iconst 0, 1) := by decide +kernel
theorem dX8_copyFrom_21 : decode cX8_copyFrom 21 = .ok (.aload_n 0, 1) := by decide +kernel
theorem dX8_copyFrom_22 : decode cX8_copyFrom 22 = .ok (.getfield 15, 3) := by decide +kernel
theorem dX8_copyFrom_25 : decode cX8_copyFrom 25 = .ok (.iconst 0, 1) := by decide +kernel
theorem dX8_copyFrom_26 : decode cX8_copyFrom 26 = .ok (.bipush 30, 2) := by decide +kernel
theorem dX8_copyFrom_28 : decode cX8_copyFrom 28 = .ok (.invokestatic 37, 3) := by decide +kernel
theorem dX8_copyFrom_31 : decode cX8_copyFrom 31 = .ok (.aload_n 1, 1) := by decide +kernel
theorem dX8_copyFrom_32 : decode cX8_copyFrom 32 = .ok (.getfield 19, 3) := by decide +kernel
theorem dX8_copyFrom_35 : decode cX8_copyFrom 35 = .ok (.iconst 0, 1) := by decide +kernel
theorem dX8_copyFrom_36 : decode cX8_copyFrom 36 = .ok (.aload_n 0, 1) := by decide +kernel
theorem dX8_copyFrom_37 : decode cX8_copyFrom 37 = .ok (.getfield 19, 3) := by decide +kernel
theorem dX8_copyFrom_40 : decode cX8_copyFrom 40 = .ok (.iconst 0, 1) := by decide +kernel
theorem dX8_copyFrom_41 : decode cX8_copyFrom 41 = .ok (.bipush 10, 2) := by decide +kernel
theorem dX8_copyFrom_43 : decode cX8_copyFrom 43 = .ok (.invokestatic 37, 3) := by decide +kernel
theorem dX8_copyFrom_46 : decode cX8_copyFrom 46 = .ok (.aload_n 1, 1) := by decide +kernel
theorem dX8_copyFrom_47 : decode cX8_copyFrom 47 = .ok (.getfield 22, 3) := by decide +kernel
theorem dX8_copyFrom_50 : decode cX8_copyFrom 50 = .ok (.iconst 0, 1) := by decide +kernel
theorem dX8_copyFrom_51 : decode cX8_copyFrom 51 = .ok (.aload_n 0, 1) := by decide +kernel
theorem dX8_copyFrom_52 : decode cX8_copyFrom 52 = .ok (.getfield 22, 3) := by decide +kernel
theorem dX8_copyFrom_55 : decode cX8_copyFrom 55 = .ok (.iconst 0, 1) := by decide +kernel
theorem dX8_copyFrom_56 : decode cX8_copyFrom 56 = .ok (.bipush 6, 2) := by decide +kernel
theorem dX8_copyFrom_58 : decode cX8_copyFrom 58 = .ok (.invokestatic 37, 3) := by decide +kernel
theorem dX8_copyFrom_61 : decode cX8_copyFrom 61 = .ok (.aload_n 1, 1) := by decide +kernel
theorem dX8_copyFrom_62 : decode cX8_copyFrom 62 = .ok (.getfield 25, 3) := by decide +kernel
theorem dX8_copyFrom_65 : decode cX8_copyFrom 65 = .ok (.iconst 0, 1) := by decide +kernel
theorem dX8_copyFrom_66 : decode cX8_copyFrom 66 = .ok (.aload_n 0, 1) := by decide +kernel
theorem dX8_copyFrom_67 : decode cX8_copyFrom 67 = .ok (.getfield 25, 3) := by decide +kernel
theorem dX8_copyFrom_70 : decode cX8_copyFrom 70 = .ok (.iconst 0, 1) := by decide +kernel
theorem dX8_copyFrom_71 : decode cX8_copyFrom 71 = .ok (.iconst 5, 1) := by decide +kernel
theorem dX8_copyFrom_72 : decode cX8_copyFrom 72 = .ok (.invokestatic 37, 3) := by decide +kernel
theorem dX8_copyFrom_75 : decode cX8_copyFrom 75 = .ok (.return_, 1) := by decide +kernel
theorem dX9_init_0 : decode cX9_init 0 = .ok (.aload_n 0, 1) := by decide +kernel
theorem dX9_init_1 : decode cX9_init 1 = .ok (.invokespecial 3, 3) := by decide +kernel
theorem dX9_init_4 : decode cX9_init 4 = .ok (.aload_n 0, 1) := by decide +kernel
theorem dX9_init_5 : decode cX9_init 5 = .ok (.sipush 501, 3) := by decide +kernel
theorem dX9_init_8 : decode cX9_init 8 = .ok (.newarray .int, 2) := by decide +kernel
theorem dX9_init_10 : decode cX9_init 10 = .ok (.putfield 9, 3) := by decide +kernel
theorem dX9_init_13 : decode cX9_init 13 = .ok (.aload_n 0, 1) := by decide +kernel
theorem dX9_init_14 : decode cX9_init 14 = .ok (.sipush 501, 3) := by decide +kernel
theorem dX9_init_17 : decode cX9_init 17 = .ok (.newarray .int, 2) := by decide +kernel
theorem dX9_init_19 : decode cX9_init 19 = .ok (.putfield 15, 3) := by decide +kernel
theorem dX9_init_22 : decode cX9_init 22 = .ok (.aload_n 0, 1) := by decide +kernel
theorem dX9_init_23 : decode cX9_init 23 = .ok (.sipush 501, 3) := by decide +kernel
theorem dX9_init_26 : decode cX9_init 26 = .ok (.newarray .int, 2) := by decide +kernel
theorem dX9_init_28 : decode cX9_init 28 = .ok (.putfield 18, 3) := by decide +kernel
theorem dX9_init_31 : decode cX9_init 31 = .ok (.return_, 1) := by decide +kernel
set_option maxRecDepth 20000 in
theorem ggX9_scan_X9_isDigit : GoodIn wsX9_scan wsX9_isDigit := goodIn_r _ [5] (by decide +kernel) (by decide +kernel)
set_option maxRecDepth 20000 in
theorem gX9_scan_X9_isDigit : GoodIn wsX9_scan (va_wsS RX9 25 yX9_isDigit wsX9_isDigit) := goodIn_app (goodIn_of _ (by decide +kernel)) ggX9_scan_X9_isDigit
set_option maxRecDepth 20000 in
theorem ggX9_scan_X9_addNumber : GoodIn wsX9_scan wsX9_addNumber := goodIn_r _ [9, 2, 3, 4, 5, 10, 11, 12, 13, 1, 14, 15, 16, 82, 83, 84, 85] (by decide +kernel) (by decide +kernel)
set_option maxRecDepth 20000 in
theorem gX9_scan_X9_addNumber : GoodIn wsX9_scan (wsV RX9 29 RX9 yX9_addNumber wsX9_addNumber) := goodIn_app (goodIn_of _ (by decide +kernel)) ggX9_scan_X9_addNumber
set_option maxRecDepth 20000 in
theorem ggX9_scan_X9_isLetter : GoodIn wsX9_scan wsX9_isLetter := goodIn_r _ [19] (by decide +kernel) (by decide +kernel)
set_option maxRecDepth 20000 in
theorem gX9_scan_X9_isLetter : GoodIn wsX9_scan (va_wsS RX9 33 yX9_isLetter wsX9_isLetter) := goodIn_app (goodIn_of _ (by decide +kernel)) ggX9_scan_X9_isLetter
set_option maxRecDepth 20000 in
theorem ggX9_scan_X9_addWord : GoodIn wsX9_scan wsX9_addWord := goodIn_r _ [23, 17, 18, 4, 19, 24, 25, 26, 27, 28, 29, 30, 31, 32, 33, 34, 35, 36, 37, 38, 39, 40, 41, 42, 43, 44, 45, 46, 47, 48, 49, 50, 51, 52, 53, 54, 55, 56, 57, 58, 59, 60, 61, 62, 63, 64, 65, 66, 67, 68, 69, 70, 71, 72, 73, 74, 75, 76, 77, 78, 10, 11, 12, 13, 1, 14, 15, 16, 82, 83, 84, 85] (by decide +kernel) (by decide +kernel)
set_option maxRecDepth 20000 in
theorem gX9_scan_X9_addWord : GoodIn wsX9_scan (wsV RX9 36 RX9 yX9_addWord wsX9_addWord) := goodIn_app (goodIn_of _ (by decide +kernel)) ggX9_scan_X9_addWord
set_option maxRecDepth 20000 in
theorem ggX9_scan_X9_isSign : GoodIn wsX9_scan wsX9_isSign := goodIn_r _ [81] (by decide +kernel) (by decide +kernel)
set_option maxRecDepth 20000 in
theorem gX9_scan_X9_isSign : GoodIn wsX9_scan (va_wsS RX9 39 yX9_isSign wsX9_isSign) := goodIn_app (goodIn_of _ (by decide +kernel)) ggX9_scan_X9_isSign
set_option maxRecDepth 20000 in
theorem ggX9_scan_X9_addToken : GoodIn wsX9_scan wsX9_addToken := goodIn_r _ [13, 1, 14, 15, 16, 82, 83, 84, 85] (by decide +kernel) (by decide +kernel)
set_option maxRecDepth 20000 in
theorem gX9_scan_X9_addToken : GoodIn wsX9_scan (wsV RX9 42 RX9 yX9_addToken wsX9_addToken) := goodIn_app (goodIn_of _ (by decide +kernel)) ggX9_scan_X9_addToken
theorem dX9_scan_0 : decode cX9_scan 0 = .ok (.aload_n 0, 1) := by decide +kernel
theorem dX9_scan_1 : decode cX9_scan 1 = .ok (.iconst 0, 1) := by decide +kernel
theorem dX9_scan_2 : decode cX9_scan 2 = .ok (.putfield 21, 3) := by decide +kernel
theorem dX9_scan_5 : decode cX9_scan 5 = .ok (.iconst 0, 1) := by decide +kernel
theorem dX9_scan_6 : decode cX9_scan 6 = .ok (.istore_n 3, 1) := by decide +kernel
theorem dX9_scan_7 : decode cX9_scan 7 = .ok (.iload_n 3, 1) := by decide +kernel
theorem dX9_scan_8 : decode cX9_scan 8 = .ok (.iload_n 2, 1) := by decide +kernel
theorem dX9_scan_9 : decode cX9_scan 9 = .ok (.if_icmp .ge 115, 3) := by decide +kernel
theorem dX9_scan_12 : decode cX9_scan 12 = .ok (.aload_n 1, 1) := by decide +kernel
theorem dX9_scan_13 : decode cX9_scan 13 = .ok (.iload_n 3, 1) := by decide +kernel
theorem dX9_scan_14 : decode cX9_scan 14 = .ok (.baload, 1) := by decide +kernel
theorem dX9_scan_15 : decode cX9_scan 15 = .ok (.invokestatic 25, 3) := by decide +kernel
theorem dX9_scan_18 : decode cX9_scan 18 = .ok (.ifCond .eq 28, 3) := by decide +kernel
theorem dX9_scan_21 : decode cX9_scan 21 = .ok (.iload_n 3, 1) := by decide +kernel
theorem dX9_scan_22 : decode cX9_scan 22 = .ok (.ifCond .eq 14, 3) := by decide +kernel
theorem dX9_scan_25 : decode cX9_scan 25 = .ok (.aload_n 1, 1) := by decide +kernel
theorem dX9_scan_26 : decode cX9_scan 26 = .ok (.iload_n 3, 1) := by decide +kernel
theorem dX9_scan_27 : decode cX9_scan 27 = .ok (.iconst 1, 1) := by decide +kernel
theorem dX9_scan_28 : decode cX9_scan 28 = .ok (.isub, 1) := by decide +kernel
theorem dX9_scan_29 : decode cX9_scan 29 = .ok (.baload, 1) := by decide +kernel
theorem dX9_scan_30 : decode cX9_scan 30 = .ok (.invokestatic 25, 3) := by decide +kernel
theorem dX9_scan_33 : decode cX9_scan 33 = .ok (.ifCond .ne 85, 3) := by decide +kernel
theorem dX9_scan_36 : decode cX9_scan 36 = .ok (.aload_n 0, 1) := by decide +kernel
theorem dX9_scan_37 : decode cX9_scan 37 = .ok (.aload_n 1, 1) := by decide +kernel
theorem dX9_scan_38 : decode cX9_scan 38 = .ok (.iload_n 3, 1) := by decide +kernel
theorem dX9_scan_39 : decode cX9_scan 39 = .ok (.iload_n 2, 1) := by decide +kernel
theorem dX9_scan_40 : decode cX9_scan 40 = .ok (.invokevirtual 29, 3) := by decide +kernel
theorem dX9_scan_43 : decode cX9_scan 43 = .ok (.goto 75, 3) := by decide +kernel
theorem dX9_scan_46 : decode cX9_scan 46 = .ok (.aload_n 1, 1) := by decide +kernel
theorem dX9_scan_47 : decode cX9_scan 47 = .ok (.iload_n 3, 1) := by decide +kernel
theorem dX9_scan_48 : decode cX9_scan 48 = .ok (.baload, 1) := by decide +kernel
theorem dX9_scan_49 : decode cX9_scan 49 = .ok (.invokestatic 33, 3) := by decide +kernel
theorem dX9_scan_52 : decode cX9_scan 52 = .ok (.ifCond .eq 28, 3) := by decide +kernel
theorem dX9_scan_55 : decode cX9_scan 55 = .ok (.iload_n 3, 1) := by decide +kernel
theorem dX9_scan_56 : decode cX9_scan 56 = .ok (.ifCond .eq 14, 3) := by decide +kernel
theorem dX9_scan_59 : decode cX9_scan 59 = .ok (.aload_n 1, 1) := by decide +kernel
theorem dX9_scan_60 : decode cX9_scan 60 = .ok (.iload_n 3, 1) := by decide +kernel
theorem dX9_scan_61 : decode cX9_scan 61 = .ok (.iconst 1, 1) := by decide +kernel
theorem dX9_scan_62 : decode cX9_scan 62 = .ok (.isub, 1) := by decide +kernel
theorem dX9_scan_63 : decode cX9_scan 63 = .ok (.baload, 1) := by decide +kernel
theorem dX9_scan_64 : decode cX9_scan 64 = .ok (.invokestatic 33, 3) := by decide +kernel
theorem dX9_scan_67 : decode cX9_scan 67 = .ok (.ifCond .ne 51, 3) := by decide +kernel
theorem dX9_scan_70 : decode cX9_scan 70 = .ok (.aload_n 0, 1) := by decide +kernel
theorem dX9_scan_71 : decode cX9_scan 71 = .ok (.aload_n 1, 1) := by decide +kernel
theorem dX9_scan_72 : decode cX9_scan 72 = .ok (.iload_n 3, 1) := by decide +kernel
theorem dX9_scan_73 : decode cX9_scan 73 = .ok (.iload_n 2, 1) := by decide +kernel
theorem dX9_scan_74 : decode cX9_scan 74 = .ok (.invokevirtual 36, 3) := by decide +kernel
theorem dX9_scan_77 : decode cX9_scan 77 = .ok (.goto 41, 3) := by decide +kernel
theorem dX9_scan_80 : decode cX9_scan 80 = .ok (.aload_n 1, 1) := by decide +kernel
theorem dX9_scan_81 : decode cX9_scan 81 = .ok (.iload_n 3, 1) := by decide +kernel
theorem dX9_scan_82 : decode cX9_scan 82 = .ok (.baload, 1) := by decide +kernel
theorem dX9_scan_83 : decode cX9_scan 83 = .ok (.bipush 32, 2) := by decide +kernel
theorem dX9_scan_85 : decode cX9_scan 85 = .ok (.if_icmp .eq 33, 3) := by decide +kernel
theorem dX9_scan_88 : decode cX9_scan 88 = .ok (.aload_n 1, 1) := by decide +kernel
theorem dX9_scan_89 : decode cX9_scan 89 = .ok (.iload_n 3, 1) := by decide +kernel
theorem dX9_scan_90 : decode cX9_scan 90 = .ok (.baload, 1) := by decide +kernel
theorem dX9_scan_91 : decode cX9_scan 91 = .ok (.bipush 10, 2) := by decide +kernel
theorem dX9_scan_93 : decode cX9_scan 93 = .ok (.if_icmp .eq 25, 3) := by decide +kernel
theorem dX9_scan_96 : decode cX9_scan 96 = .ok (.aload_n 0, 1) := by decide +kernel
theorem dX9_scan_97 : decode cX9_scan 97 = .ok (.aload_n 1, 1) := by decide +kernel
theorem dX9_scan_98 : decode cX9_scan 98 = .ok (.iload_n 3, 1) := by decide +kernel
