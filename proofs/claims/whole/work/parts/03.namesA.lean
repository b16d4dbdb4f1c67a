theorem dX0_init_0 : decode cX0_init 0 = .ok (.aload_n 0, 1) := by decide +kernel
theorem dX0_init_1 : decode cX0_init 1 = .ok (.invokespecial 3, 3) := by decide +kernel
theorem dX0_init_4 : decode cX0_init 4 = .ok (.aload_n 0, 1) := by decide +kernel
theorem dX0_init_5 : decode cX0_init 5 = .ok (.sipush 3328, 3) := by decide +kernel
theorem dX0_init_8 : decode cX0_init 8 = .ok (.newarray .int, 2) := by decide +kernel
theorem dX0_init_10 : decode cX0_init 10 = .ok (.putfield 9, 3) := by decide +kernel
theorem dX0_init_13 : decode cX0_init 13 = .ok (.aload_n 0, 1) := by decide +kernel
theorem dX0_init_14 : decode cX0_init 14 = .ok (.iconst 0, 1) := by decide +kernel
theorem dX0_init_15 : decode cX0_init 15 = .ok (.putfield 15, 3) := by decide +kernel
theorem dX0_init_18 : decode cX0_init 18 = .ok (.aload_n 0, 1) := by decide +kernel
theorem dX0_init_19 : decode cX0_init 19 = .ok (.aload_n 1, 1) := by decide +kernel
theorem dX0_init_20 : decode cX0_init 20 = .ok (.putfield 19, 3) := by decide +kernel
theorem dX0_init_23 : decode cX0_init 23 = .ok (.aload_n 0, 1) := by decide +kernel
theorem dX0_init_24 : decode cX0_init 24 = .ok (.aload_n 2, 1) := by decide +kernel
theorem dX0_init_25 : decode cX0_init 25 = .ok (.putfield 23, 3) := by decide +kernel
theorem dX0_init_28 : decode cX0_init 28 = .ok (.return_, 1) := by decide +kernel
theorem dX0_forget_0 : decode cX0_forget 0 = .ok (.aload_n 0, 1) := by decide +kernel
theorem dX0_forget_1 : decode cX0_forget 1 = .ok (.iconst 0, 1) := by decide +kernel
theorem dX0_forget_2 : decode cX0_forget 2 = .ok (.putfield 15, 3) := by decide +kernel
theorem dX0_forget_5 : decode cX0_forget 5 = .ok (.return_, 1) := by decide +kernel
set_option maxRecDepth 20000 in
theorem ggX0_ofSort_X2_learn : GoodIn wsX0_ofSort wsX2_learn := goodIn_r _ [9, 10, 11, 12, 13, 14, 15, 16, 17, 18, 19, 8, 20, 21, 22, 23, 24, 25, 26, 27, 28, 29, 30, 31, 32, 33, 34, 35, 36, 37, 38, 39, 40, 41, 42, 43, 44, 45, 46, 47, 48, 49, 50, 51, 52, 53, 54, 55, 56, 57, 58, 59, 60, 61, 62, 63, 64, 65, 66, 67, 68, 125, 126, 127, 128, 129, 130, 131, 132, 133, 134, 135, 136, 137, 138, 139, 140, 141, 142] (by decide +kernel) (by decide +kernel)
set_option maxRecDepth 20000 in
theorem gX0_ofSort_X2_learn : GoodIn wsX0_ofSort (wsV RX0 27 RX2 yX2_learn wsX2_learn) := goodIn_app (goodIn_of _ (by decide +kernel)) ggX0_ofSort_X2_learn
set_option maxRecDepth 20000 in
theorem ggX0_ofSort_X2_foundCount : GoodIn wsX0_ofSort wsX2_foundCount := goodIn_r _ [72, 12, 125, 126, 127, 128, 129, 130, 131, 132, 133, 134, 135, 136, 137] (by decide +kernel) (by decide +kernel)
set_option maxRecDepth 20000 in
theorem gX0_ofSort_X2_foundCount : GoodIn wsX0_ofSort (wsV RX0 32 RX2 yX2_foundCount wsX2_foundCount) := goodIn_app (goodIn_of _ (by decide +kernel)) ggX0_ofSort_X2_foundCount
set_option maxRecDepth 20000 in
theorem ggX0_ofSort_X0_count : GoodIn wsX0_ofSort wsX0_count := goodIn_r _ [77, 1, 4, 78, 79, 80, 76, 81, 82, 83, 84, 85, 3, 86, 43, 44, 45, 46, 47, 48, 49, 87, 88, 89, 8, 90, 33, 91, 92, 93, 94, 95, 96, 97, 98, 11, 99, 100, 101, 102, 121, 122, 123, 124, 138, 139, 140, 141, 142, 125, 126, 127, 128, 129, 130, 131, 132, 133, 134, 135, 136, 137] (by decide +kernel) (by decide +kernel)
set_option maxRecDepth 20000 in
theorem gX0_ofSort_X0_count : GoodIn wsX0_ofSort (wsV RX0 36 RX0 yX0_count wsX0_count) := goodIn_app (goodIn_of _ (by decide +kernel)) ggX0_ofSort_X0_count
set_option maxRecDepth 20000 in
theorem ggX0_ofSort_X2_foundAt : GoodIn wsX0_ofSort wsX2_foundAt := goodIn_r _ [90, 33, 125, 126, 127, 128, 129, 130, 131, 132, 133, 134, 135, 136, 137] (by decide +kernel) (by decide +kernel)
set_option maxRecDepth 20000 in
theorem gX0_ofSort_X2_foundAt : GoodIn wsX0_ofSort (wsV RX0 40 RX2 yX2_foundAt wsX2_foundAt) := goodIn_app (goodIn_of _ (by decide +kernel)) ggX0_ofSort_X2_foundAt
set_option maxRecDepth 20000 in
theorem ggX0_ofSort_X4_isOfSort : GoodIn wsX0_ofSort wsX4_isOfSort := goodIn_r _ [106, 107, 108, 109, 45, 110, 47, 49, 111, 26, 112, 113, 114, 115, 116, 117, 118, 119, 120, 138, 139, 140, 141, 142] (by decide +kernel) (by decide +kernel)
set_option maxRecDepth 20000 in
theorem gX0_ofSort_X4_isOfSort : GoodIn wsX0_ofSort (wsV RX0 44 RX4 yX4_isOfSort wsX4_isOfSort) := goodIn_app (goodIn_of _ (by decide +kernel)) ggX0_ofSort_X4_isOfSort
theorem dX0_ofSort_0 : decode cX0_ofSort 0 = .ok (.aload_n 0, 1) := by decide +kernel
theorem dX0_ofSort_1 : decode cX0_ofSort 1 = .ok (.getfield 23, 3) := by decide +kernel
theorem dX0_ofSort_4 : decode cX0_ofSort 4 = .ok (.invokevirtual 27, 3) := by decide +kernel
theorem dX0_ofSort_7 : decode cX0_ofSort 7 = .ok (.aload_n 0, 1) := by decide +kernel
theorem dX0_ofSort_8 : decode cX0_ofSort 8 = .ok (.getfield 23, 3) := by decide +kernel
theorem dX0_ofSort_11 : decode cX0_ofSort 11 = .ok (.invokevirtual 32, 3) := by decide +kernel
theorem dX0_ofSort_14 : decode cX0_ofSort 14 = .ok (.istore_n 3, 1) := by decide +kernel
theorem dX0_ofSort_15 : decode cX0_ofSort 15 = .ok (.aload_n 0, 1) := by decide +kernel
theorem dX0_ofSort_16 : decode cX0_ofSort 16 = .ok (.getfield 15, 3) := by decide +kernel
theorem dX0_ofSort_19 : decode cX0_ofSort 19 = .ok (.iconst 1, 1) := by decide +kernel
theorem dX0_ofSort_20 : decode cX0_ofSort 20 = .ok (.iadd, 1) := by decide +kernel
theorem dX0_ofSort_21 : decode cX0_ofSort 21 = .ok (.istore 4, 2) := by decide +kernel
theorem dX0_ofSort_23 : decode cX0_ofSort 23 = .ok (.iload 4, 2) := by decide +kernel
theorem dX0_ofSort_25 : decode cX0_ofSort 25 = .ok (.iload_n 2, 1) := by decide +kernel
theorem dX0_ofSort_26 : decode cX0_ofSort 26 = .ok (.if_icmp .gt 22, 3) := by decide +kernel
theorem dX0_ofSort_29 : decode cX0_ofSort 29 = .ok (.aload_n 0, 1) := by decide +kernel
theorem dX0_ofSort_30 : decode cX0_ofSort 30 = .ok (.iload 4, 2) := by decide +kernel
theorem dX0_ofSort_32 : decode cX0_ofSort 32 = .ok (.iload_n 3, 1) := by decide +kernel
theorem dX0_ofSort_33 : decode cX0_ofSort 33 = .ok (.invokevirtual 36, 3) := by decide +kernel
theorem dX0_ofSort_36 : decode cX0_ofSort 36 = .ok (.aload_n 0, 1) := by decide +kernel
theorem dX0_ofSort_37 : decode cX0_ofSort 37 = .ok (.iload 4, 2) := by decide +kernel
theorem dX0_ofSort_39 : decode cX0_ofSort 39 = .ok (.putfield 15, 3) := by decide +kernel
theorem dX0_ofSort_42 : decode cX0_ofSort 42 = .ok (.iinc 4 1, 3) := by decide +kernel
theorem dX0_ofSort_45 : decode cX0_ofSort 45 = .ok (.goto (-22), 3) := by decide +kernel
theorem dX0_ofSort_48 : decode cX0_ofSort 48 = .ok (.iconst 0, 1) := by decide +kernel
theorem dX0_ofSort_49 : decode cX0_ofSort 49 = .ok (.istore 4, 2) := by decide +kernel
theorem dX0_ofSort_51 : decode cX0_ofSort 51 = .ok (.iconst 0, 1) := by decide +kernel
theorem dX0_ofSort_52 : decode cX0_ofSort 52 = .ok (.istore 5, 2) := by decide +kernel
theorem dX0_ofSort_54 : decode cX0_ofSort 54 = .ok (.iload 5, 2) := by decide +kernel
theorem dX0_ofSort_56 : decode cX0_ofSort 56 = .ok (.iload_n 3, 1) := by decide +kernel
theorem dX0_ofSort_57 : decode cX0_ofSort 57 = .ok (.if_icmp .ge 51, 3) := by decide +kernel
theorem dX0_ofSort_60 : decode cX0_ofSort 60 = .ok (.aload_n 0, 1) := by decide +kernel
theorem dX0_ofSort_61 : decode cX0_ofSort 61 = .ok (.getfield 23, 3) := by decide +kernel
theorem dX0_ofSort_64 : decode cX0_ofSort 64 = .ok (.iload 5, 2) := by decide +kernel
theorem dX0_ofSort_66 : decode cX0_ofSort 66 = .ok (.invokevirtual 40, 3) := by decide +kernel
theorem dX0_ofSort_69 : decode cX0_ofSort 69 = .ok (.istore 6, 2) := by decide +kernel
theorem dX0_ofSort_71 : decode cX0_ofSort 71 = .ok (.aload_n 0, 1) := by decide +kernel
theorem dX0_ofSort_72 : decode cX0_ofSort 72 = .ok (.getfield 19, 3) := by decide +kernel
theorem dX0_ofSort_75 : decode cX0_ofSort 75 = .ok (.iload 6, 2) := by decide +kernel
theorem dX0_ofSort_77 : decode cX0_ofSort 77 = .ok (.iload_n 1, 1) := by decide +kernel
theorem dX0_ofSort_78 : decode cX0_ofSort 78 = .ok (.invokevirtual 44, 3) := by decide +kernel
theorem dX0_ofSort_81 : decode cX0_ofSort 81 = .ok (.ifCond .eq 21, 3) := by decide +kernel
theorem dX0_ofSort_84 : decode cX0_ofSort 84 = .ok (.iload 4, 2) := by decide +kernel
theorem dX0_ofSort_86 : decode cX0_ofSort 86 = .ok (.aload_n 0, 1) := by decide +kernel
theorem dX0_ofSort_87 : decode cX0_ofSort 87 = .ok (.getfield 9, 3) := by decide +kernel
theorem dX0_ofSort_90 : decode cX0_ofSort 90 = .ok (.iload_n 2, 1) := by decide +kernel
theorem dX0_ofSort_91 : decode cX0_ofSort 91 = .ok (.sipush 256, 3) := by decide +kernel
theorem dX0_ofSort_94 : decode cX0_ofSort 94 = .ok (.imul, 1) := by decide +kernel
theorem dX0_ofSort_95 : decode cX0_ofSort 95 = .ok (.iload 6, 2) := by decide +kernel
theorem dX0_ofSort_97 : decode cX0_ofSort 97 = .ok (.iadd, 1) := by decide +kernel
theorem dX0_ofSort_98 : decode cX0_ofSort 98 = .ok (.iaload, 1) := by decide +kernel
theorem dX0_ofSort_99 : decode cX0_ofSort 99 = .ok (.iadd, 1) := by decide +kernel
theorem dX0_ofSort_100 : decode cX0_ofSort 100 = .ok (.istore 4, 2) := by decide +kernel
theorem dX0_ofSort_102 : decode cX0_ofSort 102 = .ok (.iinc 5 1, 3) := by decide +kernel
theorem dX0_ofSort_105 : decode cX0_ofSort 105 = .ok (.goto (-51), 3) := by decide +kernel
theorem dX0_ofSort_108 : decode cX0_ofSort 108 = .ok (.iload 4, 2) := by decide +kernel
theorem dX0_ofSort_110 : decode cX0_ofSort 110 = .ok (.ireturn, 1) := by decide +kernel
set_option maxRecDepth 20000 in
theorem ggX0_count_X0_emptyRow : GoodIn wsX0_count wsX0_emptyRow := goodIn_r _ [7, 2, 40, 41, 42, 43] (by decide +kernel) (by decide +kernel)
set_option maxRecDepth 20000 in
theorem gX0_count_X0_emptyRow : GoodIn wsX0_count (wsV RX0 50 RX0 yX0_emptyRow wsX0_emptyRow) := goodIn_app (goodIn_of _ (by decide +kernel)) ggX0_count_X0_emptyRow
set_option maxRecDepth 20000 in
theorem ggX0_count_X0_addTerms : GoodIn wsX0_count wsX0_addTerms := goodIn_r _ [11, 2, 12, 13, 14, 15, 16, 17, 18, 19, 20, 40, 41, 42, 43, 44, 45, 46, 47, 48] (by decide +kernel) (by decide +kernel)
set_option maxRecDepth 20000 in
theorem gX0_count_X0_addTerms : GoodIn wsX0_count (wsV RX0 54 RX0 yX0_addTerms wsX0_addTerms) := goodIn_app (goodIn_of _ (by decide +kernel)) ggX0_count_X0_addTerms
set_option maxRecDepth 20000 in
theorem ggX0_count_X2_foundAt : GoodIn wsX0_count wsX2_foundAt := goodIn_r _ [25, 26, 49, 50, 51, 52, 53, 54, 55, 56, 57, 58, 59, 60, 61] (by decide +kernel) (by decide +kernel)
set_option maxRecDepth 20000 in
theorem gX0_count_X2_foundAt : GoodIn wsX0_count (wsV RX0 40 RX2 yX2_foundAt wsX2_foundAt) := goodIn_app (goodIn_of _ (by decide +kernel)) ggX0_count_X2_foundAt
set_option maxRecDepth 20000 in
theorem ggX0_count_X0_countWithLeft : GoodIn wsX0_count wsX0_countWithLeft := goodIn_r _ [30, 1, 31, 32, 33, 24, 34, 35, 21, 22, 23, 25, 26, 36, 37, 38, 6, 39, 2, 8, 9, 10, 11, 12, 13, 14, 15, 16, 17, 18, 19, 20, 40, 41, 42, 43, 49, 50, 51, 52, 53, 54, 55, 56, 57, 58, 59, 60, 61, 44, 45, 46, 47, 48] (by decide +kernel) (by decide +kernel)
set_option maxRecDepth 20000 in
theorem gX0_count_X0_countWithLeft : GoodIn wsX0_count (wsV RX0 58 RX0 yX0_countWithLeft wsX0_countWithLeft) := goodIn_app (goodIn_of _ (by decide +kernel)) ggX0_count_X0_countWithLeft
theorem dX0_count_0 : decode cX0_count 0 = .ok (.aload_n 0, 1) := by decide +kernel
theorem dX0_count_1 : decode cX0_count 1 = .ok (.iload_n 1, 1) := by decide +kernel
theorem dX0_count_2 : decode cX0_count 2 = .ok (.sipush 256, 3) := by decide +kernel
theorem dX0_count_5 : decode cX0_count 5 = .ok (.imul, 1) := by decide +kernel
theorem dX0_count_6 : decode cX0_count 6 = .ok (.invokevirtual 50, 3) := by decide +kernel
theorem dX0_count_9 : decode cX0_count 9 = .ok (.iload_n 1, 1) := by decide +kernel
theorem dX0_count_10 : decode cX0_count 10 = .ok (.iconst 1, 1) := by decide +kernel
theorem dX0_count_11 : decode cX0_count 11 = .ok (.if_icmp .ne 18, 3) := by decide +kernel
theorem dX0_count_14 : decode cX0_count 14 = .ok (.aload_n 0, 1) := by decide +kernel
theorem dX0_count_15 : decode cX0_count 15 = .ok (.iconst 0, 1) := by decide +kernel
theorem dX0_count_16 : decode cX0_count 16 = .ok (.iconst 3, 1) := by decide +kernel
theorem dX0_count_17 : decode cX0_count 17 = .ok (.bipush 17, 2) := by decide +kernel
theorem dX0_count_19 : decode cX0_count 19 = .ok (.bipush 17, 2) := by decide +kernel
theorem dX0_count_21 : decode cX0_count 21 = .ok (.sipush 256, 3) := by decide +kernel
theorem dX0_count_24 : decode cX0_count 24 = .ok (.iconst 1, 1) := by decide +kernel
theorem dX0_count_25 : decode cX0_count 25 = .ok (.invokevirtual 54, 3) := by decide +kernel
theorem dX0_count_28 : decode cX0_count 28 = .ok (.return_, 1) := by decide +kernel
theorem dX0_count_29 : decode cX0_count 29 = .ok (.iconst 0, 1) := by decide +kernel
theorem dX0_count_30 : decode cX0_count 30 = .ok (.istore_n 3, 1) := by decide +kernel
theorem dX0_count_31 : decode cX0_count 31 = .ok (.iload_n 3, 1) := by decide +kernel
theorem dX0_count_32 : decode cX0_count 32 = .ok (.iload_n 2, 1) := by decide +kernel
theorem dX0_count_33 : decode cX0_count 33 = .ok (.if_icmp .ge 66, 3) := by decide +kernel
theorem dX0_count_36 : decode cX0_count 36 = .ok (.aload_n 0, 1) := by decide +kernel
theorem dX0_count_37 : decode cX0_count 37 = .ok (.getfield 23, 3) := by decide +kernel
theorem dX0_count_40 : decode cX0_count 40 = .ok (.iload_n 3, 1) := by decide +kernel
theorem dX0_count_41 : decode cX0_count 41 = .ok (.invokevirtual 40, 3) := by decide +kernel
theorem dX0_count_44 : decode cX0_count 44 = .ok (.istore 4, 2) := by decide +kernel
theorem dX0_count_46 : decode cX0_count 46 = .ok (.aload_n 0, 1) := by decide +kernel
theorem dX0_count_47 : decode cX0_count 47 = .ok (.getfield 9, 3) := by decide +kernel
theorem dX0_count_50 : decode cX0_count 50 = .ok (.iload_n 1, 1) := by decide +kernel
theorem dX0_count_51 : decode cX0_count 51 = .ok (.iconst 1, 1) := by decide +kernel
theorem dX0_count_52 : decode cX0_count 52 = .ok (.isub, 1) := by decide +kernel
theorem dX0_count_53 : decode cX0_count 53 = .ok (.sipush 256, 3) := by decide +kernel
theorem dX0_count_56 : decode cX0_count 56 = .ok (.imul, 1) := by decide +kernel
theorem dX0_count_57 : decode cX0_count 57 = .ok (.iload 4, 2) := by decide +kernel
theorem dX0_count_59 : decode cX0_count 59 = .ok (.iadd, 1) := by decide +kernel
theorem dX0_count_60 : decode cX0_count 60 = .ok (.iaload, 1) := by decide +kernel
theorem dX0_count_61 : decode cX0_count 61 = .ok (.istore 5, 2) := by decide +kernel
theorem dX0_count_63 : decode cX0_count 63 = .ok (.iload 5, 2) := by decide +kernel
theorem dX0_count_65 : decode cX0_count 65 = .ok (.ifCond .eq 20, 3) := by decide +kernel
theorem dX0_count_68 : decode cX0_count 68 = .ok (.aload_n 0, 1) := by decide +kernel
theorem dX0_count_69 : decode cX0_count 69 = .ok (.iconst 3, 1) := by decide +kernel
theorem dX0_count_70 : decode cX0_count 70 = .ok (.iconst 5, 1) := by decide +kernel
theorem dX0_count_71 : decode cX0_count 71 = .ok (.iload 4, 2) := by decide +kernel
theorem dX0_count_73 : decode cX0_count 73 = .ok (.bipush 17, 2) := by decide +kernel
theorem dX0_count_75 : decode cX0_count 75 = .ok (.iload_n 1, 1) := by decide +kernel
theorem dX0_count_76 : decode cX0_count 76 = .ok (.sipush 256, 3) := by decide +kernel
theorem dX0_count_79 : decode cX0_count 79 = .ok (.imul, 1) := by decide +kernel
theorem dX0_count_80 : decode cX0_count 80 = .ok (.iload 5, 2) := by decide +kernel
theorem dX0_count_82 : decode cX0_count 82 = .ok (.invokevirtual 54, 3) := by decide +kernel
theorem dX0_count_85 : decode cX0_count 85 = .ok (.aload_n 0, 1) := by decide +kernel
theorem dX0_count_86 : decode cX0_count 86 = .ok (.iload 4, 2) := by decide +kernel
theorem dX0_count_88 : decode cX0_count 88 = .ok (.iload_n 1, 1) := by decide +kernel
theorem dX0_count_89 : decode cX0_count 89 = .ok (.iload_n 2, 1) := by decide +kernel
theorem dX0_count_90 : decode cX0_count 90 = .ok (.invokevirtual 58, 3) := by decide +kernel
theorem dX0_count_93 : decode cX0_count 93 = .ok (.iinc 3 1, 3) := by decide +kernel
theorem dX0_count_96 : decode cX0_count 96 = .ok (.goto (-65), 3) := by decide +kernel
theorem dX0_count_99 : decode cX0_count 99 = .ok (.return_, 1) := by decide +kernel
theorem dX0_emptyRow_0 : decode cX0_emptyRow 0 = .ok (.iconst 0, 1) := by decide +kernel
theorem dX0_emptyRow_1 : decode cX0_emptyRow 1 = .ok (.istore_n 2, 1) := by decide +kernel
theorem dX0_emptyRow_2 : decode cX0_emptyRow 2 = .ok (.iload_n 2, 1) := by decide +kernel
theorem dX0_emptyRow_3 : decode cX0_emptyRow 3 = .ok (.sipush 256, 3) := by decide +kernel
theorem dX0_emptyRow_6 : decode cX0_emptyRow 6 = .ok (.if_icmp .ge 18, 3) := by decide +kernel
theorem dX0_emptyRow_9 : decode cX0_emptyRow 9 = .ok (.aload_n 0, 1) := by decide +kernel
theorem dX0_emptyRow_10 : decode cX0_emptyRow 10 = .ok (.getfield 9, 3) := by decide +kernel
theorem dX0_emptyRow_13 : decode cX0_emptyRow 13 = .ok (.iload_n 1, 1) := by decide +kernel
theorem dX0_emptyRow_14 : decode cX0_emptyRow 14 = .ok (.iload_n 2, 1) := by decide +kernel
theorem dX0_emptyRow_15 : decode cX0_emptyRow 15 = .ok (.iadd, 1) := by decide +kernel
theorem dX0_emptyRow_16 : decode cX0_emptyRow 16 = .ok (.iconst 0, 1) := by decide +kernel
theorem dX0_emptyRow_17 : decode cX0_emptyRow 17 = .ok (.iastore, 1) := by decide +kernel
theorem dX0_emptyRow_18 : decode cX0_emptyRow 18 = .ok (.iinc 2 1, 3) := by decide +kernel
theorem dX0_emptyRow_21 : decode cX0_emptyRow 21 = .ok (.goto (-19), 3) := by decide +kernel
theorem dX0_emptyRow_24 : decode cX0_emptyRow 24 = .ok (.return_, 1) := by decide +kernel
set_option maxRecDepth 20000 in
theorem ggX0_countWithLeft_X2_sizeOf : GoodIn wsX0_countWithLeft wsX2_sizeOf := goodIn_r _ [6, 7, 36, 37, 38, 39, 40, 41, 42, 43, 44, 45, 46, 47, 48] (by decide +kernel) (by decide +kernel)
set_option maxRecDepth 20000 in
theorem gX0_countWithLeft_X2_sizeOf : GoodIn wsX0_countWithLeft (wsV RX0 62 RX2 yX2_sizeOf wsX2_sizeOf) := goodIn_app (goodIn_of _ (by decide +kernel)) ggX0_countWithLeft_X2_sizeOf
set_option maxRecDepth 20000 in
theorem ggX0_countWithLeft_X2_foundAt : GoodIn wsX0_countWithLeft wsX2_foundAt := goodIn_r _ [11, 12, 36, 37, 38, 39, 40, 41, 42, 43, 44, 45, 46, 47, 48] (by decide +kernel) (by decide +kernel)
set_option maxRecDepth 20000 in
theorem gX0_countWithLeft_X2_foundAt : GoodIn wsX0_countWithLeft (wsV RX0 40 RX2 yX2_foundAt wsX2_foundAt) := goodIn_app (goodIn_of _ (by decide +kernel)) ggX0_countWithLeft_X2_foundAt
set_option maxRecDepth 20000 in
theorem ggX0_countWithLeft_X0_couples : GoodIn wsX0_countWithLeft wsX0_couples := goodIn_r _ [17, 1, 18, 2, 3, 4, 5, 6, 7, 32, 33, 34, 35, 36, 37, 38, 39, 40, 41, 42, 43, 44, 45, 46, 47, 48] (by decide +kernel) (by decide +kernel)
set_option maxRecDepth 20000 in
theorem gX0_countWithLeft_X0_couples : GoodIn wsX0_countWithLeft (wsV RX0 65 RX0 yX0_couples wsX0_couples) := goodIn_app (goodIn_of _ (by decide +kernel)) ggX0_countWithLeft_X0_couples
set_option maxRecDepth 20000 in
theorem ggX0_countWithLeft_X0_addTerms : GoodIn wsX0_countWithLeft wsX0_addTerms := goodIn_r _ [22, 18, 23, 24, 25, 26, 27, 28, 29, 30, 31, 32, 33, 34, 35, 49, 50, 51, 52, 53] (by decide +kernel) (by decide +kernel)
set_option maxRecDepth 20000 in
theorem gX0_countWithLeft_X0_addTerms : GoodIn wsX0_countWithLeft (wsV RX0 54 RX0 yX0_addTerms wsX0_addTerms) := goodIn_app (goodIn_of _ (by decide +kernel)) ggX0_countWithLeft_X0_addTerms
theorem dX0_countWithLeft_0 : decode cX0_countWithLeft 0 = .ok (.iload_n 2, 1) := by decide +kernel
theorem dX0_countWithLeft_1 : decode cX0_countWithLeft 1 = .ok (.iconst 1, 1) := by decide +kernel
theorem dX0_countWithLeft_2 : decode cX0_countWithLeft 2 = .ok (.isub, 1) := by decide +kernel
theorem dX0_countWithLeft_3 : decode cX0_countWithLeft 3 = .ok (.aload_n 0, 1) := by decide +kernel
theorem dX0_countWithLeft_4 : decode cX0_countWithLeft 4 = .ok (.getfield 23, 3) := by decide +kernel
theorem dX0_countWithLeft_7 : decode cX0_countWithLeft 7 = .ok (.iload_n 1, 1) := by decide +kernel
theorem dX0_countWithLeft_8 : decode cX0_countWithLeft 8 = .ok (.invokevirtual 62, 3) := by decide +kernel
theorem dX0_countWithLeft_11 : decode cX0_countWithLeft 11 = .ok (.isub, 1) := by decide +kernel
theorem dX0_countWithLeft_12 : decode cX0_countWithLeft 12 = .ok (.istore 4, 2) := by decide +kernel
theorem dX0_countWithLeft_14 : decode cX0_countWithLeft 14 = .ok (.iconst 0, 1) := by decide +kernel
theorem dX0_countWithLeft_15 : decode cX0_countWithLeft 15 = .ok (.istore 5, 2) := by decide +kernel
theorem dX0_countWithLeft_17 : decode cX0_countWithLeft 17 = .ok (.iload 5, 2) := by decide +kernel
theorem dX0_countWithLeft_19 : decode cX0_countWithLeft 19 = .ok (.iload_n 3, 1) := by decide +kernel
theorem dX0_countWithLeft_20 : decode cX0_countWithLeft 20 = .ok (.if_icmp .ge 69, 3) := by decide +kernel
theorem dX0_countWithLeft_23 : decode cX0_countWithLeft 23 = .ok (.aload_n 0, 1) := by decide +kernel
theorem dX0_countWithLeft_24 : decode cX0_countWithLeft 24 = .ok (.getfield 23, 3) := by decide +kernel
theorem dX0_countWithLeft_27 : decode cX0_countWithLeft 27 = .ok (.iload 5, 2) := by decide +kernel
theorem dX0_countWithLeft_29 : decode cX0_countWithLeft 29 = .ok (.invokevirtual 40, 3) := by decide +kernel
theorem dX0_countWithLeft_32 : decode cX0_countWithLeft 32 = .ok (.istore 6, 2) := by decide +kernel
theorem dX0_countWithLeft_34 : decode cX0_countWithLeft 34 = .ok (.aload_n 0, 1) := by decide +kernel
theorem dX0_countWithLeft_35 : decode cX0_countWithLeft 35 = .ok (.getfield 23, 3) := by decide +kernel
theorem dX0_countWithLeft_38 : decode cX0_countWithLeft 38 = .ok (.iload 6, 2) := by decide +kernel
theorem dX0_countWithLeft_40 : decode cX0_countWithLeft 40 = .ok (.invokevirtual 62, 3) := by decide +kernel
theorem dX0_countWithLeft_43 : decode cX0_countWithLeft 43 = .ok (.iload 4, 2) := by decide +kernel
theorem dX0_countWithLeft_45 : decode cX0_countWithLeft 45 = .ok (.if_icmp .le 4, 3) := by decide +kernel
theorem dX0_countWithLeft_48 : decode cX0_countWithLeft 48 = .ok (.return_, 1) := by decide +kernel
theorem dX0_countWithLeft_49 : decode cX0_countWithLeft 49 = .ok (.aload_n 0, 1) := by decide +kernel
theorem dX0_countWithLeft_50 : decode cX0_countWithLeft 50 = .ok (.iload_n 1, 1) := by decide +kernel
theorem dX0_countWithLeft_51 : decode cX0_countWithLeft 51 = .ok (.iload 6, 2) := by decide +kernel
theorem dX0_countWithLeft_53 : decode cX0_countWithLeft 53 = .ok (.iload_n 2, 1) := by decide +kernel
theorem dX0_countWithLeft_54 : decode cX0_countWithLeft 54 = .ok (.iconst 1, 1) := by decide +kernel
theorem dX0_countWithLeft_55 : decode cX0_countWithLeft 55 = .ok (.isub, 1) := by decide +kernel
theorem dX0_countWithLeft_56 : decode cX0_countWithLeft 56 = .ok (.invokevirtual 65, 3) := by decide +kernel
theorem dX0_countWithLeft_59 : decode cX0_countWithLeft 59 = .ok (.istore 7, 2) := by decide +kernel
theorem dX0_countWithLeft_61 : decode cX0_countWithLeft 61 = .ok (.iload 7, 2) := by decide +kernel
theorem dX0_countWithLeft_63 : decode cX0_countWithLeft 63 = .ok (.ifCond .eq 20, 3) := by decide +kernel
theorem dX0_countWithLeft_66 : decode cX0_countWithLeft 66 = .ok (.aload_n 0, 1) := by decide +kernel
theorem dX0_countWithLeft_67 : decode cX0_countWithLeft 67 = .ok (.iconst 5, 1) := by decide +kernel
theorem dX0_countWithLeft_68 : decode cX0_countWithLeft 68 = .ok (.bipush 8, 2) := by decide +kernel
theorem dX0_countWithLeft_70 : decode cX0_countWithLeft 70 = .ok (.iload_n 1, 1) := by decide +kernel
theorem dX0_countWithLeft_71 : decode cX0_countWithLeft 71 = .ok (.iload 6, 2) := by decide +kernel
theorem dX0_countWithLeft_73 : decode cX0_countWithLeft 73 = .ok (.iload_n 2, 1) := by decide +kernel
theorem dX0_countWithLeft_74 : decode cX0_countWithLeft 74 = .ok (.sipush 256, 3) := by decide +kernel
theorem dX0_countWithLeft_77 : decode cX0_countWithLeft 77 = .ok (.imul, 1) := by decide +kernel
theorem dX0_countWithLeft_78 : decode cX0_countWithLeft 78 = .ok (.iload 7, 2) := by decide +kernel
theorem dX0_countWithLeft_80 : decode cX0_countWithLeft 80 = .ok (.invokevirtual 54, 3) := by decide +kernel
theorem dX0_countWithLeft_83 : decode cX0_countWithLeft 83 = .ok (.iinc 5 1, 3) := by decide +kernel
theorem dX0_countWithLeft_86 : decode cX0_countWithLeft 86 = .ok (.goto (-69), 3) := by decide +kernel
theorem dX0_countWithLeft_89 : decode cX0_countWithLeft 89 = .ok (.return_, 1) := by decide +kernel
set_option maxRecDepth 20000 in
theorem ggX0_couples_X2_sizeOf : GoodIn wsX0_couples wsX2_sizeOf := goodIn_r _ [7, 8, 13, 14, 15, 16, 17, 18, 19, 20, 21, 22, 23, 24, 25] (by decide +kernel) (by decide +kernel)
set_option maxRecDepth 20000 in
theorem gX0_couples_X2_sizeOf : GoodIn wsX0_couples (wsV RX0 62 RX2 yX2_sizeOf wsX2_sizeOf) := goodIn_app (goodIn_of _ (by decide +kernel)) ggX0_couples_X2_sizeOf
theorem dX0_couples_0 : decode cX0_couples 0 = .ok (.iconst 0, 1) := by decide +kernel
theorem dX0_couples_1 : decode cX0_couples 1 = .ok (.istore 4, 2) := by decide +kernel
theorem dX0_couples_3 : decode cX0_couples 3 = .ok (.iload_n 3, 1) := by decide +kernel
theorem dX0_couples_4 : decode cX0_couples 4 = .ok (.aload_n 0, 1) := by decide +kernel
theorem dX0_couples_5 : decode cX0_couples 5 = .ok (.getfield 23, 3) := by decide +kernel
theorem dX0_couples_8 : decode cX0_couples 8 = .ok (.iload_n 2, 1) := by decide +kernel
theorem dX0_couples_9 : decode cX0_couples 9 = .ok (.invokevirtual 62, 3) := by decide +kernel
theorem dX0_couples_12 : decode cX0_couples 12 = .ok (.isub, 1) := by decide +kernel
theorem dX0_couples_13 : decode cX0_couples 13 = .ok (.istore 5, 2) := by decide +kernel
theorem dX0_couples_15 : decode cX0_couples 15 = .ok (.aload_n 0, 1) := by decide +kernel
theorem dX0_couples_16 : decode cX0_couples 16 = .ok (.getfield 23, 3) := by decide +kernel
theorem dX0_couples_19 : decode cX0_couples 19 = .ok (.iload_n 1, 1) := by decide +kernel
theorem dX0_couples_20 : decode cX0_couples 20 = .ok (.invokevirtual 62, 3) := by decide +kernel
theorem dX0_couples_23 : decode cX0_couples 23 = .ok (.istore 6, 2) := by decide +kernel
theorem dX0_couples_25 : decode cX0_couples 25 = .ok (.iload 6, 2) := by decide +kernel
theorem dX0_couples_27 : decode cX0_couples 27 = .ok (.iload 5, 2) := by decide +kernel
theorem dX0_couples_29 : decode cX0_couples 29 = .ok (.if_icmp .gt 43, 3) := by decide +kernel
theorem dX0_couples_32 : decode cX0_couples 32 = .ok (.iload 4, 2) := by decide +kernel
theorem dX0_couples_34 : decode cX0_couples 34 = .ok (.aload_n 0, 1) := by decide +kernel
theorem dX0_couples_35 : decode cX0_couples 35 = .ok (.getfield 9, 3) := by decide +kernel
theorem dX0_couples_38 : decode cX0_couples 38 = .ok (.iload 6, 2) := by decide +kernel
theorem dX0_couples_40 : decode cX0_couples 40 = .ok (.sipush 256, 3) := by decide +kernel
theorem dX0_couples_43 : decode cX0_couples 43 = .ok (.imul, 1) := by decide +kernel
theorem dX0_couples_44 : decode cX0_couples 44 = .ok (.iload_n 1, 1) := by decide +kernel
theorem dX0_couples_45 : decode cX0_couples 45 = .ok (.iadd, 1) := by decide +kernel
theorem dX0_couples_46 : decode cX0_couples 46 = .ok (.iaload, 1) := by decide +kernel
theorem dX0_couples_47 : decode cX0_couples 47 = .ok (.aload_n 0, 1) := by decide +kernel
theorem dX0_couples_48 : decode cX0_couples 48 = .ok (.getfield 9, 3) := by decide +kernel
theorem dX0_couples_51 : decode cX0_couples 51 = .ok (.iload_n 3, 1) := by decide +kernel
theorem dX0_couples_52 : decode cX0_couples 52 = .ok (.iload 6, 2) := by decide +kernel
theorem dX0_couples_54 : decode cX0_couples 54 = .ok (.isub, 1) := by decide +kernel
theorem dX0_couples_55 : decode cX0_couples 55 = .ok (.sipush 256, 3) := by decide +kernel
theorem dX0_couples_58 : decode cX0_couples 58 = .ok (.imul, 1) := by decide +kernel
theorem dX0_couples_59 : decode cX0_couples 59 = .ok (.iload_n 2, 1) := by decide +kernel
theorem dX0_couples_60 : decode cX0_couples 60 = .ok (.iadd, 1) := by decide +kernel
theorem dX0_couples_61 : decode cX0_couples 61 = .ok (.iaload, 1) := by decide +kernel
theorem dX0_couples_62 : decode cX0_couples 62 = .ok (.imul, 1) := by decide +kernel
theorem dX0_couples_63 : decode cX0_couples 63 = .ok (.iadd, 1) := by decide +kernel
theorem dX0_couples_64 : decode cX0_couples 64 = .ok (.istore 4, 2) := by decide +kernel
theorem dX0_couples_66 : decode cX0_couples 66 = .ok (.iinc 6 1, 3) := by decide +kernel
theorem dX0_couples_69 : decode cX0_couples 69 = .ok (.goto (-44), 3) := by decide +kernel
theorem dX0_couples_72 : decode cX0_couples 72 = .ok (.iload 4, 2) := by decide +kernel
theorem dX0_couples_74 : decode cX0_couples 74 = .ok (.ireturn, 1) := by decide +kernel
set_option maxRecDepth 20000 in
theorem ggX0_addTerms_X4_profileOf : GoodIn wsX0_addTerms wsX4_profileOf := goodIn_r _ [7, 8, 9, 10, 15, 16, 17, 18, 19] (by decide +kernel) (by decide +kernel)
set_option maxRecDepth 20000 in
theorem gX0_addTerms_X4_profileOf : GoodIn wsX0_addTerms (wsV RX0 69 RX4 yX4_profileOf wsX4_profileOf) := goodIn_app (goodIn_of _ (by decide +kernel)) ggX0_addTerms_X4_profileOf
theorem dX0_addTerms_0 : decode cX0_addTerms 0 = .ok (.iload_n 1, 1) := by decide +kernel
theorem dX0_addTerms_1 : decode cX0_addTerms 1 = .ok (.istore 7, 2) := by decide +kernel
theorem dX0_addTerms_3 : decode cX0_addTerms 3 = .ok (.iload 7, 2) := by decide +kernel
theorem dX0_addTerms_5 : decode cX0_addTerms 5 = .ok (.iload_n 2, 1) := by decide +kernel
theorem dX0_addTerms_6 : decode cX0_addTerms 6 = .ok (.if_icmp .ge 34, 3) := by decide +kernel
theorem dX0_addTerms_9 : decode cX0_addTerms 9 = .ok (.aload_n 0, 1) := by decide +kernel
theorem dX0_addTerms_10 : decode cX0_addTerms 10 = .ok (.getfield 9, 3) := by decide +kernel
theorem dX0_addTerms_13 : decode cX0_addTerms 13 = .ok (.iload 5, 2) := by decide +kernel
theorem dX0_addTerms_15 : decode cX0_addTerms 15 = .ok (.aload_n 0, 1) := by decide +kernel
theorem dX0_addTerms_16 : decode cX0_addTerms 16 = .ok (.getfield 19, 3) := by decide +kernel
theorem dX0_addTerms_19 : decode cX0_addTerms 19 = .ok (.iload 7, 2) := by decide +kernel
theorem dX0_addTerms_21 : decode cX0_addTerms 21 = .ok (.iload_n 3, 1) := by decide +kernel
theorem dX0_addTerms_22 : decode cX0_addTerms 22 = .ok (.iload 4, 2) := by decide +kernel
theorem dX0_addTerms_24 : decode cX0_addTerms 24 = .ok (.invokevirtual 69, 3) := by decide +kernel
theorem dX0_addTerms_27 : decode cX0_addTerms 27 = .ok (.iadd, 1) := by decide +kernel
theorem dX0_addTerms_28 : decode cX0_addTerms 28 = .ok (.dup2, 1) := by decide +kernel
theorem dX0_addTerms_29 : decode cX0_addTerms 29 = .ok (.iaload, 1) := by decide +kernel
theorem dX0_addTerms_30 : decode cX0_addTerms 30 = .ok (.iload 6, 2) := by decide +kernel
theorem dX0_addTerms_32 : decode cX0_addTerms 32 = .ok (.iadd, 1) := by decide +kernel
theorem dX0_addTerms_33 : decode cX0_addTerms 33 = .ok (.iastore, 1) := by decide +kernel
theorem dX0_addTerms_34 : decode cX0_addTerms 34 = .ok (.iinc 7 1, 3) := by decide +kernel
theorem dX0_addTerms_37 : decode cX0_addTerms 37 = .ok (.goto (-34), 3) := by decide +kernel
theorem dX0_addTerms_40 : decode cX0_addTerms 40 = .ok (.return_, 1) := by decide +kernel
theorem dX1_init_0 : decode cX1_init 0 = .ok (.aload_n 0, 1) := by decide +kernel
theorem dX1_init_1 : decode cX1_init 1 = .ok (.invokespecial 3, 3) := by decide +kernel
theorem dX1_init_4 : decode cX1_init 4 = .ok (.aload_n 0, 1) := by decide +kernel
theorem dX1_init_5 : decode cX1_init 5 = .ok (.sipush 200, 3) := by decide +kernel
theorem dX1_init_8 : decode cX1_init 8 = .ok (.newarray .int, 2) := by decide +kernel
theorem dX1_init_10 : decode cX1_init 10 = .ok (.putfield 9, 3) := by decide +kernel
theorem dX1_init_13 : decode cX1_init 13 = .ok (.aload_n 0, 1) := by decide +kernel
theorem dX1_init_14 : decode cX1_init 14 = .ok (.sipush 200, 3) := by decide +kernel
theorem dX1_init_17 : decode cX1_init 17 = .ok (.newarray .int, 2) := by decide +kernel
theorem dX1_init_19 : decode cX1_init 19 = .ok (.putfield 15, 3) := by decide +kernel
theorem dX1_init_22 : decode cX1_init 22 = .ok (.aload_n 0, 1) := by decide +kernel
theorem dX1_init_23 : decode cX1_init 23 = .ok (.sipush 200, 3) := by decide +kernel
theorem dX1_init_26 : decode cX1_init 26 = .ok (.newarray .int, 2) := by decide +kernel
theorem dX1_init_28 : decode cX1_init 28 = .ok (.putfield 18, 3) := by decide +kernel
theorem dX1_init_31 : decode cX1_init 31 = .ok (.aload_n 0, 1) := by decide +kernel
theorem dX1_init_32 : decode cX1_init 32 = .ok (.sipush 200, 3) := by decide +kernel
theorem dX1_init_35 : decode cX1_init 35 = .ok (.newarray .int, 2) := by decide +kernel
theorem dX1_init_37 : decode cX1_init 37 = .ok (.putfield 21, 3) := by decide +kernel
theorem dX1_init_40 : decode cX1_init 40 = .ok (.aload_n 0, 1) := by decide +kernel
theorem dX1_init_41 : decode cX1_init 41 = .ok (.sipush 200, 3) := by decide +kernel
theorem dX1_init_44 : decode cX1_init 44 = .ok (.newarray .int, 2) := by decide +kernel
theorem dX1_init_46 : decode cX1_init 46 = .ok (.putfield 24, 3) := by decide +kernel
theorem dX1_init_49 : decode cX1_init 49 = .ok (.aload_n 0, 1) := by decide +kernel
theorem dX1_init_50 : decode cX1_init 50 = .ok (.bipush 32, 2) := by decide +kernel
theorem dX1_init_52 : decode cX1_init 52 = .ok (.newarray .int, 2) := by decide +kernel
theorem dX1_init_54 : decode cX1_init 54 = .ok (.putfield 27, 3) := by decide +kernel
theorem dX1_init_57 : decode cX1_init 57 = .ok (.aload_n 0, 1) := by decide +kernel
theorem dX1_init_58 : decode cX1_init 58 = .ok (.iconst 0, 1) := by decide +kernel
theorem dX1_init_59 : decode cX1_init 59 = .ok (.putfield 30, 3) := by decide +kernel
theorem dX1_init_62 : decode cX1_init 62 = .ok (.return_, 1) := by decide +kernel
theorem dX1_holds_0 : decode cX1_holds 0 = .ok (.iload_n 1, 1) := by decide +kernel
theorem dX1_holds_1 : decode cX1_holds 1 = .ok (.ifCond .lt 15, 3) := by decide +kernel
theorem dX1_holds_4 : decode cX1_holds 4 = .ok (.iload_n 1, 1) := by decide +kernel
theorem dX1_holds_5 : decode cX1_holds 5 = .ok (.aload_n 0, 1) := by decide +kernel
theorem dX1_holds_6 : decode cX1_holds 6 = .ok (.getfield 30, 3) := by decide +kernel
theorem dX1_holds_9 : decode cX1_holds 9 = .ok (.if_icmp .ge 7, 3) := by decide +kernel
theorem dX1_holds_12 : decode cX1_holds 12 = .ok (.iconst 1, 1) := by decide +kernel
theorem dX1_holds_13 : decode cX1_holds 13 = .ok (.goto 4, 3) := by decide +kernel
theorem dX1_holds_16 : decode cX1_holds 16 = .ok (.iconst 0, 1) := by decide +kernel
theorem dX1_holds_17 : decode cX1_holds 17 = .ok (.ireturn, 1) := by decide +kernel
theorem dX1_count_0 : decode cX1_count 0 = .ok (.aload_n 0, 1) := by decide +kernel
theorem dX1_count_1 : decode cX1_count 1 = .ok (.getfield 30, 3) := by decide +kernel
theorem dX1_count_4 : decode cX1_count 4 = .ok (.ireturn, 1) := by decide +kernel
theorem dX1_room_0 : decode cX1_room 0 = .ok (.sipush 200, 3) := by decide +kernel
theorem dX1_room_3 : decode cX1_room 3 = .ok (.aload_n 0, 1) := by decide +kernel
theorem dX1_room_4 : decode cX1_room 4 = .ok (.getfield 30, 3) := by decide +kernel
theorem dX1_room_7 : decode cX1_room 7 = .ok (.isub, 1) := by decide +kernel
theorem dX1_room_8 : decode cX1_room 8 = .ok (.ireturn, 1) := by decide +kernel
theorem dX1_symbolOf_0 : decode cX1_symbolOf 0 = .ok (.aload_n 0, 1) := by decide +kernel
theorem dX1_symbolOf_1 : decode cX1_symbolOf 1 = .ok (.getfield 9, 3) := by decide +kernel
theorem dX1_symbolOf_4 : decode cX1_symbolOf 4 = .ok (.iload_n 1, 1) := by decide +kernel
theorem dX1_symbolOf_5 : decode cX1_symbolOf 5 = .ok (.iaload, 1) := by decide +kernel
theorem dX1_symbolOf_6 : decode cX1_symbolOf 6 = .ok (.ireturn, 1) := by decide +kernel
theorem dX1_leftOf_0 : decode cX1_leftOf 0 = .ok (.aload_n 0, 1) := by decide +kernel
theorem dX1_leftOf_1 : decode cX1_leftOf 1 = .ok (.getfield 15, 3) := by decide +kernel
theorem dX1_leftOf_4 : decode cX1_leftOf 4 = .ok (.iload_n 1, 1) := by decide +kernel
theorem dX1_leftOf_5 : decode cX1_leftOf 5 = .ok (.iaload, 1) := by decide +kernel
theorem dX1_leftOf_6 : decode cX1_leftOf 6 = .ok (.ireturn, 1) := by decide +kernel
theorem dX1_rightOf_0 : decode cX1_rightOf 0 = .ok (.aload_n 0, 1) := by decide +kernel
theorem dX1_rightOf_1 : decode cX1_rightOf 1 = .ok (.getfield 18, 3) := by decide +kernel
theorem dX1_rightOf_4 : decode cX1_rightOf 4 = .ok (.iload_n 1, 1) := by decide +kernel
theorem dX1_rightOf_5 : decode cX1_rightOf 5 = .ok (.iaload, 1) := by decide +kernel
theorem dX1_rightOf_6 : decode cX1_rightOf 6 = .ok (.ireturn, 1) := by decide +kernel
theorem dX1_sizeOf_0 : decode cX1_sizeOf 0 = .ok (.aload_n 0, 1) := by decide +kernel
theorem dX1_sizeOf_1 : decode cX1_sizeOf 1 = .ok (.getfield 21, 3) := by decide +kernel
theorem dX1_sizeOf_4 : decode cX1_sizeOf 4 = .ok (.iload_n 1, 1) := by decide +kernel
theorem dX1_sizeOf_5 : decode cX1_sizeOf 5 = .ok (.iaload, 1) := by decide +kernel
theorem dX1_sizeOf_6 : decode cX1_sizeOf 6 = .ok (.ireturn, 1) := by decide +kernel
set_option maxRecDepth 20000 in
theorem ggX1_add_X5_hasLeft : GoodIn wsX1_add wsX5_hasLeft := goodIn_r _ [12] (by decide +kernel) (by decide +kernel)
set_option maxRecDepth 20000 in
theorem gX1_add_X5_hasLeft_n34 : GoodIn wsX1_add (wsX5_hasLeft) := ggX1_add_X5_hasLeft
set_option maxRecDepth 20000 in
theorem ggX1_add_X5_hasRight : GoodIn wsX1_add wsX5_hasRight := goodIn_r _ [14] (by decide +kernel) (by decide +kernel)
set_option maxRecDepth 20000 in
theorem gX1_add_X5_hasRight_n38 : GoodIn wsX1_add (wsX5_hasRight) := ggX1_add_X5_hasRight
set_option maxRecDepth 20000 in
theorem ggX1_add_X1_sizeOrZero : GoodIn wsX1_add wsX1_sizeOrZero := goodIn_r _ [19, 5, 20, 21, 22, 23, 24, 25, 26] (by decide +kernel) (by decide +kernel)
set_option maxRecDepth 20000 in
theorem gX1_add_X1_sizeOrZero : GoodIn wsX1_add (wsV RX1 41 RX1 yX1_sizeOrZero wsX1_sizeOrZero) := goodIn_app (goodIn_of _ (by decide +kernel)) ggX1_add_X1_sizeOrZero
theorem dX1_add_0 : decode cX1_add 0 = .ok (.aload_n 0, 1) := by decide +kernel
theorem dX1_add_1 : decode cX1_add 1 = .ok (.getfield 30, 3) := by decide +kernel
theorem dX1_add_4 : decode cX1_add 4 = .ok (.istore 4, 2) := by decide +kernel
theorem dX1_add_6 : decode cX1_add 6 = .ok (.aload_n 0, 1) := by decide +kernel
theorem dX1_add_7 : decode cX1_add 7 = .ok (.getfield 9, 3) := by decide +kernel
theorem dX1_add_10 : decode cX1_add 10 = .ok (.iload 4, 2) := by decide +kernel
theorem dX1_add_12 : decode cX1_add 12 = .ok (.iload_n 1, 1) := by decide +kernel
theorem dX1_add_13 : decode cX1_add 13 = .ok (.iastore, 1) := by decide +kernel
theorem dX1_add_14 : decode cX1_add 14 = .ok (.aload_n 0, 1) := by decide +kernel
theorem dX1_add_15 : decode cX1_add 15 = .ok (.getfield 15, 3) := by decide +kernel
theorem dX1_add_18 : decode cX1_add 18 = .ok (.iload 4, 2) := by decide +kernel
theorem dX1_add_20 : decode cX1_add 20 = .ok (.iload_n 1, 1) := by decide +kernel
theorem dX1_add_21 : decode cX1_add 21 = .ok (.invokestatic 34, 3) := by decide +kernel
theorem dX1_add_24 : decode cX1_add 24 = .ok (.ifCond .eq 7, 3) := by decide +kernel
theorem dX1_add_27 : decode cX1_add 27 = .ok (.iload_n 2, 1) := by decide +kernel
theorem dX1_add_28 : decode cX1_add 28 = .ok (.goto 4, 3) := by decide +kernel
theorem dX1_add_31 : decode cX1_add 31 = .ok (.iconst (-1), 1) := by decide +kernel
theorem dX1_add_32 : decode cX1_add 32 = .ok (.iastore, 1) := by decide +kernel
theorem dX1_add_33 : decode cX1_add 33 = .ok (.aload_n 0, 1) := by decide +kernel
theorem dX1_add_34 : decode cX1_add 34 = .ok (.getfield 18, 3) := by decide +kernel
theorem dX1_add_37 : decode cX1_add 37 = .ok (.iload 4, 2) := by decide +kernel
theorem dX1_add_39 : decode cX1_add 39 = .ok (.iload_n 1, 1) := by decide +kernel
theorem dX1_add_40 : decode cX1_add 40 = .ok (.invokestatic 38, 3) := by decide +kernel
theorem dX1_add_43 : decode cX1_add 43 = .ok (.ifCond .eq 7, 3) := by decide +kernel
theorem dX1_add_46 : decode cX1_add 46 = .ok (.iload_n 3, 1) := by decide +kernel
theorem dX1_add_47 : decode cX1_add 47 = .ok (.goto 4, 3) := by decide +kernel
theorem dX1_add_50 : decode cX1_add 50 = .ok (.iconst (-1), 1) := by decide +kernel
theorem dX1_add_51 : decode cX1_add 51 = .ok (.iastore, 1) := by decide +kernel
theorem dX1_add_52 : decode cX1_add 52 = .ok (.aload_n 0, 1) := by decide +kernel
theorem dX1_add_53 : decode cX1_add 53 = .ok (.getfield 21, 3) := by decide +kernel
theorem dX1_add_56 : decode cX1_add 56 = .ok (.iload 4, 2) := by decide +kernel
theorem dX1_add_58 : decode cX1_add 58 = .ok (.sipush 1000, 3) := by decide +kernel
theorem dX1_add_61 : decode cX1_add 61 = .ok (.iconst 1, 1) := by decide +kernel
theorem dX1_add_62 : decode cX1_add 62 = .ok (.aload_n 0, 1) := by decide +kernel
theorem dX1_add_63 : decode cX1_add 63 = .ok (.aload_n 0, 1) := by decide +kernel
theorem dX1_add_64 : decode cX1_add 64 = .ok (.getfield 15, 3) := by decide +kernel
theorem dX1_add_67 : decode cX1_add 67 = .ok (.iload 4, 2) := by decide +kernel
theorem dX1_add_69 : decode cX1_add 69 = .ok (.iaload, 1) := by decide +kernel
theorem dX1_add_70 : decode cX1_add 70 = .ok (.invokevirtual 41, 3) := by decide +kernel
theorem dX1_add_73 : decode cX1_add 73 = .ok (.iadd, 1) := by decide +kernel
theorem dX1_add_74 : decode cX1_add 74 = .ok (.aload_n 0, 1) := by decide +kernel
theorem dX1_add_75 : decode cX1_add 75 = .ok (.aload_n 0, 1) := by decide +kernel
theorem dX1_add_76 : decode cX1_add 76 = .ok (.getfield 18, 3) := by decide +kernel
theorem dX1_add_79 : decode cX1_add 79 = .ok (.iload 4, 2) := by decide +kernel
theorem dX1_add_81 : decode cX1_add 81 = .ok (.iaload, 1) := by decide +kernel
theorem dX1_add_82 : decode cX1_add 82 = .ok (.invokevirtual 41, 3) := by decide +kernel
theorem dX1_add_85 : decode cX1_add 85 = .ok (.iadd, 1) := by decide +kernel
theorem dX1_add_86 : decode cX1_add 86 = .ok (.invokestatic 45, 3) := by decide +kernel
theorem dX1_add_89 : decode cX1_add 89 = .ok (.iastore, 1) := by decide +kernel
theorem dX1_add_90 : decode cX1_add 90 = .ok (.aload_n 0, 1) := by decide +kernel
theorem dX1_add_91 : decode cX1_add 91 = .ok (.dup, 1) := by decide +kernel
theorem dX1_add_92 : decode cX1_add 92 = .ok (.getfield 30, 3) := by decide +kernel
theorem dX1_add_95 : decode cX1_add 95 = .ok (.iconst 1, 1) := by decide +kernel
theorem dX1_add_96 : decode cX1_add 96 = .ok (.iadd, 1) := by decide +kernel
theorem dX1_add_97 : decode cX1_add 97 = .ok (.putfield 30, 3) := by decide +kernel
theorem dX1_add_100 : decode cX1_add 100 = .ok (.iload 4, 2) := by decide +kernel
theorem dX1_add_102 : decode cX1_add 102 = .ok (.ireturn, 1) := by decide +kernel
theorem dX1_sizeOrZero_0 : decode cX1_sizeOrZero 0 = .ok (.iload_n 1, 1) := by decide +kernel
theorem dX1_sizeOrZero_1 : decode cX1_sizeOrZero 1 = .ok (.iconst (-1), 1) := by decide +kernel
theorem dX1_sizeOrZero_2 : decode cX1_sizeOrZero 2 = .ok (.if_icmp .ne 7, 3) := by decide +kernel
theorem dX1_sizeOrZero_5 : decode cX1_sizeOrZero 5 = .ok (.iconst 0, 1) := by decide +kernel
theorem dX1_sizeOrZero_6 : decode cX1_sizeOrZero 6 = .ok (.goto 9, 3) := by decide +kernel
theorem dX1_sizeOrZero_9 : decode cX1_sizeOrZero 9 = .ok (.aload_n 0, 1) := by decide +kernel
theorem dX1_sizeOrZero_10 : decode cX1_sizeOrZero 10 = .ok (.getfield 21, 3) := by decide +kernel
theorem dX1_sizeOrZero_13 : decode cX1_sizeOrZero 13 = .ok (.iload_n 1, 1) := by decide +kernel
theorem dX1_sizeOrZero_14 : decode cX1_sizeOrZero 14 = .ok (.iaload, 1) := by decide +kernel
theorem dX1_sizeOrZero_15 : decode cX1_sizeOrZero 15 = .ok (.ireturn, 1) := by decide +kernel
set_option maxRecDepth 20000 in
theorem ggX1_profileOf_X1_childProfile : GoodIn wsX1_profileOf wsX1_childProfile := goodIn_r _ [9, 1, 18, 19, 20, 21, 22, 23, 24] (by decide +kernel) (by decide +kernel)
set_option maxRecDepth 20000 in
theorem gX1_profileOf_X1_childProfile : GoodIn wsX1_profileOf (wsV RX1 51 RX1 yX1_childProfile wsX1_childProfile) := goodIn_app (goodIn_of _ (by decide +kernel)) ggX1_profileOf_X1_childProfile
set_option maxRecDepth 20000 in
theorem ggX1_profileOf_X4_profileOf : GoodIn wsX1_profileOf wsX4_profileOf := goodIn_r _ [14, 15, 16, 17, 25, 26, 27, 28, 29] (by decide +kernel) (by decide +kernel)
set_option maxRecDepth 20000 in
theorem gX1_profileOf_X4_profileOf : GoodIn wsX1_profileOf (wsV RX1 54 RX4 yX4_profileOf wsX4_profileOf) := goodIn_app (goodIn_of _ (by decide +kernel)) ggX1_profileOf_X4_profileOf
theorem dX1_profileOf_0 : decode cX1_profileOf 0 = .ok (.iconst 0, 1) := by decide +kernel
theorem dX1_profileOf_1 : decode cX1_profileOf 1 = .ok (.istore_n 3, 1) := by decide +kernel
theorem dX1_profileOf_2 : decode cX1_profileOf 2 = .ok (.iload_n 3, 1) := by decide +kernel
theorem dX1_profileOf_3 : decode cX1_profileOf 3 = .ok (.iload_n 1, 1) := by decide +kernel
theorem dX1_profileOf_4 : decode cX1_profileOf 4 = .ok (.if_icmp .gt 45, 3) := by decide +kernel
theorem dX1_profileOf_7 : decode cX1_profileOf 7 = .ok (.aload_n 0, 1) := by decide +kernel
theorem dX1_profileOf_8 : decode cX1_profileOf 8 = .ok (.getfield 24, 3) := by decide +kernel
theorem dX1_profileOf_11 : decode cX1_profileOf 11 = .ok (.iload_n 3, 1) := by decide +kernel
theorem dX1_profileOf_12 : decode cX1_profileOf 12 = .ok (.aload_n 2, 1) := by decide +kernel
theorem dX1_profileOf_13 : decode cX1_profileOf 13 = .ok (.aload_n 0, 1) := by decide +kernel
theorem dX1_profileOf_14 : decode cX1_profileOf 14 = .ok (.getfield 9, 3) := by decide +kernel
theorem dX1_profileOf_17 : decode cX1_profileOf 17 = .ok (.iload_n 3, 1) := by decide +kernel
theorem dX1_profileOf_18 : decode cX1_profileOf 18 = .ok (.iaload, 1) := by decide +kernel
theorem dX1_profileOf_19 : decode cX1_profileOf 19 = .ok (.aload_n 0, 1) := by decide +kernel
theorem dX1_profileOf_20 : decode cX1_profileOf 20 = .ok (.aload_n 0, 1) := by decide +kernel
theorem dX1_profileOf_21 : decode cX1_profileOf 21 = .ok (.getfield 15, 3) := by decide +kernel
theorem dX1_profileOf_24 : decode cX1_profileOf 24 = .ok (.iload_n 3, 1) := by decide +kernel
theorem dX1_profileOf_25 : decode cX1_profileOf 25 = .ok (.iaload, 1) := by decide +kernel
theorem dX1_profileOf_26 : decode cX1_profileOf 26 = .ok (.invokevirtual 51, 3) := by decide +kernel
theorem dX1_profileOf_29 : decode cX1_profileOf 29 = .ok (.aload_n 0, 1) := by decide +kernel
theorem dX1_profileOf_30 : decode cX1_profileOf 30 = .ok (.aload_n 0, 1) := by decide +kernel
theorem dX1_profileOf_31 : decode cX1_profileOf 31 = .ok (.getfield 18, 3) := by decide +kernel
theorem dX1_profileOf_34 : decode cX1_profileOf 34 = .ok (.iload_n 3, 1) := by decide +kernel
theorem dX1_profileOf_35 : decode cX1_profileOf 35 = .ok (.iaload, 1) := by decide +kernel
theorem dX1_profileOf_36 : decode cX1_profileOf 36 = .ok (.invokevirtual 51, 3) := by decide +kernel
theorem dX1_profileOf_39 : decode cX1_profileOf 39 = .ok (.invokevirtual 54, 3) := by decide +kernel
theorem dX1_profileOf_42 : decode cX1_profileOf 42 = .ok (.iastore, 1) := by decide +kernel
theorem dX1_profileOf_43 : decode cX1_profileOf 43 = .ok (.iinc 3 1, 3) := by decide +kernel
theorem dX1_profileOf_46 : decode cX1_profileOf 46 = .ok (.goto (-44), 3) := by decide +kernel
theorem dX1_profileOf_49 : decode cX1_profileOf 49 = .ok (.aload_n 0, 1) := by decide +kernel
theorem dX1_profileOf_50 : decode cX1_profileOf 50 = .ok (.getfield 24, 3) := by decide +kernel
theorem dX1_profileOf_53 : decode cX1_profileOf 53 = .ok (.iload_n 1, 1) := by decide +kernel
theorem dX1_profileOf_54 : decode cX1_profileOf 54 = .ok (.iaload, 1) := by decide +kernel
theorem dX1_profileOf_55 : decode cX1_profileOf 55 = .ok (.ireturn, 1) := by decide +kernel
theorem dX1_childProfile_0 : decode cX1_childProfile 0 = .ok (.iload_n 1, 1) := by decide +kernel
theorem dX1_childProfile_1 : decode cX1_childProfile 1 = .ok (.iconst (-1), 1) := by decide +kernel
theorem dX1_childProfile_2 : decode cX1_childProfile 2 = .ok (.if_icmp .ne 8, 3) := by decide +kernel
theorem dX1_childProfile_5 : decode cX1_childProfile 5 = .ok (.bipush 17, 2) := by decide +kernel
theorem dX1_childProfile_7 : decode cX1_childProfile 7 = .ok (.goto 9, 3) := by decide +kernel
theorem dX1_childProfile_10 : decode cX1_childProfile 10 = .ok (.aload_n 0, 1) := by decide +kernel
theorem dX1_childProfile_11 : decode cX1_childProfile 11 = .ok (.getfield 24, 3) := by decide +kernel
theorem dX1_childProfile_14 : decode cX1_childProfile 14 = .ok (.iload_n 1, 1) := by decide +kernel
theorem dX1_childProfile_15 : decode cX1_childProfile 15 = .ok (.iaload, 1) := by decide +kernel
theorem dX1_childProfile_16 : decode cX1_childProfile 16 = .ok (.ireturn, 1) := by decide +kernel
set_option maxRecDepth 20000 in
theorem ggX1_plant_X5_hasLeft : GoodIn wsX1_plant wsX5_hasLeft := goodIn_r _ [4] (by decide +kernel) (by decide +kernel)
set_option maxRecDepth 20000 in
theorem gX1_plant_X5_hasLeft_n34 : GoodIn wsX1_plant (wsX5_hasLeft) := ggX1_plant_X5_hasLeft
set_option maxRecDepth 20000 in
theorem ggX1_plant_X5_hasRight : GoodIn wsX1_plant wsX5_hasRight := goodIn_r _ [6] (by decide +kernel) (by decide +kernel)
set_option maxRecDepth 20000 in
theorem gX1_plant_X5_hasRight_n38 : GoodIn wsX1_plant (wsX5_hasRight) := ggX1_plant_X5_hasRight
set_option maxRecDepth 20000 in
theorem ggX1_plant_X1_add : GoodIn wsX1_plant wsX1_add := goodIn_r _ [11, 12, 13, 14, 15, 16, 17, 18, 19, 20, 2, 3, 4, 5, 6, 21, 22, 23, 10, 24, 25, 26, 27, 28, 29, 30, 31] (by decide +kernel) (by decide +kernel)
set_option maxRecDepth 20000 in
theorem gX1_plant_X1_add : GoodIn wsX1_plant (wsV RX1 60 RX1 yX1_add wsX1_add) := goodIn_app (goodIn_of _ (by decide +kernel)) ggX1_plant_X1_add
theorem dX1_plant_0 : decode cX1_plant 0 = .ok (.iconst 0, 1) := by decide +kernel
theorem dX1_plant_1 : decode cX1_plant 1 = .ok (.istore_n 3, 1) := by decide +kernel
theorem dX1_plant_2 : decode cX1_plant 2 = .ok (.iconst (-1), 1) := by decide +kernel
theorem dX1_plant_3 : decode cX1_plant 3 = .ok (.istore 4, 2) := by decide +kernel
theorem dX1_plant_5 : decode cX1_plant 5 = .ok (.iload_n 2, 1) := by decide +kernel
theorem dX1_plant_6 : decode cX1_plant 6 = .ok (.iconst 1, 1) := by decide +kernel
theorem dX1_plant_7 : decode cX1_plant 7 = .ok (.isub, 1) := by decide +kernel
theorem dX1_plant_8 : decode cX1_plant 8 = .ok (.istore 5, 2) := by decide +kernel
theorem dX1_plant_10 : decode cX1_plant 10 = .ok (.iload 5, 2) := by decide +kernel
theorem dX1_plant_12 : decode cX1_plant 12 = .ok (.ifCond .lt 90, 3) := by decide +kernel
theorem dX1_plant_15 : decode cX1_plant 15 = .ok (.iconst (-1), 1) := by decide +kernel
theorem dX1_plant_16 : decode cX1_plant 16 = .ok (.istore 6, 2) := by decide +kernel
theorem dX1_plant_18 : decode cX1_plant 18 = .ok (.iconst (-1), 1) := by decide +kernel
theorem dX1_plant_19 : decode cX1_plant 19 = .ok (.istore 7, 2) := by decide +kernel
theorem dX1_plant_21 : decode cX1_plant 21 = .ok (.aload_n 1, 1) := by decide +kernel
theorem dX1_plant_22 : decode cX1_plant 22 = .ok (.iload 5, 2) := by decide +kernel
theorem dX1_plant_24 : decode cX1_plant 24 = .ok (.iaload, 1) := by decide +kernel
theorem dX1_plant_25 : decode cX1_plant 25 = .ok (.invokestatic 34, 3) := by decide +kernel
theorem dX1_plant_28 : decode cX1_plant 28 = .ok (.ifCond .eq 18, 3) := by decide +kernel
theorem dX1_plant_31 : decode cX1_plant 31 = .ok (.iload_n 3, 1) := by decide +kernel
theorem dX1_plant_32 : decode cX1_plant 32 = .ok (.ifCond .le 14, 3) := by decide +kernel
theorem dX1_plant_35 : decode cX1_plant 35 = .ok (.iinc 3 (-1), 3) := by decide +kernel
theorem dX1_plant_38 : decode cX1_plant 38 = .ok (.aload_n 0, 1) := by decide +kernel
theorem dX1_plant_39 : decode cX1_plant 39 = .ok (.getfield 27, 3) := by decide +kernel
theorem dX1_plant_42 : decode cX1_plant 42 = .ok (.iload_n 3, 1) := by decide +kernel
theorem dX1_plant_43 : decode cX1_plant 43 = .ok (.iaload, 1) := by decide +kernel
theorem dX1_plant_44 : decode cX1_plant 44 = .ok (.istore 6, 2) := by decide +kernel
theorem dX1_plant_46 : decode cX1_plant 46 = .ok (.aload_n 1, 1) := by decide +kernel
theorem dX1_plant_47 : decode cX1_plant 47 = .ok (.iload 5, 2) := by decide +kernel
theorem dX1_plant_49 : decode cX1_plant 49 = .ok (.iaload, 1) := by decide +kernel
theorem dX1_plant_50 : decode cX1_plant 50 = .ok (.invokestatic 38, 3) := by decide +kernel
theorem dX1_plant_53 : decode cX1_plant 53 = .ok (.ifCond .eq 18, 3) := by decide +kernel
theorem dX1_plant_56 : decode cX1_plant 56 = .ok (.iload_n 3, 1) := by decide +kernel
theorem dX1_plant_57 : decode cX1_plant 57 = .ok (.ifCond .le 14, 3) := by decide +kernel
theorem dX1_plant_60 : decode cX1_plant 60 = .ok (.iinc 3 (-1), 3) := by decide +kernel
theorem dX1_plant_63 : decode cX1_plant 63 = .ok (.aload_n 0, 1) := by decide +kernel
theorem dX1_plant_64 : decode cX1_plant 64 = .ok (.getfield 27, 3) := by decide +kernel
theorem dX1_plant_67 : decode cX1_plant 67 = .ok (.iload_n 3, 1) := by decide +kernel
theorem dX1_plant_68 : decode cX1_plant 68 = .ok (.iaload, 1) := by decide +kernel
theorem dX1_plant_69 : decode cX1_plant 69 = .ok (.istore 7, 2) := by decide +kernel
theorem dX1_plant_71 : decode cX1_plant 71 = .ok (.aload_n 0, 1) := by decide +kernel
theorem dX1_plant_72 : decode cX1_plant 72 = .ok (.aload_n 1, 1) := by decide +kernel
theorem dX1_plant_73 : decode cX1_plant 73 = .ok (.iload 5, 2) := by decide +kernel
theorem dX1_plant_75 : decode cX1_plant 75 = .ok (.iaload, 1) := by decide +kernel
theorem dX1_plant_76 : decode cX1_plant 76 = .ok (.iload 6, 2) := by decide +kernel
theorem dX1_plant_78 : decode cX1_plant 78 = .ok (.iload 7, 2) := by decide +kernel
theorem dX1_plant_80 : decode cX1_plant 80 = .ok (.invokevirtual 60, 3) := by decide +kernel
theorem dX1_plant_83 : decode cX1_plant 83 = .ok (.istore 4, 2) := by decide +kernel
theorem dX1_plant_85 : decode cX1_plant 85 = .ok (.aload_n 0, 1) := by decide +kernel
theorem dX1_plant_86 : decode cX1_plant 86 = .ok (.getfield 27, 3) := by decide +kernel
theorem dX1_plant_89 : decode cX1_plant 89 = .ok (.iload_n 3, 1) := by decide +kernel
theorem dX1_plant_90 : decode cX1_plant 90 = .ok (.iload 4, 2) := by decide +kernel
theorem dX1_plant_92 : decode cX1_plant 92 = .ok (.iastore, 1) := by decide +kernel
theorem dX1_plant_93 : decode cX1_plant 93 = .ok (.iinc 3 1, 3) := by decide +kernel
theorem dX1_plant_96 : decode cX1_plant 96 = .ok (.iinc 5 (-1), 3) := by decide +kernel
theorem dX1_plant_99 : decode cX1_plant 99 = .ok (.goto (-89), 3) := by decide +kernel
theorem dX1_plant_102 : decode cX1_plant 102 = .ok (.iload 4, 2) := by decide +kernel
theorem dX1_plant_104 : decode cX1_plant 104 = .ok (.ireturn, 1) := by decide +kernel
theorem dX2_init_0 : decode cX2_init 0 = .ok (.aload_n 0, 1) := by decide +kernel
theorem dX2_init_1 : decode cX2_init 1 = .ok (.invokespecial 3, 3) := by decide +kernel
theorem dX2_init_4 : decode cX2_init 4 = .ok (.aload_n 0, 1) := by decide +kernel
theorem dX2_init_5 : decode cX2_init 5 = .ok (.sipush 256, 3) := by decide +kernel
theorem dX2_init_8 : decode cX2_init 8 = .ok (.newarray .int, 2) := by decide +kernel
theorem dX2_init_10 : decode cX2_init 10 = .ok (.putfield 9, 3) := by decide +kernel
theorem dX2_init_13 : decode cX2_init 13 = .ok (.aload_n 0, 1) := by decide +kernel
theorem dX2_init_14 : decode cX2_init 14 = .ok (.sipush 256, 3) := by decide +kernel
theorem dX2_init_17 : decode cX2_init 17 = .ok (.newarray .int, 2) := by decide +kernel
theorem dX2_init_19 : decode cX2_init 19 = .ok (.putfield 15, 3) := by decide +kernel
theorem dX2_init_22 : decode cX2_init 22 = .ok (.aload_n 0, 1) := by decide +kernel
theorem dX2_init_23 : decode cX2_init 23 = .ok (.sipush 256, 3) := by decide +kernel
theorem dX2_init_26 : decode cX2_init 26 = .ok (.newarray .int, 2) := by decide +kernel
theorem dX2_init_28 : decode cX2_init 28 = .ok (.putfield 18, 3) := by decide +kernel
theorem dX2_init_31 : decode cX2_init 31 = .ok (.aload_n 0, 1) := by decide +kernel
theorem dX2_init_32 : decode cX2_init 32 = .ok (.sipush 256, 3) := by decide +kernel
theorem dX2_init_35 : decode cX2_init 35 = .ok (.newarray .int, 2) := by decide +kernel
theorem dX2_init_37 : decode cX2_init 37 = .ok (.putfield 21, 3) := by decide +kernel
theorem dX2_init_40 : decode cX2_init 40 = .ok (.aload_n 0, 1) := by decide +kernel
theorem dX2_init_41 : decode cX2_init 41 = .ok (.sipush 256, 3) := by decide +kernel
theorem dX2_init_44 : decode cX2_init 44 = .ok (.newarray .int, 2) := by decide +kernel
theorem dX2_init_46 : decode cX2_init 46 = .ok (.putfield 24, 3) := by decide +kernel
theorem dX2_init_49 : decode cX2_init 49 = .ok (.aload_n 0, 1) := by decide +kernel
theorem dX2_init_50 : decode cX2_init 50 = .ok (.bipush 34, 2) := by decide +kernel
theorem dX2_init_52 : decode cX2_init 52 = .ok (.newarray .int, 2) := by decide +kernel
theorem dX2_init_54 : decode cX2_init 54 = .ok (.putfield 27, 3) := by decide +kernel
theorem dX2_init_57 : decode cX2_init 57 = .ok (.aload_n 0, 1) := by decide +kernel
theorem dX2_init_58 : decode cX2_init 58 = .ok (.sipush 256, 3) := by decide +kernel
theorem dX2_init_61 : decode cX2_init 61 = .ok (.newarray .int, 2) := by decide +kernel
theorem dX2_init_63 : decode cX2_init 63 = .ok (.putfield 30, 3) := by decide +kernel
theorem dX2_init_66 : decode cX2_init 66 = .ok (.aload_n 0, 1) := by decide +kernel
theorem dX2_init_67 : decode cX2_init 67 = .ok (.sipush 256, 3) := by decide +kernel
theorem dX2_init_70 : decode cX2_init 70 = .ok (.newarray .int, 2) := by decide +kernel
theorem dX2_init_72 : decode cX2_init 72 = .ok (.putfield 33, 3) := by decide +kernel
theorem dX2_init_75 : decode cX2_init 75 = .ok (.aload_n 0, 1) := by decide +kernel
theorem dX2_init_76 : decode cX2_init 76 = .ok (.bipush 32, 2) := by decide +kernel
theorem dX2_init_78 : decode cX2_init 78 = .ok (.newarray .int, 2) := by decide +kernel
theorem dX2_init_80 : decode cX2_init 80 = .ok (.putfield 36, 3) := by decide +kernel
theorem dX2_init_83 : decode cX2_init 83 = .ok (.aload_n 0, 1) := by decide +kernel
theorem dX2_init_84 : decode cX2_init 84 = .ok (.bipush 32, 2) := by decide +kernel
theorem dX2_init_86 : decode cX2_init 86 = .ok (.newarray .int, 2) := by decide +kernel
theorem dX2_init_88 : decode cX2_init 88 = .ok (.putfield 39, 3) := by decide +kernel
theorem dX2_init_91 : decode cX2_init 91 = .ok (.aload_n 0, 1) := by decide +kernel
theorem dX2_init_92 : decode cX2_init 92 = .ok (.iconst 0, 1) := by decide +kernel
theorem dX2_init_93 : decode cX2_init 93 = .ok (.putfield 42, 3) := by decide +kernel
theorem dX2_init_96 : decode cX2_init 96 = .ok (.aload_n 0, 1) := by decide +kernel
theorem dX2_init_97 : decode cX2_init 97 = .ok (.iconst 0, 1) := by decide +kernel
theorem dX2_init_98 : decode cX2_init 98 = .ok (.putfield 46, 3) := by decide +kernel
theorem dX2_init_101 : decode cX2_init 101 = .ok (.aload_n 0, 1) := by decide +kernel
theorem dX2_init_102 : decode cX2_init 102 = .ok (.aload_n 1, 1) := by decide +kernel
theorem dX2_init_103 : decode cX2_init 103 = .ok (.putfield 50, 3) := by decide +kernel
theorem dX2_init_106 : decode cX2_init 106 = .ok (.return_, 1) := by decide +kernel
theorem dX2_forget_0 : decode cX2_forget 0 = .ok (.aload_n 0, 1) := by decide +kernel
theorem dX2_forget_1 : decode cX2_forget 1 = .ok (.iconst 0, 1) := by decide +kernel
theorem dX2_forget_2 : decode cX2_forget 2 = .ok (.putfield 46, 3) := by decide +kernel
theorem dX2_forget_5 : decode cX2_forget 5 = .ok (.return_, 1) := by decide +kernel
theorem dX2_foundCount_0 : decode cX2_foundCount 0 = .ok (.aload_n 0, 1) := by decide +kernel
theorem dX2_foundCount_1 : decode cX2_foundCount 1 = .ok (.getfield 42, 3) := by decide +kernel
theorem dX2_foundCount_4 : decode cX2_foundCount 4 = .ok (.ireturn, 1) := by decide +kernel
theorem dX2_foundAt_0 : decode cX2_foundAt 0 = .ok (.aload_n 0, 1) := by decide +kernel
theorem dX2_foundAt_1 : decode cX2_foundAt 1 = .ok (.getfield 24, 3) := by decide +kernel
theorem dX2_foundAt_4 : decode cX2_foundAt 4 = .ok (.iload_n 1, 1) := by decide +kernel
theorem dX2_foundAt_5 : decode cX2_foundAt 5 = .ok (.iaload, 1) := by decide +kernel
theorem dX2_foundAt_6 : decode cX2_foundAt 6 = .ok (.ireturn, 1) := by decide +kernel
theorem dX2_sizeOf_0 : decode cX2_sizeOf 0 = .ok (.aload_n 0, 1) := by decide +kernel
theorem dX2_sizeOf_1 : decode cX2_sizeOf 1 = .ok (.getfield 9, 3) := by decide +kernel
theorem dX2_sizeOf_4 : decode cX2_sizeOf 4 = .ok (.iload_n 1, 1) := by decide +kernel
theorem dX2_sizeOf_5 : decode cX2_sizeOf 5 = .ok (.iaload, 1) := by decide +kernel
theorem dX2_sizeOf_6 : decode cX2_sizeOf 6 = .ok (.ireturn, 1) := by decide +kernel
set_option maxRecDepth 20000 in
theorem ggX2_firstOf_X2_learn : GoodIn wsX2_firstOf wsX2_learn := goodIn_r _ [8, 9, 10, 1, 11, 12, 13, 14, 15, 16, 17, 7, 18, 19, 20, 21, 22, 23, 24, 25, 26, 27, 28, 29, 30, 3, 31, 32, 33, 34, 2, 35, 36, 37, 38, 39, 40, 41, 42, 43, 44, 45, 46, 47, 48, 49, 50, 51, 52, 53, 54, 55, 56, 57, 58, 59, 60, 61, 62, 63, 64, 83, 84, 85, 86, 87, 88, 89, 90, 91, 92, 93, 94, 95, 96, 97, 98, 99, 100] (by decide +kernel) (by decide +kernel)
set_option maxRecDepth 20000 in
theorem gX2_firstOf_X2_learn : GoodIn wsX2_firstOf (wsV RX2 54 RX2 yX2_learn wsX2_learn) := goodIn_app (goodIn_of _ (by decide +kernel)) ggX2_firstOf_X2_learn
set_option maxRecDepth 20000 in
theorem ggX2_firstOf_X4_isOfSort : GoodIn wsX2_firstOf wsX4_isOfSort := goodIn_r _ [68, 69, 70, 71, 41, 72, 43, 45, 73, 24, 74, 75, 76, 77, 78, 79, 80, 81, 82, 96, 97, 98, 99, 100] (by decide +kernel) (by decide +kernel)
set_option maxRecDepth 20000 in
theorem gX2_firstOf_X4_isOfSort : GoodIn wsX2_firstOf (wsV RX2 57 RX4 yX4_isOfSort wsX4_isOfSort) := goodIn_app (goodIn_of _ (by decide +kernel)) ggX2_firstOf_X4_isOfSort
theorem dX2_firstOf_0 : decode cX2_firstOf 0 = .ok (.aload_n 0, 1) := by decide +kernel
theorem dX2_firstOf_1 : decode cX2_firstOf 1 = .ok (.invokevirtual 54, 3) := by decide +kernel
theorem dX2_firstOf_4 : decode cX2_firstOf 4 = .ok (.iconst 0, 1) := by decide +kernel
theorem dX2_firstOf_5 : decode cX2_firstOf 5 = .ok (.istore_n 2, 1) := by decide +kernel
theorem dX2_firstOf_6 : decode cX2_firstOf 6 = .ok (.iload_n 2, 1) := by decide +kernel
theorem dX2_firstOf_7 : decode cX2_firstOf 7 = .ok (.aload_n 0, 1) := by decide +kernel
theorem dX2_firstOf_8 : decode cX2_firstOf 8 = .ok (.getfield 42, 3) := by decide +kernel
theorem dX2_firstOf_11 : decode cX2_firstOf 11 = .ok (.if_icmp .ge 33, 3) := by decide +kernel
theorem dX2_firstOf_14 : decode cX2_firstOf 14 = .ok (.aload_n 0, 1) := by decide +kernel
theorem dX2_firstOf_15 : decode cX2_firstOf 15 = .ok (.getfield 50, 3) := by decide +kernel
theorem dX2_firstOf_18 : decode cX2_firstOf 18 = .ok (.aload_n 0, 1) := by decide +kernel
theorem dX2_firstOf_19 : decode cX2_firstOf 19 = .ok (.getfield 24, 3) := by decide +kernel
theorem dX2_firstOf_22 : decode cX2_firstOf 22 = .ok (.iload_n 2, 1) := by decide +kernel
theorem dX2_firstOf_23 : decode cX2_firstOf 23 = .ok (.iaload, 1) := by decide +kernel
theorem dX2_firstOf_24 : decode cX2_firstOf 24 = .ok (.iload_n 1, 1) := by decide +kernel
theorem dX2_firstOf_25 : decode cX2_firstOf 25 = .ok (.invokevirtual 57, 3) := by decide +kernel
theorem dX2_firstOf_28 : decode cX2_firstOf 28 = .ok (.ifCond .eq 10, 3) := by decide +kernel
theorem dX2_firstOf_31 : decode cX2_firstOf 31 = .ok (.aload_n 0, 1) := by decide +kernel
theorem dX2_firstOf_32 : decode cX2_firstOf 32 = .ok (.getfield 24, 3) := by decide +kernel
theorem dX2_firstOf_35 : decode cX2_firstOf 35 = .ok (.iload_n 2, 1) := by decide +kernel
theorem dX2_firstOf_36 : decode cX2_firstOf 36 = .ok (.iaload, 1) := by decide +kernel
theorem dX2_firstOf_37 : decode cX2_firstOf 37 = .ok (.ireturn, 1) := by decide +kernel
theorem dX2_firstOf_38 : decode cX2_firstOf 38 = .ok (.iinc 2 1, 3) := by decide +kernel
theorem dX2_firstOf_41 : decode cX2_firstOf 41 = .ok (.goto (-35), 3) := by decide +kernel
theorem dX2_firstOf_44 : decode cX2_firstOf 44 = .ok (.iconst (-1), 1) := by decide +kernel
theorem dX2_firstOf_45 : decode cX2_firstOf 45 = .ok (.ireturn, 1) := by decide +kernel
set_option maxRecDepth 20000 in
theorem ggX2_writingOf_X5_hasRight : GoodIn wsX2_writingOf wsX5_hasRight := goodIn_r _ [8] (by decide +kernel) (by decide +kernel)
set_option maxRecDepth 20000 in
theorem gX2_writingOf_X5_hasRight_n63 : GoodIn wsX2_writingOf (wsX5_hasRight) := ggX2_writingOf_X5_hasRight
set_option maxRecDepth 20000 in
theorem ggX2_writingOf_X5_hasLeft : GoodIn wsX2_writingOf wsX5_hasLeft := goodIn_r _ [10] (by decide +kernel) (by decide +kernel)
set_option maxRecDepth 20000 in
theorem gX2_writingOf_X5_hasLeft_n67 : GoodIn wsX2_writingOf (wsX5_hasLeft) := ggX2_writingOf_X5_hasLeft
theorem dX2_writingOf_0 : decode cX2_writingOf 0 = .ok (.iconst 1, 1) := by decide +kernel
theorem dX2_writingOf_1 : decode cX2_writingOf 1 = .ok (.istore_n 2, 1) := by decide +kernel
theorem dX2_writingOf_2 : decode cX2_writingOf 2 = .ok (.aload_n 0, 1) := by decide +kernel
theorem dX2_writingOf_3 : decode cX2_writingOf 3 = .ok (.getfield 39, 3) := by decide +kernel
theorem dX2_writingOf_6 : decode cX2_writingOf 6 = .ok (.iconst 0, 1) := by decide +kernel
theorem dX2_writingOf_7 : decode cX2_writingOf 7 = .ok (.iload_n 1, 1) := by decide +kernel
theorem dX2_writingOf_8 : decode cX2_writingOf 8 = .ok (.iastore, 1) := by decide +kernel
theorem dX2_writingOf_9 : decode cX2_writingOf 9 = .ok (.iconst 0, 1) := by decide +kernel
theorem dX2_writingOf_10 : decode cX2_writingOf 10 = .ok (.istore_n 3, 1) := by decide +kernel
theorem dX2_writingOf_11 : decode cX2_writingOf 11 = .ok (.iload_n 3, 1) := by decide +kernel
theorem dX2_writingOf_12 : decode cX2_writingOf 12 = .ok (.bipush 32, 2) := by decide +kernel
theorem dX2_writingOf_14 : decode cX2_writingOf 14 = .ok (.if_icmp .ge 107, 3) := by decide +kernel
theorem dX2_writingOf_17 : decode cX2_writingOf 17 = .ok (.iload_n 2, 1) := by decide +kernel
theorem dX2_writingOf_18 : decode cX2_writingOf 18 = .ok (.ifCond .le 103, 3) := by decide +kernel
theorem dX2_writingOf_21 : decode cX2_writingOf 21 = .ok (.iinc 2 (-1), 3) := by decide +kernel
theorem dX2_writingOf_24 : decode cX2_writingOf 24 = .ok (.aload_n 0, 1) := by decide +kernel
theorem dX2_writingOf_25 : decode cX2_writingOf 25 = .ok (.getfield 39, 3) := by decide +kernel
theorem dX2_writingOf_28 : decode cX2_writingOf 28 = .ok (.iload_n 2, 1) := by decide +kernel
theorem dX2_writingOf_29 : decode cX2_writingOf 29 = .ok (.iaload, 1) := by decide +kernel
theorem dX2_writingOf_30 : decode cX2_writingOf 30 = .ok (.istore 4, 2) := by decide +kernel
theorem dX2_writingOf_32 : decode cX2_writingOf 32 = .ok (.aload_n 0, 1) := by decide +kernel
theorem dX2_writingOf_33 : decode cX2_writingOf 33 = .ok (.getfield 36, 3) := by decide +kernel
theorem dX2_writingOf_36 : decode cX2_writingOf 36 = .ok (.iload_n 3, 1) := by decide +kernel
theorem dX2_writingOf_37 : decode cX2_writingOf 37 = .ok (.aload_n 0, 1) := by decide +kernel
theorem dX2_writingOf_38 : decode cX2_writingOf 38 = .ok (.getfield 15, 3) := by decide +kernel
theorem dX2_writingOf_41 : decode cX2_writingOf 41 = .ok (.iload 4, 2) := by decide +kernel
theorem dX2_writingOf_43 : decode cX2_writingOf 43 = .ok (.iaload, 1) := by decide +kernel
theorem dX2_writingOf_44 : decode cX2_writingOf 44 = .ok (.iastore, 1) := by decide +kernel
theorem dX2_writingOf_45 : decode cX2_writingOf 45 = .ok (.aload_n 0, 1) := by decide +kernel
theorem dX2_writingOf_46 : decode cX2_writingOf 46 = .ok (.getfield 15, 3) := by decide +kernel
theorem dX2_writingOf_49 : decode cX2_writingOf 49 = .ok (.iload 4, 2) := by decide +kernel
theorem dX2_writingOf_51 : decode cX2_writingOf 51 = .ok (.iaload, 1) := by decide +kernel
theorem dX2_writingOf_52 : decode cX2_writingOf 52 = .ok (.invokestatic 63, 3) := by decide +kernel
theorem dX2_writingOf_55 : decode cX2_writingOf 55 = .ok (.ifCond .eq 25, 3) := by decide +kernel
theorem dX2_writingOf_58 : decode cX2_writingOf 58 = .ok (.iload_n 2, 1) := by decide +kernel
theorem dX2_writingOf_59 : decode cX2_writingOf 59 = .ok (.bipush 32, 2) := by decide +kernel
theorem dX2_writingOf_61 : decode cX2_writingOf 61 = .ok (.if_icmp .ge 19, 3) := by decide +kernel
theorem dX2_writingOf_64 : decode cX2_writingOf 64 = .ok (.aload_n 0, 1) := by decide +kernel
theorem dX2_writingOf_65 : decode cX2_writingOf 65 = .ok (.getfield 39, 3) := by decide +kernel
theorem dX2_writingOf_68 : decode cX2_writingOf 68 = .ok (.iload_n 2, 1) := by decide +kernel
theorem dX2_writingOf_69 : decode cX2_writingOf 69 = .ok (.aload_n 0, 1) := by decide +kernel
theorem dX2_writingOf_70 : decode cX2_writingOf 70 = .ok (.getfield 21, 3) := by decide +kernel
theorem dX2_writingOf_73 : decode cX2_writingOf 73 = .ok (.iload 4, 2) := by decide +kernel
theorem dX2_writingOf_75 : decode cX2_writingOf 75 = .ok (.iaload, 1) := by decide +kernel
theorem dX2_writingOf_76 : decode cX2_writingOf 76 = .ok (.iastore, 1) := by decide +kernel
theorem dX2_writingOf_77 : decode cX2_writingOf 77 = .ok (.iinc 2 1, 3) := by decide +kernel
theorem dX2_writingOf_80 : decode cX2_writingOf 80 = .ok (.aload_n 0, 1) := by decide +kernel
theorem dX2_writingOf_81 : decode cX2_writingOf 81 = .ok (.getfield 15, 3) := by decide +kernel
theorem dX2_writingOf_84 : decode cX2_writingOf 84 = .ok (.iload 4, 2) := by decide +kernel
theorem dX2_writingOf_86 : decode cX2_writingOf 86 = .ok (.iaload, 1) := by decide +kernel
theorem dX2_writingOf_87 : decode cX2_writingOf 87 = .ok (.invokestatic 67, 3) := by decide +kernel
theorem dX2_writingOf_90 : decode cX2_writingOf 90 = .ok (.ifCond .eq 25, 3) := by decide +kernel
theorem dX2_writingOf_93 : decode cX2_writingOf 93 = .ok (.iload_n 2, 1) := by decide +kernel
theorem dX2_writingOf_94 : decode cX2_writingOf 94 = .ok (.bipush 32, 2) := by decide +kernel
theorem dX2_writingOf_96 : decode cX2_writingOf 96 = .ok (.if_icmp .ge 19, 3) := by decide +kernel
theorem dX2_writingOf_99 : decode cX2_writingOf 99 = .ok (.aload_n 0, 1) := by decide +kernel
theorem dX2_writingOf_100 : decode cX2_writingOf 100 = .ok (.getfield 39, 3) := by decide +kernel
theorem dX2_writingOf_103 : decode cX2_writingOf 103 = .ok (.iload_n 2, 1) := by decide +kernel
theorem dX2_writingOf_104 : decode cX2_writingOf 104 = .ok (.aload_n 0, 1) := by decide +kernel
theorem dX2_writingOf_105 : decode cX2_writingOf 105 = .ok (.getfield 18, 3) := by decide +kernel
theorem dX2_writingOf_108 : decode cX2_writingOf 108 = .ok (.iload 4, 2) := by decide +kernel
theorem dX2_writingOf_110 : decode cX2_writingOf 110 = .ok (.iaload, 1) := by decide +kernel
theorem dX2_writingOf_111 : decode cX2_writingOf 111 = .ok (.iastore, 1) := by decide +kernel
theorem dX2_writingOf_112 : decode cX2_writingOf 112 = .ok (.iinc 2 1, 3) := by decide +kernel
theorem dX2_writingOf_115 : decode cX2_writingOf 115 = .ok (.iinc 3 1, 3) := by decide +kernel
theorem dX2_writingOf_118 : decode cX2_writingOf 118 = .ok (.goto (-107), 3) := by decide +kernel
theorem dX2_writingOf_121 : decode cX2_writingOf 121 = .ok (.aload_n 0, 1) := by decide +kernel
theorem dX2_writingOf_122 : decode cX2_writingOf 122 = .ok (.getfield 36, 3) := by decide +kernel
theorem dX2_writingOf_125 : decode cX2_writingOf 125 = .ok (.areturn, 1) := by decide +kernel
set_option maxRecDepth 20000 in
theorem ggX2_learn_J7_fill_53178 : GoodIn wsX2_learn wsJ7_fill_53178 := goodIn_r _ [8] (by decide +kernel) (by decide +kernel)
set_option maxRecDepth 20000 in
theorem gX2_learn_J7_fill_53178 : GoodIn wsX2_learn (va_wsS RX2 70 yJ7_fill_53178 wsJ7_fill_53178) := goodIn_app (goodIn_of _ (by decide +kernel)) ggX2_learn_J7_fill_53178
set_option maxRecDepth 20000 in
theorem ggX2_learn_X2_canHaveSize : GoodIn wsX2_learn wsX2_canHaveSize := goodIn_r _ [12] (by decide +kernel) (by decide +kernel)
set_option maxRecDepth 20000 in
theorem gX2_learn_X2_canHaveSize : GoodIn wsX2_learn (va_wsS RX2 76 yX2_canHaveSize wsX2_canHaveSize) := goodIn_app (goodIn_of _ (by decide +kernel)) ggX2_learn_X2_canHaveSize
set_option maxRecDepth 20000 in
theorem ggX2_learn_X2_findOfSize : GoodIn wsX2_learn wsX2_findOfSize := goodIn_r _ [16, 17, 18, 19, 20, 21, 22, 11, 23, 4, 24, 2, 25, 26, 27, 28, 29, 30, 3, 31, 32, 33, 34, 35, 36, 37, 38, 39, 40, 41, 42, 43, 44, 45, 46, 47, 61, 62, 63, 64, 65, 66, 67, 68, 69, 70, 71, 72, 73, 74, 75, 76, 77, 78] (by decide +kernel) (by decide +kernel)
set_option maxRecDepth 20000 in
theorem gX2_learn_X2_findOfSize : GoodIn wsX2_learn (wsV RX2 79 RX2 yX2_findOfSize wsX2_findOfSize) := goodIn_app (goodIn_of _ (by decide +kernel)) ggX2_learn_X2_findOfSize
set_option maxRecDepth 20000 in
theorem ggX2_learn_X2_sortIn : GoodIn wsX2_learn wsX2_sortIn := goodIn_r _ [51, 3, 25, 24, 52, 53, 54, 55, 11, 56, 31, 32, 33, 61, 62, 63, 64, 65, 66, 67, 68, 69, 70, 71, 72, 73] (by decide +kernel) (by decide +kernel)
set_option maxRecDepth 20000 in
theorem gX2_learn_X2_sortIn : GoodIn wsX2_learn (wsV RX2 83 RX2 yX2_sortIn wsX2_sortIn) := goodIn_app (goodIn_of _ (by decide +kernel)) ggX2_learn_X2_sortIn
set_option maxRecDepth 20000 in
theorem ggX2_learn_X2_findLarger : GoodIn wsX2_learn wsX2_findLarger := goodIn_r _ [60, 3, 25, 26, 27, 28, 11, 29, 30, 2, 31, 32, 33, 34, 35, 36, 37, 38, 39, 40, 41, 61, 62, 63, 64, 65, 66, 67, 68, 69, 70, 71, 72, 73, 74, 75, 76, 77, 78] (by decide +kernel) (by decide +kernel)
set_option maxRecDepth 20000 in
theorem gX2_learn_X2_findLarger : GoodIn wsX2_learn (wsV RX2 86 RX2 yX2_findLarger wsX2_findLarger) := goodIn_app (goodIn_of _ (by decide +kernel)) ggX2_learn_X2_findLarger
theorem dX2_learn_0 : decode cX2_learn 0 = .ok (.aload_n 0, 1) := by decide +kernel
theorem dX2_learn_1 : decode cX2_learn 1 = .ok (.getfield 46, 3) := by decide +kernel
theorem dX2_learn_4 : decode cX2_learn 4 = .ok (.ifCond .eq 4, 3) := by decide +kernel
theorem dX2_learn_7 : decode cX2_learn 7 = .ok (.return_, 1) := by decide +kernel
theorem dX2_learn_8 : decode cX2_learn 8 = .ok (.aload_n 0, 1) := by decide +kernel
theorem dX2_learn_9 : decode cX2_learn 9 = .ok (.getfield 9, 3) := by decide +kernel
theorem dX2_learn_12 : decode cX2_learn 12 = .ok (.iconst 0, 1) := by decide +kernel
theorem dX2_learn_13 : decode cX2_learn 13 = .ok (.invokestatic 70, 3) := by decide +kernel
theorem dX2_learn_16 : decode cX2_learn 16 = .ok (.aload_n 0, 1) := by decide +kernel
theorem dX2_learn_17 : decode cX2_learn 17 = .ok (.iconst 0, 1) := by decide +kernel
theorem dX2_learn_18 : decode cX2_learn 18 = .ok (.putfield 42, 3) := by decide +kernel
theorem dX2_learn_21 : decode cX2_learn 21 = .ok (.iconst 0, 1) := by decide +kernel
theorem dX2_learn_22 : decode cX2_learn 22 = .ok (.istore_n 1, 1) := by decide +kernel
theorem dX2_learn_23 : decode cX2_learn 23 = .ok (.iconst 1, 1) := by decide +kernel
theorem dX2_learn_24 : decode cX2_learn 24 = .ok (.istore_n 2, 1) := by decide +kernel
theorem dX2_learn_25 : decode cX2_learn 25 = .ok (.iload_n 2, 1) := by decide +kernel
theorem dX2_learn_26 : decode cX2_learn 26 = .ok (.bipush 32, 2) := by decide +kernel
theorem dX2_learn_28 : decode cX2_learn 28 = .ok (.if_icmp .gt 69, 3) := by decide +kernel
theorem dX2_learn_31 : decode cX2_learn 31 = .ok (.iload_n 2, 1) := by decide +kernel
theorem dX2_learn_32 : decode cX2_learn 32 = .ok (.iload_n 1, 1) := by decide +kernel
theorem dX2_learn_33 : decode cX2_learn 33 = .ok (.invokestatic 76, 3) := by decide +kernel
theorem dX2_learn_36 : decode cX2_learn 36 = .ok (.ifCond .eq 61, 3) := by decide +kernel
theorem dX2_learn_39 : decode cX2_learn 39 = .ok (.aload_n 0, 1) := by decide +kernel
theorem dX2_learn_40 : decode cX2_learn 40 = .ok (.getfield 27, 3) := by decide +kernel
theorem dX2_learn_43 : decode cX2_learn 43 = .ok (.iload_n 2, 1) := by decide +kernel
theorem dX2_learn_44 : decode cX2_learn 44 = .ok (.aload_n 0, 1) := by decide +kernel
theorem dX2_learn_45 : decode cX2_learn 45 = .ok (.getfield 42, 3) := by decide +kernel
theorem dX2_learn_48 : decode cX2_learn 48 = .ok (.iastore, 1) := by decide +kernel
theorem dX2_learn_49 : decode cX2_learn 49 = .ok (.aload_n 0, 1) := by decide +kernel
theorem dX2_learn_50 : decode cX2_learn 50 = .ok (.iload_n 2, 1) := by decide +kernel
theorem dX2_learn_51 : decode cX2_learn 51 = .ok (.invokevirtual 79, 3) := by decide +kernel
theorem dX2_learn_54 : decode cX2_learn 54 = .ok (.aload_n 0, 1) := by decide +kernel
theorem dX2_learn_55 : decode cX2_learn 55 = .ok (.getfield 27, 3) := by decide +kernel
theorem dX2_learn_58 : decode cX2_learn 58 = .ok (.iload_n 2, 1) := by decide +kernel
theorem dX2_learn_59 : decode cX2_learn 59 = .ok (.iconst 1, 1) := by decide +kernel
theorem dX2_learn_60 : decode cX2_learn 60 = .ok (.iadd, 1) := by decide +kernel
theorem dX2_learn_61 : decode cX2_learn 61 = .ok (.aload_n 0, 1) := by decide +kernel
theorem dX2_learn_62 : decode cX2_learn 62 = .ok (.getfield 42, 3) := by decide +kernel
theorem dX2_learn_65 : decode cX2_learn 65 = .ok (.iastore, 1) := by decide +kernel
theorem dX2_learn_66 : decode cX2_learn 66 = .ok (.aload_n 0, 1) := by decide +kernel
theorem dX2_learn_67 : decode cX2_learn 67 = .ok (.getfield 42, 3) := by decide +kernel
theorem dX2_learn_70 : decode cX2_learn 70 = .ok (.aload_n 0, 1) := by decide +kernel
theorem dX2_learn_71 : decode cX2_learn 71 = .ok (.getfield 27, 3) := by decide +kernel
theorem dX2_learn_74 : decode cX2_learn 74 = .ok (.iload_n 2, 1) := by decide +kernel
theorem dX2_learn_75 : decode cX2_learn 75 = .ok (.iaload, 1) := by decide +kernel
theorem dX2_learn_76 : decode cX2_learn 76 = .ok (.if_icmp .le 15, 3) := by decide +kernel
theorem dX2_learn_79 : decode cX2_learn 79 = .ok (.iload_n 2, 1) := by decide +kernel
theorem dX2_learn_80 : decode cX2_learn 80 = .ok (.istore_n 1, 1) := by decide +kernel
theorem dX2_learn_81 : decode cX2_learn 81 = .ok (.aload_n 0, 1) := by decide +kernel
theorem dX2_learn_82 : decode cX2_learn 82 = .ok (.aload_n 0, 1) := by decide +kernel
theorem dX2_learn_83 : decode cX2_learn 83 = .ok (.getfield 27, 3) := by decide +kernel
theorem dX2_learn_86 : decode cX2_learn 86 = .ok (.iload_n 2, 1) := by decide +kernel
theorem dX2_learn_87 : decode cX2_learn 87 = .ok (.iaload, 1) := by decide +kernel
theorem dX2_learn_88 : decode cX2_learn 88 = .ok (.invokevirtual 83, 3) := by decide +kernel
theorem dX2_learn_91 : decode cX2_learn 91 = .ok (.iinc 2 1, 3) := by decide +kernel
theorem dX2_learn_94 : decode cX2_learn 94 = .ok (.goto (-69), 3) := by decide +kernel
theorem dX2_learn_97 : decode cX2_learn 97 = .ok (.bipush 33, 2) := by decide +kernel
theorem dX2_learn_99 : decode cX2_learn 99 = .ok (.iload_n 1, 1) := by decide +kernel
theorem dX2_learn_100 : decode cX2_learn 100 = .ok (.invokestatic 76, 3) := by decide +kernel
theorem dX2_learn_103 : decode cX2_learn 103 = .ok (.ifCond .eq 7, 3) := by decide +kernel
theorem dX2_learn_106 : decode cX2_learn 106 = .ok (.aload_n 0, 1) := by decide +kernel
theorem dX2_learn_107 : decode cX2_learn 107 = .ok (.invokevirtual 86, 3) := by decide +kernel
theorem dX2_learn_110 : decode cX2_learn 110 = .ok (.aload_n 0, 1) := by decide +kernel
theorem dX2_learn_111 : decode cX2_learn 111 = .ok (.iconst 1, 1) := by decide +kernel
theorem dX2_learn_112 : decode cX2_learn 112 = .ok (.putfield 46, 3) := by decide +kernel
theorem dX2_learn_115 : decode cX2_learn 115 = .ok (.return_, 1) := by decide +kernel
theorem dX2_canHaveSize_0 : decode cX2_canHaveSize 0 = .ok (.iload_n 0, 1) := by decide +kernel
theorem dX2_canHaveSize_1 : decode cX2_canHaveSize 1 = .ok (.iconst 2, 1) := by decide +kernel
theorem dX2_canHaveSize_2 : decode cX2_canHaveSize 2 = .ok (.iload_n 1, 1) := by decide +kernel
theorem dX2_canHaveSize_3 : decode cX2_canHaveSize 3 = .ok (.imul, 1) := by decide +kernel
theorem dX2_canHaveSize_4 : decode cX2_canHaveSize 4 = .ok (.iconst 1, 1) := by decide +kernel
theorem dX2_canHaveSize_5 : decode cX2_canHaveSize 5 = .ok (.iadd, 1) := by decide +kernel
theorem dX2_canHaveSize_6 : decode cX2_canHaveSize 6 = .ok (.if_icmp .gt 7, 3) := by decide +kernel
theorem dX2_canHaveSize_9 : decode cX2_canHaveSize 9 = .ok (.iconst 1, 1) := by decide +kernel
theorem dX2_canHaveSize_10 : decode cX2_canHaveSize 10 = .ok (.goto 4, 3) := by decide +kernel
theorem dX2_canHaveSize_13 : decode cX2_canHaveSize 13 = .ok (.iconst 0, 1) := by decide +kernel
theorem dX2_canHaveSize_14 : decode cX2_canHaveSize 14 = .ok (.ireturn, 1) := by decide +kernel
set_option maxRecDepth 20000 in
theorem ggX2_findOfSize_X5_hasRight : GoodIn wsX2_findOfSize wsX5_hasRight := goodIn_r _ [3] (by decide +kernel) (by decide +kernel)
set_option maxRecDepth 20000 in
theorem gX2_findOfSize_X5_hasRight_n63 : GoodIn wsX2_findOfSize (wsX5_hasRight) := ggX2_findOfSize_X5_hasRight
set_option maxRecDepth 20000 in
theorem ggX2_findOfSize_X2_findWithTwo : GoodIn wsX2_findOfSize wsX2_findWithTwo := goodIn_r _ [8, 9, 10, 11, 12, 13, 14, 15, 7, 16, 17, 18, 19, 20, 21, 22, 23, 24, 25, 26, 27, 28, 29, 36, 37, 38, 39, 40, 41, 42, 43, 44, 45, 46, 47, 48, 49, 50, 51, 52, 53] (by decide +kernel) (by decide +kernel)
set_option maxRecDepth 20000 in
theorem gX2_findOfSize_X2_findWithTwo : GoodIn wsX2_findOfSize (wsV RX2 89 RX2 yX2_findWithTwo wsX2_findWithTwo) := goodIn_app (goodIn_of _ (by decide +kernel)) ggX2_findOfSize_X2_findWithTwo
set_option maxRecDepth 20000 in
theorem ggX2_findOfSize_X5_hasLeft : GoodIn wsX2_findOfSize wsX5_hasLeft := goodIn_r _ [31] (by decide +kernel) (by decide +kernel)
set_option maxRecDepth 20000 in
theorem gX2_findOfSize_X5_hasLeft_n67 : GoodIn wsX2_findOfSize (wsX5_hasLeft) := ggX2_findOfSize_X5_hasLeft
set_option maxRecDepth 20000 in
theorem ggX2_findOfSize_X2_findWithOne : GoodIn wsX2_findOfSize wsX2_findWithOne := goodIn_r _ [35, 9, 12, 13, 14, 15, 7, 16, 17, 11, 18, 19, 20, 21, 22, 23, 24, 25, 26, 27, 28, 29, 36, 37, 38, 39, 40, 41, 42, 43, 44, 45, 46, 47, 48, 49, 50, 51, 52, 53] (by decide +kernel) (by decide +kernel)
set_option maxRecDepth 20000 in
theorem gX2_findOfSize_X2_findWithOne : GoodIn wsX2_findOfSize (wsV RX2 93 RX2 yX2_findWithOne wsX2_findWithOne) := goodIn_app (goodIn_of _ (by decide +kernel)) ggX2_findOfSize_X2_findWithOne
set_option maxRecDepth 20000 in
theorem ggX2_findOfSize_X2_meet : GoodIn wsX2_findOfSize wsX2_meet := goodIn_r _ [16, 17, 11, 18, 19, 20, 21, 12, 22, 23, 24, 25, 26, 27, 28, 29, 36, 37, 38, 39, 40, 41, 42, 43, 44, 45, 46, 47, 48, 49, 50, 51, 52, 53] (by decide +kernel) (by decide +kernel)
set_option maxRecDepth 20000 in
theorem gX2_findOfSize_X2_meet : GoodIn wsX2_findOfSize (wsV RX2 96 RX2 yX2_meet wsX2_meet) := goodIn_app (goodIn_of _ (by decide +kernel)) ggX2_findOfSize_X2_meet
theorem dX2_findOfSize_0 : decode cX2_findOfSize 0 = .ok (.iconst 0, 1) := by decide +kernel
theorem dX2_findOfSize_1 : decode cX2_findOfSize 1 = .ok (.istore_n 2, 1) := by decide +kernel
theorem dX2_findOfSize_2 : decode cX2_findOfSize 2 = .ok (.iload_n 2, 1) := by decide +kernel
theorem dX2_findOfSize_3 : decode cX2_findOfSize 3 = .ok (.bipush 8, 2) := by decide +kernel
theorem dX2_findOfSize_5 : decode cX2_findOfSize 5 = .ok (.if_icmp .ge 56, 3) := by decide +kernel
theorem dX2_findOfSize_8 : decode cX2_findOfSize 8 = .ok (.iload_n 2, 1) := by decide +kernel
theorem dX2_findOfSize_9 : decode cX2_findOfSize 9 = .ok (.invokestatic 63, 3) := by decide +kernel
theorem dX2_findOfSize_12 : decode cX2_findOfSize 12 = .ok (.ifCond .eq 12, 3) := by decide +kernel
theorem dX2_findOfSize_15 : decode cX2_findOfSize 15 = .ok (.aload_n 0, 1) := by decide +kernel
theorem dX2_findOfSize_16 : decode cX2_findOfSize 16 = .ok (.iload_n 2, 1) := by decide +kernel
theorem dX2_findOfSize_17 : decode cX2_findOfSize 17 = .ok (.iload_n 1, 1) := by decide +kernel
theorem dX2_findOfSize_18 : decode cX2_findOfSize 18 = .ok (.invokevirtual 89, 3) := by decide +kernel
theorem dX2_findOfSize_21 : decode cX2_findOfSize 21 = .ok (.goto 34, 3) := by decide +kernel
theorem dX2_findOfSize_24 : decode cX2_findOfSize 24 = .ok (.iload_n 2, 1) := by decide +kernel
theorem dX2_findOfSize_25 : decode cX2_findOfSize 25 = .ok (.invokestatic 67, 3) := by decide +kernel
theorem dX2_findOfSize_28 : decode cX2_findOfSize 28 = .ok (.ifCond .eq 12, 3) := by decide +kernel
theorem dX2_findOfSize_31 : decode cX2_findOfSize 31 = .ok (.aload_n 0, 1) := by decide +kernel
theorem dX2_findOfSize_32 : decode cX2_findOfSize 32 = .ok (.iload_n 2, 1) := by decide +kernel
theorem dX2_findOfSize_33 : decode cX2_findOfSize 33 = .ok (.iload_n 1, 1) := by decide +kernel
theorem dX2_findOfSize_34 : decode cX2_findOfSize 34 = .ok (.invokevirtual 93, 3) := by decide +kernel
theorem dX2_findOfSize_37 : decode cX2_findOfSize 37 = .ok (.goto 18, 3) := by decide +kernel
theorem dX2_findOfSize_40 : decode cX2_findOfSize 40 = .ok (.iload_n 1, 1) := by decide +kernel
theorem dX2_findOfSize_41 : decode cX2_findOfSize 41 = .ok (.iconst 1, 1) := by decide +kernel
theorem dX2_findOfSize_42 : decode cX2_findOfSize 42 = .ok (.if_icmp .ne 13, 3) := by decide +kernel
theorem dX2_findOfSize_45 : decode cX2_findOfSize 45 = .ok (.aload_n 0, 1) := by decide +kernel
theorem dX2_findOfSize_46 : decode cX2_findOfSize 46 = .ok (.iload_n 2, 1) := by decide +kernel
theorem dX2_findOfSize_47 : decode cX2_findOfSize 47 = .ok (.bipush 17, 2) := by decide +kernel
theorem dX2_findOfSize_49 : decode cX2_findOfSize 49 = .ok (.bipush 17, 2) := by decide +kernel
theorem dX2_findOfSize_51 : decode cX2_findOfSize 51 = .ok (.iconst 1, 1) := by decide +kernel
theorem dX2_findOfSize_52 : decode cX2_findOfSize 52 = .ok (.invokevirtual 96, 3) := by decide +kernel
theorem dX2_findOfSize_55 : decode cX2_findOfSize 55 = .ok (.iinc 2 1, 3) := by decide +kernel
theorem dX2_findOfSize_58 : decode cX2_findOfSize 58 = .ok (.goto (-56), 3) := by decide +kernel
theorem dX2_findOfSize_61 : decode cX2_findOfSize 61 = .ok (.return_, 1) := by decide +kernel
set_option maxRecDepth 20000 in
theorem ggX2_findWithOne_X2_meet : GoodIn wsX2_findWithOne wsX2_meet := goodIn_r _ [7, 8, 9, 10, 11, 12, 13, 2, 14, 15, 16, 17, 18, 19, 20, 21, 22, 23, 24, 25, 26, 27, 28, 29, 30, 31, 32, 33, 34, 35, 36, 37, 38, 39] (by decide +kernel) (by decide +kernel)
set_option maxRecDepth 20000 in
theorem gX2_findWithOne_X2_meet : GoodIn wsX2_findWithOne (wsV RX2 96 RX2 yX2_meet wsX2_meet) := goodIn_app (goodIn_of _ (by decide +kernel)) ggX2_findWithOne_X2_meet
theorem dX2_findWithOne_0 : decode cX2_findWithOne 0 = .ok (.iload_n 2, 1) := by decide +kernel
theorem dX2_findWithOne_1 : decode cX2_findWithOne 1 = .ok (.iconst 2, 1) := by decide +kernel
theorem dX2_findWithOne_2 : decode cX2_findWithOne 2 = .ok (.if_icmp .ge 4, 3) := by decide +kernel
theorem dX2_findWithOne_5 : decode cX2_findWithOne 5 = .ok (.return_, 1) := by decide +kernel
theorem dX2_findWithOne_6 : decode cX2_findWithOne 6 = .ok (.aload_n 0, 1) := by decide +kernel
theorem dX2_findWithOne_7 : decode cX2_findWithOne 7 = .ok (.getfield 27, 3) := by decide +kernel
theorem dX2_findWithOne_10 : decode cX2_findWithOne 10 = .ok (.iload_n 2, 1) := by decide +kernel
theorem dX2_findWithOne_11 : decode cX2_findWithOne 11 = .ok (.iaload, 1) := by decide +kernel
theorem dX2_findWithOne_12 : decode cX2_findWithOne 12 = .ok (.istore_n 3, 1) := by decide +kernel
theorem dX2_findWithOne_13 : decode cX2_findWithOne 13 = .ok (.aload_n 0, 1) := by decide +kernel
theorem dX2_findWithOne_14 : decode cX2_findWithOne 14 = .ok (.getfield 27, 3) := by decide +kernel
theorem dX2_findWithOne_17 : decode cX2_findWithOne 17 = .ok (.iload_n 2, 1) := by decide +kernel
theorem dX2_findWithOne_18 : decode cX2_findWithOne 18 = .ok (.iconst 1, 1) := by decide +kernel
theorem dX2_findWithOne_19 : decode cX2_findWithOne 19 = .ok (.isub, 1) := by decide +kernel
theorem dX2_findWithOne_20 : decode cX2_findWithOne 20 = .ok (.iaload, 1) := by decide +kernel
theorem dX2_findWithOne_21 : decode cX2_findWithOne 21 = .ok (.istore 4, 2) := by decide +kernel
theorem dX2_findWithOne_23 : decode cX2_findWithOne 23 = .ok (.iload 4, 2) := by decide +kernel
theorem dX2_findWithOne_25 : decode cX2_findWithOne 25 = .ok (.iload_n 3, 1) := by decide +kernel
theorem dX2_findWithOne_26 : decode cX2_findWithOne 26 = .ok (.if_icmp .ge 24, 3) := by decide +kernel
theorem dX2_findWithOne_29 : decode cX2_findWithOne 29 = .ok (.aload_n 0, 1) := by decide +kernel
theorem dX2_findWithOne_30 : decode cX2_findWithOne 30 = .ok (.iload_n 1, 1) := by decide +kernel
theorem dX2_findWithOne_31 : decode cX2_findWithOne 31 = .ok (.aload_n 0, 1) := by decide +kernel
theorem dX2_findWithOne_32 : decode cX2_findWithOne 32 = .ok (.getfield 24, 3) := by decide +kernel
theorem dX2_findWithOne_35 : decode cX2_findWithOne 35 = .ok (.iload 4, 2) := by decide +kernel
theorem dX2_findWithOne_37 : decode cX2_findWithOne 37 = .ok (.iaload, 1) := by decide +kernel
theorem dX2_findWithOne_38 : decode cX2_findWithOne 38 = .ok (.bipush 17, 2) := by decide +kernel
theorem dX2_findWithOne_40 : decode cX2_findWithOne 40 = .ok (.iload_n 2, 1) := by decide +kernel
theorem dX2_findWithOne_41 : decode cX2_findWithOne 41 = .ok (.invokevirtual 96, 3) := by decide +kernel
theorem dX2_findWithOne_44 : decode cX2_findWithOne 44 = .ok (.iinc 4 1, 3) := by decide +kernel
theorem dX2_findWithOne_47 : decode cX2_findWithOne 47 = .ok (.goto (-24), 3) := by decide +kernel
theorem dX2_findWithOne_50 : decode cX2_findWithOne 50 = .ok (.return_, 1) := by decide +kernel
set_option maxRecDepth 20000 in
theorem ggX2_findWithTwo_X2_meet : GoodIn wsX2_findWithTwo wsX2_meet := goodIn_r _ [9, 10, 3, 11, 12, 13, 14, 4, 15, 16, 17, 18, 19, 20, 21, 22, 23, 24, 25, 26, 27, 28, 29, 30, 31, 32, 33, 34, 35, 36, 37, 38, 39, 40] (by decide +kernel) (by decide +kernel)
set_option maxRecDepth 20000 in
theorem gX2_findWithTwo_X2_meet : GoodIn wsX2_findWithTwo (wsV RX2 96 RX2 yX2_meet wsX2_meet) := goodIn_app (goodIn_of _ (by decide +kernel)) ggX2_findWithTwo_X2_meet
theorem dX2_findWithTwo_0 : decode cX2_findWithTwo 0 = .ok (.aload_n 0, 1) := by decide +kernel
theorem dX2_findWithTwo_1 : decode cX2_findWithTwo 1 = .ok (.getfield 27, 3) := by decide +kernel
theorem dX2_findWithTwo_4 : decode cX2_findWithTwo 4 = .ok (.iload_n 2, 1) := by decide +kernel
theorem dX2_findWithTwo_5 : decode cX2_findWithTwo 5 = .ok (.iaload, 1) := by decide +kernel
theorem dX2_findWithTwo_6 : decode cX2_findWithTwo 6 = .ok (.istore_n 3, 1) := by decide +kernel
theorem dX2_findWithTwo_7 : decode cX2_findWithTwo 7 = .ok (.iconst 0, 1) := by decide +kernel
theorem dX2_findWithTwo_8 : decode cX2_findWithTwo 8 = .ok (.istore 4, 2) := by decide +kernel
theorem dX2_findWithTwo_10 : decode cX2_findWithTwo 10 = .ok (.iload 4, 2) := by decide +kernel
theorem dX2_findWithTwo_12 : decode cX2_findWithTwo 12 = .ok (.iload_n 3, 1) := by decide +kernel
theorem dX2_findWithTwo_13 : decode cX2_findWithTwo 13 = .ok (.if_icmp .ge 88, 3) := by decide +kernel
theorem dX2_findWithTwo_16 : decode cX2_findWithTwo 16 = .ok (.aload_n 0, 1) := by decide +kernel
theorem dX2_findWithTwo_17 : decode cX2_findWithTwo 17 = .ok (.getfield 30, 3) := by decide +kernel
theorem dX2_findWithTwo_20 : decode cX2_findWithTwo 20 = .ok (.iload 4, 2) := by decide +kernel
theorem dX2_findWithTwo_22 : decode cX2_findWithTwo 22 = .ok (.iaload, 1) := by decide +kernel
theorem dX2_findWithTwo_23 : decode cX2_findWithTwo 23 = .ok (.istore 5, 2) := by decide +kernel
theorem dX2_findWithTwo_25 : decode cX2_findWithTwo 25 = .ok (.iload_n 2, 1) := by decide +kernel
theorem dX2_findWithTwo_26 : decode cX2_findWithTwo 26 = .ok (.iconst 1, 1) := by decide +kernel
theorem dX2_findWithTwo_27 : decode cX2_findWithTwo 27 = .ok (.isub, 1) := by decide +kernel
theorem dX2_findWithTwo_28 : decode cX2_findWithTwo 28 = .ok (.aload_n 0, 1) := by decide +kernel
theorem dX2_findWithTwo_29 : decode cX2_findWithTwo 29 = .ok (.getfield 9, 3) := by decide +kernel
theorem dX2_findWithTwo_32 : decode cX2_findWithTwo 32 = .ok (.iload 5, 2) := by decide +kernel
theorem dX2_findWithTwo_34 : decode cX2_findWithTwo 34 = .ok (.iaload, 1) := by decide +kernel
theorem dX2_findWithTwo_35 : decode cX2_findWithTwo 35 = .ok (.isub, 1) := by decide +kernel
theorem dX2_findWithTwo_36 : decode cX2_findWithTwo 36 = .ok (.istore 6, 2) := by decide +kernel
theorem dX2_findWithTwo_38 : decode cX2_findWithTwo 38 = .ok (.iload 6, 2) := by decide +kernel
theorem dX2_findWithTwo_40 : decode cX2_findWithTwo 40 = .ok (.iconst 1, 1) := by decide +kernel
theorem dX2_findWithTwo_41 : decode cX2_findWithTwo 41 = .ok (.if_icmp .ge 6, 3) := by decide +kernel
theorem dX2_findWithTwo_44 : decode cX2_findWithTwo 44 = .ok (.goto 51, 3) := by decide +kernel
theorem dX2_findWithTwo_47 : decode cX2_findWithTwo 47 = .ok (.aload_n 0, 1) := by decide +kernel
theorem dX2_findWithTwo_48 : decode cX2_findWithTwo 48 = .ok (.getfield 27, 3) := by decide +kernel
theorem dX2_findWithTwo_51 : decode cX2_findWithTwo 51 = .ok (.iload 6, 2) := by decide +kernel
theorem dX2_findWithTwo_53 : decode cX2_findWithTwo 53 = .ok (.iconst 1, 1) := by decide +kernel
theorem dX2_findWithTwo_54 : decode cX2_findWithTwo 54 = .ok (.iadd, 1) := by decide +kernel
theorem dX2_findWithTwo_55 : decode cX2_findWithTwo 55 = .ok (.iaload, 1) := by decide +kernel
theorem dX2_findWithTwo_56 : decode cX2_findWithTwo 56 = .ok (.istore 7, 2) := by decide +kernel
theorem dX2_findWithTwo_58 : decode cX2_findWithTwo 58 = .ok (.aload_n 0, 1) := by decide +kernel
theorem dX2_findWithTwo_59 : decode cX2_findWithTwo 59 = .ok (.getfield 27, 3) := by decide +kernel
theorem dX2_findWithTwo_62 : decode cX2_findWithTwo 62 = .ok (.iload 6, 2) := by decide +kernel
theorem dX2_findWithTwo_64 : decode cX2_findWithTwo 64 = .ok (.iaload, 1) := by decide +kernel
theorem dX2_findWithTwo_65 : decode cX2_findWithTwo 65 = .ok (.istore 8, 2) := by decide +kernel
theorem dX2_findWithTwo_67 : decode cX2_findWithTwo 67 = .ok (.iload 8, 2) := by decide +kernel
theorem dX2_findWithTwo_69 : decode cX2_findWithTwo 69 = .ok (.iload 7, 2) := by decide +kernel
theorem dX2_findWithTwo_71 : decode cX2_findWithTwo 71 = .ok (.if_icmp .ge 24, 3) := by decide +kernel
theorem dX2_findWithTwo_74 : decode cX2_findWithTwo 74 = .ok (.aload_n 0, 1) := by decide +kernel
theorem dX2_findWithTwo_75 : decode cX2_findWithTwo 75 = .ok (.iload_n 1, 1) := by decide +kernel
theorem dX2_findWithTwo_76 : decode cX2_findWithTwo 76 = .ok (.iload 5, 2) := by decide +kernel
theorem dX2_findWithTwo_78 : decode cX2_findWithTwo 78 = .ok (.aload_n 0, 1) := by decide +kernel
theorem dX2_findWithTwo_79 : decode cX2_findWithTwo 79 = .ok (.getfield 24, 3) := by decide +kernel
theorem dX2_findWithTwo_82 : decode cX2_findWithTwo 82 = .ok (.iload 8, 2) := by decide +kernel
theorem dX2_findWithTwo_84 : decode cX2_findWithTwo 84 = .ok (.iaload, 1) := by decide +kernel
theorem dX2_findWithTwo_85 : decode cX2_findWithTwo 85 = .ok (.iload_n 2, 1) := by decide +kernel
theorem dX2_findWithTwo_86 : decode cX2_findWithTwo 86 = .ok (.invokevirtual 96, 3) := by decide +kernel
theorem dX2_findWithTwo_89 : decode cX2_findWithTwo 89 = .ok (.iinc 8 1, 3) := by decide +kernel
theorem dX2_findWithTwo_92 : decode cX2_findWithTwo 92 = .ok (.goto (-25), 3) := by decide +kernel
theorem dX2_findWithTwo_95 : decode cX2_findWithTwo 95 = .ok (.iinc 4 1, 3) := by decide +kernel
theorem dX2_findWithTwo_98 : decode cX2_findWithTwo 98 = .ok (.goto (-88), 3) := by decide +kernel
theorem dX2_findWithTwo_101 : decode cX2_findWithTwo 101 = .ok (.return_, 1) := by decide +kernel
set_option maxRecDepth 20000 in
theorem ggX2_findLarger_X2_meet : GoodIn wsX2_findLarger wsX2_meet := goodIn_r _ [7, 8, 9, 1, 10, 11, 12, 2, 13, 14, 15, 16, 17, 18, 19, 20, 21, 22, 23, 24, 25, 26, 27, 28, 29, 30, 31, 32, 33, 34, 35, 36, 37, 38] (by decide +kernel) (by decide +kernel)
set_option maxRecDepth 20000 in
theorem gX2_findLarger_X2_meet : GoodIn wsX2_findLarger (wsV RX2 96 RX2 yX2_meet wsX2_meet) := goodIn_app (goodIn_of _ (by decide +kernel)) ggX2_findLarger_X2_meet
theorem dX2_findLarger_0 : decode cX2_findLarger 0 = .ok (.iconst 0, 1) := by decide +kernel
theorem dX2_findLarger_1 : decode cX2_findLarger 1 = .ok (.istore_n 1, 1) := by decide +kernel
theorem dX2_findLarger_2 : decode cX2_findLarger 2 = .ok (.iload_n 1, 1) := by decide +kernel
theorem dX2_findLarger_3 : decode cX2_findLarger 3 = .ok (.aload_n 0, 1) := by decide +kernel
theorem dX2_findLarger_4 : decode cX2_findLarger 4 = .ok (.getfield 42, 3) := by decide +kernel
theorem dX2_findLarger_7 : decode cX2_findLarger 7 = .ok (.if_icmp .ge 109, 3) := by decide +kernel
theorem dX2_findLarger_10 : decode cX2_findLarger 10 = .ok (.iload_n 1, 1) := by decide +kernel
theorem dX2_findLarger_11 : decode cX2_findLarger 11 = .ok (.sipush 256, 3) := by decide +kernel
theorem dX2_findLarger_14 : decode cX2_findLarger 14 = .ok (.if_icmp .ge 102, 3) := by decide +kernel
theorem dX2_findLarger_17 : decode cX2_findLarger 17 = .ok (.iconst 3, 1) := by decide +kernel
theorem dX2_findLarger_18 : decode cX2_findLarger 18 = .ok (.istore_n 2, 1) := by decide +kernel
theorem dX2_findLarger_19 : decode cX2_findLarger 19 = .ok (.iload_n 2, 1) := by decide +kernel
theorem dX2_findLarger_20 : decode cX2_findLarger 20 = .ok (.iconst 5, 1) := by decide +kernel
theorem dX2_findLarger_21 : decode cX2_findLarger 21 = .ok (.if_icmp .ge 24, 3) := by decide +kernel
theorem dX2_findLarger_24 : decode cX2_findLarger 24 = .ok (.aload_n 0, 1) := by decide +kernel
theorem dX2_findLarger_25 : decode cX2_findLarger 25 = .ok (.iload_n 2, 1) := by decide +kernel
theorem dX2_findLarger_26 : decode cX2_findLarger 26 = .ok (.aload_n 0, 1) := by decide +kernel
theorem dX2_findLarger_27 : decode cX2_findLarger 27 = .ok (.getfield 24, 3) := by decide +kernel
theorem dX2_findLarger_30 : decode cX2_findLarger 30 = .ok (.iload_n 1, 1) := by decide +kernel
theorem dX2_findLarger_31 : decode cX2_findLarger 31 = .ok (.iaload, 1) := by decide +kernel
theorem dX2_findLarger_32 : decode cX2_findLarger 32 = .ok (.bipush 17, 2) := by decide +kernel
theorem dX2_findLarger_34 : decode cX2_findLarger 34 = .ok (.bipush 33, 2) := by decide +kernel
theorem dX2_findLarger_36 : decode cX2_findLarger 36 = .ok (.invokevirtual 96, 3) := by decide +kernel
theorem dX2_findLarger_39 : decode cX2_findLarger 39 = .ok (.iinc 2 1, 3) := by decide +kernel
theorem dX2_findLarger_42 : decode cX2_findLarger 42 = .ok (.goto (-23), 3) := by decide +kernel
theorem dX2_findLarger_45 : decode cX2_findLarger 45 = .ok (.iconst 0, 1) := by decide +kernel
theorem dX2_findLarger_46 : decode cX2_findLarger 46 = .ok (.istore_n 2, 1) := by decide +kernel
theorem dX2_findLarger_47 : decode cX2_findLarger 47 = .ok (.iload_n 2, 1) := by decide +kernel
theorem dX2_findLarger_48 : decode cX2_findLarger 48 = .ok (.iload_n 1, 1) := by decide +kernel
theorem dX2_findLarger_49 : decode cX2_findLarger 49 = .ok (.if_icmp .gt 61, 3) := by decide +kernel
theorem dX2_findLarger_52 : decode cX2_findLarger 52 = .ok (.iconst 5, 1) := by decide +kernel
theorem dX2_findLarger_53 : decode cX2_findLarger 53 = .ok (.istore_n 3, 1) := by decide +kernel
theorem dX2_findLarger_54 : decode cX2_findLarger 54 = .ok (.iload_n 3, 1) := by decide +kernel
theorem dX2_findLarger_55 : decode cX2_findLarger 55 = .ok (.bipush 8, 2) := by decide +kernel
theorem dX2_findLarger_57 : decode cX2_findLarger 57 = .ok (.if_icmp .ge 47, 3) := by decide +kernel
theorem dX2_findLarger_60 : decode cX2_findLarger 60 = .ok (.aload_n 0, 1) := by decide +kernel
theorem dX2_findLarger_61 : decode cX2_findLarger 61 = .ok (.iload_n 3, 1) := by decide +kernel
theorem dX2_findLarger_62 : decode cX2_findLarger 62 = .ok (.aload_n 0, 1) := by decide +kernel
theorem dX2_findLarger_63 : decode cX2_findLarger 63 = .ok (.getfield 24, 3) := by decide +kernel
theorem dX2_findLarger_66 : decode cX2_findLarger 66 = .ok (.iload_n 1, 1) := by decide +kernel
theorem dX2_findLarger_67 : decode cX2_findLarger 67 = .ok (.iaload, 1) := by decide +kernel
theorem dX2_findLarger_68 : decode cX2_findLarger 68 = .ok (.aload_n 0, 1) := by decide +kernel
theorem dX2_findLarger_69 : decode cX2_findLarger 69 = .ok (.getfield 24, 3) := by decide +kernel
theorem dX2_findLarger_72 : decode cX2_findLarger 72 = .ok (.iload_n 2, 1) := by decide +kernel
theorem dX2_findLarger_73 : decode cX2_findLarger 73 = .ok (.iaload, 1) := by decide +kernel
theorem dX2_findLarger_74 : decode cX2_findLarger 74 = .ok (.bipush 33, 2) := by decide +kernel
theorem dX2_findLarger_76 : decode cX2_findLarger 76 = .ok (.invokevirtual 96, 3) := by decide +kernel
theorem dX2_findLarger_79 : decode cX2_findLarger 79 = .ok (.aload_n 0, 1) := by decide +kernel
theorem dX2_findLarger_80 : decode cX2_findLarger 80 = .ok (.iload_n 3, 1) := by decide +kernel
theorem dX2_findLarger_81 : decode cX2_findLarger 81 = .ok (.aload_n 0, 1) := by decide +kernel
theorem dX2_findLarger_82 : decode cX2_findLarger 82 = .ok (.getfield 24, 3) := by decide +kernel
theorem dX2_findLarger_85 : decode cX2_findLarger 85 = .ok (.iload_n 2, 1) := by decide +kernel
theorem dX2_findLarger_86 : decode cX2_findLarger 86 = .ok (.iaload, 1) := by decide +kernel
theorem dX2_findLarger_87 : decode cX2_findLarger 87 = .ok (.aload_n 0, 1) := by decide +kernel
theorem dX2_findLarger_88 : decode cX2_findLarger 88 = .ok (.getfield 24, 3) := by decide +kernel
theorem dX2_findLarger_91 : decode cX2_findLarger 91 = .ok (.iload_n 1, 1) := by decide +kernel
theorem dX2_findLarger_92 : decode cX2_findLarger 92 = .ok (.iaload, 1) := by decide +kernel
theorem dX2_findLarger_93 : decode cX2_findLarger 93 = .ok (.bipush 33, 2) := by decide +kernel
theorem dX2_findLarger_95 : decode cX2_findLarger 95 = .ok (.invokevirtual 96, 3) := by decide +kernel
theorem dX2_findLarger_98 : decode cX2_findLarger 98 = .ok (.iinc 3 1, 3) := by decide +kernel
theorem dX2_findLarger_101 : decode cX2_findLarger 101 = .ok (.goto (-47), 3) := by decide +kernel
theorem dX2_findLarger_104 : decode cX2_findLarger 104 = .ok (.iinc 2 1, 3) := by decide +kernel
theorem dX2_findLarger_107 : decode cX2_findLarger 107 = .ok (.goto (-60), 3) := by decide +kernel
theorem dX2_findLarger_110 : decode cX2_findLarger 110 = .ok (.iinc 1 1, 3) := by decide +kernel
theorem dX2_findLarger_113 : decode cX2_findLarger 113 = .ok (.goto (-111), 3) := by decide +kernel
theorem dX2_findLarger_116 : decode cX2_findLarger 116 = .ok (.return_, 1) := by decide +kernel
set_option maxRecDepth 20000 in
theorem ggX2_meet_X4_profileOf : GoodIn wsX2_meet wsX4_profileOf := goodIn_r _ [12, 13, 14, 15, 29, 30, 31, 32, 33] (by decide +kernel) (by decide +kernel)
set_option maxRecDepth 20000 in
theorem gX2_meet_X4_profileOf : GoodIn wsX2_meet (wsV RX2 100 RX4 yX4_profileOf wsX4_profileOf) := goodIn_app (goodIn_of _ (by decide +kernel)) ggX2_meet_X4_profileOf
theorem dX2_meet_0 : decode cX2_meet 0 = .ok (.aload_n 0, 1) := by decide +kernel
theorem dX2_meet_1 : decode cX2_meet 1 = .ok (.getfield 50, 3) := by decide +kernel
theorem dX2_meet_4 : decode cX2_meet 4 = .ok (.iload_n 1, 1) := by decide +kernel
theorem dX2_meet_5 : decode cX2_meet 5 = .ok (.iload_n 2, 1) := by decide +kernel
theorem dX2_meet_6 : decode cX2_meet 6 = .ok (.iload_n 3, 1) := by decide +kernel
theorem dX2_meet_7 : decode cX2_meet 7 = .ok (.invokevirtual 100, 3) := by decide +kernel
theorem dX2_meet_10 : decode cX2_meet 10 = .ok (.istore 5, 2) := by decide +kernel
theorem dX2_meet_12 : decode cX2_meet 12 = .ok (.aload_n 0, 1) := by decide +kernel
theorem dX2_meet_13 : decode cX2_meet 13 = .ok (.getfield 9, 3) := by decide +kernel
theorem dX2_meet_16 : decode cX2_meet 16 = .ok (.iload 5, 2) := by decide +kernel
theorem dX2_meet_18 : decode cX2_meet 18 = .ok (.iaload, 1) := by decide +kernel
theorem dX2_meet_19 : decode cX2_meet 19 = .ok (.ifCond .ne 13, 3) := by decide +kernel
theorem dX2_meet_22 : decode cX2_meet 22 = .ok (.aload_n 0, 1) := by decide +kernel
theorem dX2_meet_23 : decode cX2_meet 23 = .ok (.getfield 42, 3) := by decide +kernel
theorem dX2_meet_26 : decode cX2_meet 26 = .ok (.sipush 256, 3) := by decide +kernel
theorem dX2_meet_29 : decode cX2_meet 29 = .ok (.if_icmp .lt 4, 3) := by decide +kernel
theorem dX2_meet_32 : decode cX2_meet 32 = .ok (.return_, 1) := by decide +kernel
theorem dX2_meet_33 : decode cX2_meet 33 = .ok (.aload_n 0, 1) := by decide +kernel
theorem dX2_meet_34 : decode cX2_meet 34 = .ok (.getfield 9, 3) := by decide +kernel
theorem dX2_meet_37 : decode cX2_meet 37 = .ok (.iload 5, 2) := by decide +kernel
theorem dX2_meet_39 : decode cX2_meet 39 = .ok (.iload 4, 2) := by decide +kernel
theorem dX2_meet_41 : decode cX2_meet 41 = .ok (.iastore, 1) := by decide +kernel
theorem dX2_meet_42 : decode cX2_meet 42 = .ok (.aload_n 0, 1) := by decide +kernel
theorem dX2_meet_43 : decode cX2_meet 43 = .ok (.getfield 15, 3) := by decide +kernel
theorem dX2_meet_46 : decode cX2_meet 46 = .ok (.iload 5, 2) := by decide +kernel
theorem dX2_meet_48 : decode cX2_meet 48 = .ok (.iload_n 1, 1) := by decide +kernel
theorem dX2_meet_49 : decode cX2_meet 49 = .ok (.iastore, 1) := by decide +kernel
theorem dX2_meet_50 : decode cX2_meet 50 = .ok (.aload_n 0, 1) := by decide +kernel
theorem dX2_meet_51 : decode cX2_meet 51 = .ok (.getfield 18, 3) := by decide +kernel
theorem dX2_meet_54 : decode cX2_meet 54 = .ok (.iload 5, 2) := by decide +kernel
theorem dX2_meet_56 : decode cX2_meet 56 = .ok (.iload_n 2, 1) := by decide +kernel
theorem dX2_meet_57 : decode cX2_meet 57 = .ok (.iastore, 1) := by decide +kernel
theorem dX2_meet_58 : decode cX2_meet 58 = .ok (.aload_n 0, 1) := by decide +kernel
theorem dX2_meet_59 : decode cX2_meet 59 = .ok (.getfield 21, 3) := by decide +kernel
theorem dX2_meet_62 : decode cX2_meet 62 = .ok (.iload 5, 2) := by decide +kernel
theorem dX2_meet_64 : decode cX2_meet 64 = .ok (.iload_n 3, 1) := by decide +kernel
theorem dX2_meet_65 : decode cX2_meet 65 = .ok (.iastore, 1) := by decide +kernel
theorem dX2_meet_66 : decode cX2_meet 66 = .ok (.aload_n 0, 1) := by decide +kernel
theorem dX2_meet_67 : decode cX2_meet 67 = .ok (.getfield 24, 3) := by decide +kernel
theorem dX2_meet_70 : decode cX2_meet 70 = .ok (.aload_n 0, 1) := by decide +kernel
theorem dX2_meet_71 : decode cX2_meet 71 = .ok (.getfield 42, 3) := by decide +kernel
theorem dX2_meet_74 : decode cX2_meet 74 = .ok (.iload 5, 2) := by decide +kernel
theorem dX2_meet_76 : decode cX2_meet 76 = .ok (.iastore, 1) := by decide +kernel
theorem dX2_meet_77 : decode cX2_meet 77 = .ok (.aload_n 0, 1) := by decide +kernel
theorem dX2_meet_78 : decode cX2_meet 78 = .ok (.dup, 1) := by decide +kernel
theorem dX2_meet_79 : decode cX2_meet 79 = .ok (.getfield 42, 3) := by decide +kernel
theorem dX2_meet_82 : decode cX2_meet 82 = .ok (.iconst 1, 1) := by decide +kernel
theorem dX2_meet_83 : decode cX2_meet 83 = .ok (.iadd, 1) := by decide +kernel
theorem dX2_meet_84 : decode cX2_meet 84 = .ok (.putfield 42, 3) := by decide +kernel
theorem dX2_meet_87 : decode cX2_meet 87 = .ok (.return_, 1) := by decide +kernel
set_option maxRecDepth 20000 in
theorem ggX2_sortIn_X2_isWrittenBefore : GoodIn wsX2_sortIn wsX2_isWrittenBefore := goodIn_r _ [9, 10, 11, 4, 12, 13, 14, 15, 16, 17, 18, 19, 20, 21, 22, 23, 24, 25] (by decide +kernel) (by decide +kernel)
set_option maxRecDepth 20000 in
theorem gX2_sortIn_X2_isWrittenBefore : GoodIn wsX2_sortIn (wsV RX2 104 RX2 yX2_isWrittenBefore wsX2_isWrittenBefore) := goodIn_app (goodIn_of _ (by decide +kernel)) ggX2_sortIn_X2_isWrittenBefore
theorem dX2_sortIn_0 : decode cX2_sortIn 0 = .ok (.iload_n 1, 1) := by decide +kernel
theorem dX2_sortIn_1 : decode cX2_sortIn 1 = .ok (.iconst 1, 1) := by decide +kernel
theorem dX2_sortIn_2 : decode cX2_sortIn 2 = .ok (.isub, 1) := by decide +kernel
theorem dX2_sortIn_3 : decode cX2_sortIn 3 = .ok (.istore_n 2, 1) := by decide +kernel
theorem dX2_sortIn_4 : decode cX2_sortIn 4 = .ok (.aload_n 0, 1) := by decide +kernel
theorem dX2_sortIn_5 : decode cX2_sortIn 5 = .ok (.getfield 42, 3) := by decide +kernel
theorem dX2_sortIn_8 : decode cX2_sortIn 8 = .ok (.iconst 1, 1) := by decide +kernel
theorem dX2_sortIn_9 : decode cX2_sortIn 9 = .ok (.isub, 1) := by decide +kernel
theorem dX2_sortIn_10 : decode cX2_sortIn 10 = .ok (.istore_n 3, 1) := by decide +kernel
theorem dX2_sortIn_11 : decode cX2_sortIn 11 = .ok (.aload_n 0, 1) := by decide +kernel
theorem dX2_sortIn_12 : decode cX2_sortIn 12 = .ok (.getfield 42, 3) := by decide +kernel
theorem dX2_sortIn_15 : decode cX2_sortIn 15 = .ok (.iconst 1, 1) := by decide +kernel
theorem dX2_sortIn_16 : decode cX2_sortIn 16 = .ok (.isub, 1) := by decide +kernel
theorem dX2_sortIn_17 : decode cX2_sortIn 17 = .ok (.istore 4, 2) := by decide +kernel
theorem dX2_sortIn_19 : decode cX2_sortIn 19 = .ok (.iload 4, 2) := by decide +kernel
theorem dX2_sortIn_21 : decode cX2_sortIn 21 = .ok (.ifCond .lt 72, 3) := by decide +kernel
theorem dX2_sortIn_24 : decode cX2_sortIn 24 = .ok (.iload_n 3, 1) := by decide +kernel
theorem dX2_sortIn_25 : decode cX2_sortIn 25 = .ok (.iload_n 1, 1) := by decide +kernel
theorem dX2_sortIn_26 : decode cX2_sortIn 26 = .ok (.if_icmp .lt 67, 3) := by decide +kernel
theorem dX2_sortIn_29 : decode cX2_sortIn 29 = .ok (.iload_n 2, 1) := by decide +kernel
theorem dX2_sortIn_30 : decode cX2_sortIn 30 = .ok (.ifCond .lt 41, 3) := by decide +kernel
theorem dX2_sortIn_33 : decode cX2_sortIn 33 = .ok (.aload_n 0, 1) := by decide +kernel
theorem dX2_sortIn_34 : decode cX2_sortIn 34 = .ok (.aload_n 0, 1) := by decide +kernel
theorem dX2_sortIn_35 : decode cX2_sortIn 35 = .ok (.getfield 24, 3) := by decide +kernel
theorem dX2_sortIn_38 : decode cX2_sortIn 38 = .ok (.iload_n 3, 1) := by decide +kernel
theorem dX2_sortIn_39 : decode cX2_sortIn 39 = .ok (.iaload, 1) := by decide +kernel
theorem dX2_sortIn_40 : decode cX2_sortIn 40 = .ok (.aload_n 0, 1) := by decide +kernel
theorem dX2_sortIn_41 : decode cX2_sortIn 41 = .ok (.getfield 30, 3) := by decide +kernel
theorem dX2_sortIn_44 : decode cX2_sortIn 44 = .ok (.iload_n 2, 1) := by decide +kernel
theorem dX2_sortIn_45 : decode cX2_sortIn 45 = .ok (.iaload, 1) := by decide +kernel
theorem dX2_sortIn_46 : decode cX2_sortIn 46 = .ok (.invokevirtual 104, 3) := by decide +kernel
theorem dX2_sortIn_49 : decode cX2_sortIn 49 = .ok (.ifCond .eq 22, 3) := by decide +kernel
theorem dX2_sortIn_52 : decode cX2_sortIn 52 = .ok (.aload_n 0, 1) := by decide +kernel
theorem dX2_sortIn_53 : decode cX2_sortIn 53 = .ok (.getfield 30, 3) := by decide +kernel
theorem dX2_sortIn_56 : decode cX2_sortIn 56 = .ok (.iload 4, 2) := by decide +kernel
theorem dX2_sortIn_58 : decode cX2_sortIn 58 = .ok (.aload_n 0, 1) := by decide +kernel
theorem dX2_sortIn_59 : decode cX2_sortIn 59 = .ok (.getfield 30, 3) := by decide +kernel
theorem dX2_sortIn_62 : decode cX2_sortIn 62 = .ok (.iload_n 2, 1) := by decide +kernel
theorem dX2_sortIn_63 : decode cX2_sortIn 63 = .ok (.iaload, 1) := by decide +kernel
theorem dX2_sortIn_64 : decode cX2_sortIn 64 = .ok (.iastore, 1) := by decide +kernel
theorem dX2_sortIn_65 : decode cX2_sortIn 65 = .ok (.iinc 2 (-1), 3) := by decide +kernel
theorem dX2_sortIn_68 : decode cX2_sortIn 68 = .ok (.goto 19, 3) := by decide +kernel
theorem dX2_sortIn_71 : decode cX2_sortIn 71 = .ok (.aload_n 0, 1) := by decide +kernel
theorem dX2_sortIn_72 : decode cX2_sortIn 72 = .ok (.getfield 30, 3) := by decide +kernel
theorem dX2_sortIn_75 : decode cX2_sortIn 75 = .ok (.iload 4, 2) := by decide +kernel
theorem dX2_sortIn_77 : decode cX2_sortIn 77 = .ok (.aload_n 0, 1) := by decide +kernel
theorem dX2_sortIn_78 : decode cX2_sortIn 78 = .ok (.getfield 24, 3) := by decide +kernel
theorem dX2_sortIn_81 : decode cX2_sortIn 81 = .ok (.iload_n 3, 1) := by decide +kernel
theorem dX2_sortIn_82 : decode cX2_sortIn 82 = .ok (.iaload, 1) := by decide +kernel
theorem dX2_sortIn_83 : decode cX2_sortIn 83 = .ok (.iastore, 1) := by decide +kernel
theorem dX2_sortIn_84 : decode cX2_sortIn 84 = .ok (.iinc 3 (-1), 3) := by decide +kernel
theorem dX2_sortIn_87 : decode cX2_sortIn 87 = .ok (.iinc 4 (-1), 3) := by decide +kernel
theorem dX2_sortIn_90 : decode cX2_sortIn 90 = .ok (.goto (-71), 3) := by decide +kernel
theorem dX2_sortIn_93 : decode cX2_sortIn 93 = .ok (.iconst 0, 1) := by decide +kernel
theorem dX2_sortIn_94 : decode cX2_sortIn 94 = .ok (.istore 4, 2) := by decide +kernel
theorem dX2_sortIn_96 : decode cX2_sortIn 96 = .ok (.iload 4, 2) := by decide +kernel
theorem dX2_sortIn_98 : decode cX2_sortIn 98 = .ok (.aload_n 0, 1) := by decide +kernel
theorem dX2_sortIn_99 : decode cX2_sortIn 99 = .ok (.getfield 42, 3) := by decide +kernel
theorem dX2_sortIn_102 : decode cX2_sortIn 102 = .ok (.if_icmp .ge 23, 3) := by decide +kernel
theorem dX2_sortIn_105 : decode cX2_sortIn 105 = .ok (.aload_n 0, 1) := by decide +kernel
theorem dX2_sortIn_106 : decode cX2_sortIn 106 = .ok (.getfield 33, 3) := by decide +kernel
theorem dX2_sortIn_109 : decode cX2_sortIn 109 = .ok (.aload_n 0, 1) := by decide +kernel
theorem dX2_sortIn_110 : decode cX2_sortIn 110 = .ok (.getfield 30, 3) := by decide +kernel
theorem dX2_sortIn_113 : decode cX2_sortIn 113 = .ok (.iload 4, 2) := by decide +kernel
theorem dX2_sortIn_115 : decode cX2_sortIn 115 = .ok (.iaload, 1) := by decide +kernel
theorem dX2_sortIn_116 : decode cX2_sortIn 116 = .ok (.iload 4, 2) := by decide +kernel
theorem dX2_sortIn_118 : decode cX2_sortIn 118 = .ok (.iastore, 1) := by decide +kernel
theorem dX2_sortIn_119 : decode cX2_sortIn 119 = .ok (.iinc 4 1, 3) := by decide +kernel
theorem dX2_sortIn_122 : decode cX2_sortIn 122 = .ok (.goto (-26), 3) := by decide +kernel
theorem dX2_sortIn_125 : decode cX2_sortIn 125 = .ok (.return_, 1) := by decide +kernel
theorem dX2_isWrittenBefore_0 : decode cX2_isWrittenBefore 0 = .ok (.aload_n 0, 1) := by decide +kernel
theorem dX2_isWrittenBefore_1 : decode cX2_isWrittenBefore 1 = .ok (.getfield 15, 3) := by decide +kernel
theorem dX2_isWrittenBefore_4 : decode cX2_isWrittenBefore 4 = .ok (.iload_n 1, 1) := by decide +kernel
theorem dX2_isWrittenBefore_5 : decode cX2_isWrittenBefore 5 = .ok (.iaload, 1) := by decide +kernel
theorem dX2_isWrittenBefore_6 : decode cX2_isWrittenBefore 6 = .ok (.aload_n 0, 1) := by decide +kernel
theorem dX2_isWrittenBefore_7 : decode cX2_isWrittenBefore 7 = .ok (.getfield 15, 3) := by decide +kernel
theorem dX2_isWrittenBefore_10 : decode cX2_isWrittenBefore 10 = .ok (.iload_n 2, 1) := by decide +kernel
theorem dX2_isWrittenBefore_11 : decode cX2_isWrittenBefore 11 = .ok (.iaload, 1) := by decide +kernel
theorem dX2_isWrittenBefore_12 : decode cX2_isWrittenBefore 12 = .ok (.if_icmp .eq 24, 3) := by decide +kernel
theorem dX2_isWrittenBefore_15 : decode cX2_isWrittenBefore 15 = .ok (.aload_n 0, 1) := by decide +kernel
theorem dX2_isWrittenBefore_16 : decode cX2_isWrittenBefore 16 = .ok (.getfield 15, 3) := by decide +kernel
theorem dX2_isWrittenBefore_19 : decode cX2_isWrittenBefore 19 = .ok (.iload_n 1, 1) := by decide +kernel
theorem dX2_isWrittenBefore_20 : decode cX2_isWrittenBefore 20 = .ok (.iaload, 1) := by decide +kernel
theorem dX2_isWrittenBefore_21 : decode cX2_isWrittenBefore 21 = .ok (.aload_n 0, 1) := by decide +kernel
theorem dX2_isWrittenBefore_22 : decode cX2_isWrittenBefore 22 = .ok (.getfield 15, 3) := by decide +kernel
theorem dX2_isWrittenBefore_25 : decode cX2_isWrittenBefore 25 = .ok (.iload_n 2, 1) := by decide +kernel
theorem dX2_isWrittenBefore_26 : decode cX2_isWrittenBefore 26 = .ok (.iaload, 1) := by decide +kernel
theorem dX2_isWrittenBefore_27 : decode cX2_isWrittenBefore 27 = .ok (.if_icmp .ge 7, 3) := by decide +kernel
theorem dX2_isWrittenBefore_30 : decode cX2_isWrittenBefore 30 = .ok (.iconst 1, 1) := by decide +kernel
theorem dX2_isWrittenBefore_31 : decode cX2_isWrittenBefore 31 = .ok (.goto 4, 3) := by decide +kernel
theorem dX2_isWrittenBefore_34 : decode cX2_isWrittenBefore 34 = .ok (.iconst 0, 1) := by decide +kernel
theorem dX2_isWrittenBefore_35 : decode cX2_isWrittenBefore 35 = .ok (.ireturn, 1) := by decide +kernel
theorem dX2_isWrittenBefore_36 : decode cX2_isWrittenBefore 36 = .ok (.aload_n 0, 1) := by decide +kernel
theorem dX2_isWrittenBefore_37 : decode cX2_isWrittenBefore 37 = .ok (.getfield 18, 3) := by decide +kernel
theorem dX2_isWrittenBefore_40 : decode cX2_isWrittenBefore 40 = .ok (.iload_n 1, 1) := by decide +kernel
theorem dX2_isWrittenBefore_41 : decode cX2_isWrittenBefore 41 = .ok (.iaload, 1) := by decide +kernel
theorem dX2_isWrittenBefore_42 : decode cX2_isWrittenBefore 42 = .ok (.aload_n 0, 1) := by decide +kernel
theorem dX2_isWrittenBefore_43 : decode cX2_isWrittenBefore 43 = .ok (.getfield 18, 3) := by decide +kernel
theorem dX2_isWrittenBefore_46 : decode cX2_isWrittenBefore 46 = .ok (.iload_n 2, 1) := by decide +kernel
theorem dX2_isWrittenBefore_47 : decode cX2_isWrittenBefore 47 = .ok (.iaload, 1) := by decide +kernel
theorem dX2_isWrittenBefore_48 : decode cX2_isWrittenBefore 48 = .ok (.if_icmp .eq 34, 3) := by decide +kernel
theorem dX2_isWrittenBefore_51 : decode cX2_isWrittenBefore 51 = .ok (.aload_n 0, 1) := by decide +kernel
theorem dX2_isWrittenBefore_52 : decode cX2_isWrittenBefore 52 = .ok (.getfield 33, 3) := by decide +kernel
theorem dX2_isWrittenBefore_55 : decode cX2_isWrittenBefore 55 = .ok (.aload_n 0, 1) := by decide +kernel
theorem dX2_isWrittenBefore_56 : decode cX2_isWrittenBefore 56 = .ok (.getfield 18, 3) := by decide +kernel
theorem dX2_isWrittenBefore_59 : decode cX2_isWrittenBefore 59 = .ok (.iload_n 1, 1) := by decide +kernel
theorem dX2_isWrittenBefore_60 : decode cX2_isWrittenBefore 60 = .ok (.iaload, 1) := by decide +kernel
theorem dX2_isWrittenBefore_61 : decode cX2_isWrittenBefore 61 = .ok (.iaload, 1) := by decide +kernel
theorem dX2_isWrittenBefore_62 : decode cX2_isWrittenBefore 62 = .ok (.aload_n 0, 1) := by decide +kernel
theorem dX2_isWrittenBefore_63 : decode cX2_isWrittenBefore 63 = .ok (.getfield 33, 3) := by decide +kernel
theorem dX2_isWrittenBefore_66 : decode cX2_isWrittenBefore 66 = .ok (.aload_n 0, 1) := by decide +kernel
theorem dX2_isWrittenBefore_67 : decode cX2_isWrittenBefore 67 = .ok (.getfield 18, 3) := by decide +kernel
theorem dX2_isWrittenBefore_70 : decode cX2_isWrittenBefore 70 = .ok (.iload_n 2, 1) := by decide +kernel
theorem dX2_isWrittenBefore_71 : decode cX2_isWrittenBefore 71 = .ok (.iaload, 1) := by decide +kernel
theorem dX2_isWrittenBefore_72 : decode cX2_isWrittenBefore 72 = .ok (.iaload, 1) := by decide +kernel
theorem dX2_isWrittenBefore_73 : decode cX2_isWrittenBefore 73 = .ok (.if_icmp .ge 7, 3) := by decide +kernel
theorem dX2_isWrittenBefore_76 : decode cX2_isWrittenBefore 76 = .ok (.iconst 1, 1) := by decide +kernel
theorem dX2_isWrittenBefore_77 : decode cX2_isWrittenBefore 77 = .ok (.goto 4, 3) := by decide +kernel
theorem dX2_isWrittenBefore_80 : decode cX2_isWrittenBefore 80 = .ok (.iconst 0, 1) := by decide +kernel
theorem dX2_isWrittenBefore_81 : decode cX2_isWrittenBefore 81 = .ok (.ireturn, 1) := by decide +kernel
theorem dX2_isWrittenBefore_82 : decode cX2_isWrittenBefore 82 = .ok (.aload_n 0, 1) := by decide +kernel
theorem dX2_isWrittenBefore_83 : decode cX2_isWrittenBefore 83 = .ok (.getfield 33, 3) := by decide +kernel
theorem dX2_isWrittenBefore_86 : decode cX2_isWrittenBefore 86 = .ok (.aload_n 0, 1) := by decide +kernel
theorem dX2_isWrittenBefore_87 : decode cX2_isWrittenBefore 87 = .ok (.getfield 21, 3) := by decide +kernel
theorem dX2_isWrittenBefore_90 : decode cX2_isWrittenBefore 90 = .ok (.iload_n 1, 1) := by decide +kernel
theorem dX2_isWrittenBefore_91 : decode cX2_isWrittenBefore 91 = .ok (.iaload, 1) := by decide +kernel
theorem dX2_isWrittenBefore_92 : decode cX2_isWrittenBefore 92 = .ok (.iaload, 1) := by decide +kernel
theorem dX2_isWrittenBefore_93 : decode cX2_isWrittenBefore 93 = .ok (.aload_n 0, 1) := by decide +kernel
theorem dX2_isWrittenBefore_94 : decode cX2_isWrittenBefore 94 = .ok (.getfield 33, 3) := by decide +kernel
theorem dX2_isWrittenBefore_97 : decode cX2_isWrittenBefore 97 = .ok (.aload_n 0, 1) := by decide +kernel
theorem dX2_isWrittenBefore_98 : decode cX2_isWrittenBefore 98 = .ok (.getfield 21, 3) := by decide +kernel
theorem dX2_isWrittenBefore_101 : decode cX2_isWrittenBefore 101 = .ok (.iload_n 2, 1) := by decide +kernel
theorem dX2_isWrittenBefore_102 : decode cX2_isWrittenBefore 102 = .ok (.iaload, 1) := by decide +kernel
theorem dX2_isWrittenBefore_103 : decode cX2_isWrittenBefore 103 = .ok (.iaload, 1) := by decide +kernel
theorem dX2_isWrittenBefore_104 : decode cX2_isWrittenBefore 104 = .ok (.if_icmp .ge 7, 3) := by decide +kernel
theorem dX2_isWrittenBefore_107 : decode cX2_isWrittenBefore 107 = .ok (.iconst 1, 1) := by decide +kernel
theorem dX2_isWrittenBefore_108 : decode cX2_isWrittenBefore 108 = .ok (.goto 4, 3) := by decide +kernel
theorem dX2_isWrittenBefore_111 : decode cX2_isWrittenBefore 111 = .ok (.iconst 0, 1) := by decide +kernel
theorem dX2_isWrittenBefore_112 : decode cX2_isWrittenBefore 112 = .ok (.ireturn, 1) := by decide +kernel
