theorem dX6_init_0 : decode cX6_init 0 = .ok (.aload_n 0, 1) := by decide +kernel
theorem dX6_init_1 : decode cX6_init 1 = .ok (.invokespecial 1, 3) := by decide +kernel
theorem dX6_init_4 : decode cX6_init 4 = .ok (.aload_n 0, 1) := by decide +kernel
theorem dX6_init_5 : decode cX6_init 5 = .ok (.sipush 256, 3) := by decide +kernel
theorem dX6_init_8 : decode cX6_init 8 = .ok (.newarray .int, 2) := by decide +kernel
theorem dX6_init_10 : decode cX6_init 10 = .ok (.putfield 7, 3) := by decide +kernel
theorem dX6_init_13 : decode cX6_init 13 = .ok (.aload_n 0, 1) := by decide +kernel
theorem dX6_init_14 : decode cX6_init 14 = .ok (.iconst 2, 1) := by decide +kernel
theorem dX6_init_15 : decode cX6_init 15 = .ok (.newarray .int, 2) := by decide +kernel
theorem dX6_init_17 : decode cX6_init 17 = .ok (.putfield 13, 3) := by decide +kernel
theorem dX6_init_20 : decode cX6_init 20 = .ok (.aload_n 0, 1) := by decide +kernel
theorem dX6_init_21 : decode cX6_init 21 = .ok (.sipush 200, 3) := by decide +kernel
theorem dX6_init_24 : decode cX6_init 24 = .ok (.newarray .int, 2) := by decide +kernel
theorem dX6_init_26 : decode cX6_init 26 = .ok (.putfield 16, 3) := by decide +kernel
theorem dX6_init_29 : decode cX6_init 29 = .ok (.aload_n 0, 1) := by decide +kernel
theorem dX6_init_30 : decode cX6_init 30 = .ok (.sipush 200, 3) := by decide +kernel
theorem dX6_init_33 : decode cX6_init 33 = .ok (.newarray .int, 2) := by decide +kernel
theorem dX6_init_35 : decode cX6_init 35 = .ok (.putfield 19, 3) := by decide +kernel
theorem dX6_init_38 : decode cX6_init 38 = .ok (.aload_n 0, 1) := by decide +kernel
theorem dX6_init_39 : decode cX6_init 39 = .ok (.sipush 200, 3) := by decide +kernel
theorem dX6_init_42 : decode cX6_init 42 = .ok (.newarray .int, 2) := by decide +kernel
theorem dX6_init_44 : decode cX6_init 44 = .ok (.putfield 22, 3) := by decide +kernel
theorem dX6_init_47 : decode cX6_init 47 = .ok (.aload_n 0, 1) := by decide +kernel
theorem dX6_init_48 : decode cX6_init 48 = .ok (.sipush 256, 3) := by decide +kernel
theorem dX6_init_51 : decode cX6_init 51 = .ok (.newarray .int, 2) := by decide +kernel
theorem dX6_init_53 : decode cX6_init 53 = .ok (.putfield 25, 3) := by decide +kernel
theorem dX6_init_56 : decode cX6_init 56 = .ok (.aload_n 0, 1) := by decide +kernel
theorem dX6_init_57 : decode cX6_init 57 = .ok (.sipush 8192, 3) := by decide +kernel
theorem dX6_init_60 : decode cX6_init 60 = .ok (.newarray .byte, 2) := by decide +kernel
theorem dX6_init_62 : decode cX6_init 62 = .ok (.putfield 28, 3) := by decide +kernel
theorem dX6_init_65 : decode cX6_init 65 = .ok (.aload_n 0, 1) := by decide +kernel
theorem dX6_init_66 : decode cX6_init 66 = .ok (.bipush 32, 2) := by decide +kernel
theorem dX6_init_68 : decode cX6_init 68 = .ok (.newarray .byte, 2) := by decide +kernel
theorem dX6_init_70 : decode cX6_init 70 = .ok (.putfield 32, 3) := by decide +kernel
theorem dX6_init_73 : decode cX6_init 73 = .ok (.aload_n 0, 1) := by decide +kernel
theorem dX6_init_74 : decode cX6_init 74 = .ok (.sipush 3328, 3) := by decide +kernel
theorem dX6_init_77 : decode cX6_init 77 = .ok (.newarray .int, 2) := by decide +kernel
theorem dX6_init_79 : decode cX6_init 79 = .ok (.putfield 35, 3) := by decide +kernel
theorem dX6_init_82 : decode cX6_init 82 = .ok (.aload_n 0, 1) := by decide +kernel
theorem dX6_init_83 : decode cX6_init 83 = .ok (.bipush 32, 2) := by decide +kernel
theorem dX6_init_85 : decode cX6_init 85 = .ok (.newarray .int, 2) := by decide +kernel
theorem dX6_init_87 : decode cX6_init 87 = .ok (.putfield 38, 3) := by decide +kernel
theorem dX6_init_90 : decode cX6_init 90 = .ok (.return_, 1) := by decide +kernel
theorem dX6_within_0 : decode cX6_within 0 = .ok (.iload_n 0, 1) := by decide +kernel
theorem dX6_within_1 : decode cX6_within 1 = .ok (.iload_n 1, 1) := by decide +kernel
theorem dX6_within_2 : decode cX6_within 2 = .ok (.if_icmp .lt 12, 3) := by decide +kernel
theorem dX6_within_5 : decode cX6_within 5 = .ok (.iload_n 0, 1) := by decide +kernel
theorem dX6_within_6 : decode cX6_within 6 = .ok (.iload_n 2, 1) := by decide +kernel
theorem dX6_within_7 : decode cX6_within 7 = .ok (.if_icmp .gt 7, 3) := by decide +kernel
theorem dX6_within_10 : decode cX6_within 10 = .ok (.iconst 1, 1) := by decide +kernel
theorem dX6_within_11 : decode cX6_within 11 = .ok (.goto 4, 3) := by decide +kernel
theorem dX6_within_14 : decode cX6_within 14 = .ok (.iconst 0, 1) := by decide +kernel
theorem dX6_within_15 : decode cX6_within 15 = .ok (.ireturn, 1) := by decide +kernel
theorem dX6_children_0 : decode cX6_children 0 = .ok (.iload_n 0, 1) := by decide +kernel
theorem dX6_children_1 : decode cX6_children 1 = .ok (.iconst 3, 1) := by decide +kernel
theorem dX6_children_2 : decode cX6_children 2 = .ok (.if_icmp .ge 7, 3) := by decide +kernel
theorem dX6_children_5 : decode cX6_children 5 = .ok (.iconst 0, 1) := by decide +kernel
theorem dX6_children_6 : decode cX6_children 6 = .ok (.goto 13, 3) := by decide +kernel
theorem dX6_children_9 : decode cX6_children 9 = .ok (.iload_n 0, 1) := by decide +kernel
theorem dX6_children_10 : decode cX6_children 10 = .ok (.iconst 5, 1) := by decide +kernel
theorem dX6_children_11 : decode cX6_children 11 = .ok (.if_icmp .ge 7, 3) := by decide +kernel
theorem dX6_children_14 : decode cX6_children 14 = .ok (.iconst 1, 1) := by decide +kernel
theorem dX6_children_15 : decode cX6_children 15 = .ok (.goto 4, 3) := by decide +kernel
theorem dX6_children_18 : decode cX6_children 18 = .ok (.iconst 2, 1) := by decide +kernel
theorem dX6_children_19 : decode cX6_children 19 = .ok (.ireturn, 1) := by decide +kernel
set_option maxRecDepth 20000 in
theorem ggX6_at_X6_within : GoodIn wsX6_at wsX6_within := goodIn_r _ [4] (by decide +kernel) (by decide +kernel)
set_option maxRecDepth 20000 in
theorem gX6_at_X6_within : GoodIn wsX6_at (va_wsS RX6 41 yX6_within wsX6_within) := goodIn_app (goodIn_of _ (by decide +kernel)) ggX6_at_X6_within
set_option maxRecDepth 20000 in
theorem ggX6_at_X6_children : GoodIn wsX6_at wsX6_children := goodIn_r _ [7] (by decide +kernel) (by decide +kernel)
set_option maxRecDepth 20000 in
theorem gX6_at_X6_children : GoodIn wsX6_at (va_wsS RX6 45 yX6_children wsX6_children) := goodIn_app (goodIn_of _ (by decide +kernel)) ggX6_at_X6_children
theorem dX6_at_0 : decode cX6_at 0 = .ok (.iload_n 0, 1) := by decide +kernel
theorem dX6_at_1 : decode cX6_at 1 = .ok (.iconst 0, 1) := by decide +kernel
theorem dX6_at_2 : decode cX6_at 2 = .ok (.iconst 1, 1) := by decide +kernel
theorem dX6_at_3 : decode cX6_at 3 = .ok (.invokestatic 41, 3) := by decide +kernel
theorem dX6_at_6 : decode cX6_at 6 = .ok (.ifCond .eq 13, 3) := by decide +kernel
theorem dX6_at_9 : decode cX6_at 9 = .ok (.iload_n 1, 1) := by decide +kernel
theorem dX6_at_10 : decode cX6_at 10 = .ok (.iconst 0, 1) := by decide +kernel
theorem dX6_at_11 : decode cX6_at 11 = .ok (.bipush 7, 2) := by decide +kernel
theorem dX6_at_13 : decode cX6_at 13 = .ok (.invokestatic 41, 3) := by decide +kernel
theorem dX6_at_16 : decode cX6_at 16 = .ok (.ifCond .ne 5, 3) := by decide +kernel
theorem dX6_at_19 : decode cX6_at 19 = .ok (.iconst (-1), 1) := by decide +kernel
theorem dX6_at_20 : decode cX6_at 20 = .ok (.ireturn, 1) := by decide +kernel
theorem dX6_at_21 : decode cX6_at 21 = .ok (.iload_n 1, 1) := by decide +kernel
theorem dX6_at_22 : decode cX6_at 22 = .ok (.invokestatic 45, 3) := by decide +kernel
theorem dX6_at_25 : decode cX6_at 25 = .ok (.ifCond .le 7, 3) := by decide +kernel
theorem dX6_at_28 : decode cX6_at 28 = .ok (.iload_n 2, 1) := by decide +kernel
theorem dX6_at_29 : decode cX6_at 29 = .ok (.goto 4, 3) := by decide +kernel
theorem dX6_at_32 : decode cX6_at 32 = .ok (.iconst 0, 1) := by decide +kernel
theorem dX6_at_33 : decode cX6_at 33 = .ok (.istore 4, 2) := by decide +kernel
theorem dX6_at_35 : decode cX6_at 35 = .ok (.iload_n 1, 1) := by decide +kernel
theorem dX6_at_36 : decode cX6_at 36 = .ok (.invokestatic 45, 3) := by decide +kernel
theorem dX6_at_39 : decode cX6_at 39 = .ok (.iconst 1, 1) := by decide +kernel
theorem dX6_at_40 : decode cX6_at 40 = .ok (.if_icmp .le 7, 3) := by decide +kernel
theorem dX6_at_43 : decode cX6_at 43 = .ok (.iload_n 3, 1) := by decide +kernel
theorem dX6_at_44 : decode cX6_at 44 = .ok (.goto 4, 3) := by decide +kernel
theorem dX6_at_47 : decode cX6_at 47 = .ok (.iconst 0, 1) := by decide +kernel
theorem dX6_at_48 : decode cX6_at 48 = .ok (.istore 5, 2) := by decide +kernel
theorem dX6_at_50 : decode cX6_at 50 = .ok (.iload 4, 2) := by decide +kernel
theorem dX6_at_52 : decode cX6_at 52 = .ok (.iconst 0, 1) := by decide +kernel
theorem dX6_at_53 : decode cX6_at 53 = .ok (.iconst 3, 1) := by decide +kernel
theorem dX6_at_54 : decode cX6_at 54 = .ok (.invokestatic 41, 3) := by decide +kernel
theorem dX6_at_57 : decode cX6_at 57 = .ok (.ifCond .eq 34, 3) := by decide +kernel
theorem dX6_at_60 : decode cX6_at 60 = .ok (.iload 5, 2) := by decide +kernel
theorem dX6_at_62 : decode cX6_at 62 = .ok (.iconst 0, 1) := by decide +kernel
theorem dX6_at_63 : decode cX6_at 63 = .ok (.iconst 3, 1) := by decide +kernel
theorem dX6_at_64 : decode cX6_at 64 = .ok (.invokestatic 41, 3) := by decide +kernel
theorem dX6_at_67 : decode cX6_at 67 = .ok (.ifCond .eq 24, 3) := by decide +kernel
theorem dX6_at_70 : decode cX6_at 70 = .ok (.sipush 128, 3) := by decide +kernel
theorem dX6_at_73 : decode cX6_at 73 = .ok (.iload_n 0, 1) := by decide +kernel
theorem dX6_at_74 : decode cX6_at 74 = .ok (.imul, 1) := by decide +kernel
theorem dX6_at_75 : decode cX6_at 75 = .ok (.bipush 16, 2) := by decide +kernel
theorem dX6_at_77 : decode cX6_at 77 = .ok (.iload_n 1, 1) := by decide +kernel
theorem dX6_at_78 : decode cX6_at 78 = .ok (.imul, 1) := by decide +kernel
theorem dX6_at_79 : decode cX6_at 79 = .ok (.iadd, 1) := by decide +kernel
theorem dX6_at_80 : decode cX6_at 80 = .ok (.iconst 4, 1) := by decide +kernel
theorem dX6_at_81 : decode cX6_at 81 = .ok (.iload 4, 2) := by decide +kernel
theorem dX6_at_83 : decode cX6_at 83 = .ok (.imul, 1) := by decide +kernel
theorem dX6_at_84 : decode cX6_at 84 = .ok (.iadd, 1) := by decide +kernel
theorem dX6_at_85 : decode cX6_at 85 = .ok (.iload 5, 2) := by decide +kernel
theorem dX6_at_87 : decode cX6_at 87 = .ok (.iadd, 1) := by decide +kernel
theorem dX6_at_88 : decode cX6_at 88 = .ok (.goto 4, 3) := by decide +kernel
theorem dX6_at_91 : decode cX6_at 91 = .ok (.iconst (-1), 1) := by decide +kernel
theorem dX6_at_92 : decode cX6_at 92 = .ok (.ireturn, 1) := by decide +kernel
set_option maxRecDepth 20000 in
theorem ggX6_rule_X6_at : GoodIn wsX6_rule wsX6_at := goodIn_r _ [5, 6, 7, 4, 8, 9, 10, 11] (by decide +kernel) (by decide +kernel)
set_option maxRecDepth 20000 in
theorem gX6_rule_X6_at : GoodIn wsX6_rule (va_wsS RX6 49 yX6_at wsX6_at) := goodIn_app (goodIn_of _ (by decide +kernel)) ggX6_rule_X6_at
set_option maxRecDepth 20000 in
theorem ggX6_rule_X6_within : GoodIn wsX6_rule wsX6_within := goodIn_r _ [8] (by decide +kernel) (by decide +kernel)
set_option maxRecDepth 20000 in
theorem gX6_rule_X6_within : GoodIn wsX6_rule (va_wsS RX6 41 yX6_within wsX6_within) := goodIn_app (goodIn_of _ (by decide +kernel)) ggX6_rule_X6_within
theorem dX6_rule_0 : decode cX6_rule 0 = .ok (.iload_n 1, 1) := by decide +kernel
theorem dX6_rule_1 : decode cX6_rule 1 = .ok (.iload_n 2, 1) := by decide +kernel
theorem dX6_rule_2 : decode cX6_rule 2 = .ok (.iload_n 3, 1) := by decide +kernel
theorem dX6_rule_3 : decode cX6_rule 3 = .ok (.iload 4, 2) := by decide +kernel
theorem dX6_rule_5 : decode cX6_rule 5 = .ok (.invokestatic 49, 3) := by decide +kernel
theorem dX6_rule_8 : decode cX6_rule 8 = .ok (.istore 6, 2) := by decide +kernel
theorem dX6_rule_10 : decode cX6_rule 10 = .ok (.iload 6, 2) := by decide +kernel
theorem dX6_rule_12 : decode cX6_rule 12 = .ok (.ifCond .lt 29, 3) := by decide +kernel
theorem dX6_rule_15 : decode cX6_rule 15 = .ok (.iload 5, 2) := by decide +kernel
theorem dX6_rule_17 : decode cX6_rule 17 = .ok (.iconst 0, 1) := by decide +kernel
theorem dX6_rule_18 : decode cX6_rule 18 = .ok (.iconst 3, 1) := by decide +kernel
theorem dX6_rule_19 : decode cX6_rule 19 = .ok (.invokestatic 41, 3) := by decide +kernel
theorem dX6_rule_22 : decode cX6_rule 22 = .ok (.ifCond .eq 19, 3) := by decide +kernel
theorem dX6_rule_25 : decode cX6_rule 25 = .ok (.aload_n 0, 1) := by decide +kernel
theorem dX6_rule_26 : decode cX6_rule 26 = .ok (.getfield 7, 3) := by decide +kernel
theorem dX6_rule_29 : decode cX6_rule 29 = .ok (.iload 6, 2) := by decide +kernel
theorem dX6_rule_31 : decode cX6_rule 31 = .ok (.iaload, 1) := by decide +kernel
theorem dX6_rule_32 : decode cX6_rule 32 = .ok (.iload 5, 2) := by decide +kernel
theorem dX6_rule_34 : decode cX6_rule 34 = .ok (.ishr, 1) := by decide +kernel
theorem dX6_rule_35 : decode cX6_rule 35 = .ok (.iconst 1, 1) := by decide +kernel
theorem dX6_rule_36 : decode cX6_rule 36 = .ok (.iand, 1) := by decide +kernel
theorem dX6_rule_37 : decode cX6_rule 37 = .ok (.iconst 1, 1) := by decide +kernel
theorem dX6_rule_38 : decode cX6_rule 38 = .ok (.if_icmp .ne 5, 3) := by decide +kernel
theorem dX6_rule_41 : decode cX6_rule 41 = .ok (.iconst 0, 1) := by decide +kernel
theorem dX6_rule_42 : decode cX6_rule 42 = .ok (.ireturn, 1) := by decide +kernel
theorem dX6_rule_43 : decode cX6_rule 43 = .ok (.aload_n 0, 1) := by decide +kernel
theorem dX6_rule_44 : decode cX6_rule 44 = .ok (.getfield 7, 3) := by decide +kernel
theorem dX6_rule_47 : decode cX6_rule 47 = .ok (.iload 6, 2) := by decide +kernel
theorem dX6_rule_49 : decode cX6_rule 49 = .ok (.aload_n 0, 1) := by decide +kernel
theorem dX6_rule_50 : decode cX6_rule 50 = .ok (.getfield 7, 3) := by decide +kernel
theorem dX6_rule_53 : decode cX6_rule 53 = .ok (.iload 6, 2) := by decide +kernel
theorem dX6_rule_55 : decode cX6_rule 55 = .ok (.iaload, 1) := by decide +kernel
theorem dX6_rule_56 : decode cX6_rule 56 = .ok (.iconst 1, 1) := by decide +kernel
theorem dX6_rule_57 : decode cX6_rule 57 = .ok (.iload 5, 2) := by decide +kernel
theorem dX6_rule_59 : decode cX6_rule 59 = .ok (.ishl, 1) := by decide +kernel
theorem dX6_rule_60 : decode cX6_rule 60 = .ok (.ior, 1) := by decide +kernel
theorem dX6_rule_61 : decode cX6_rule 61 = .ok (.iastore, 1) := by decide +kernel
theorem dX6_rule_62 : decode cX6_rule 62 = .ok (.iconst 1, 1) := by decide +kernel
theorem dX6_rule_63 : decode cX6_rule 63 = .ok (.ireturn, 1) := by decide +kernel
set_option maxRecDepth 20000 in
theorem ggX6_drop_X6_at : GoodIn wsX6_drop wsX6_at := goodIn_r _ [5, 6, 7, 4, 8, 9, 10, 11] (by decide +kernel) (by decide +kernel)
set_option maxRecDepth 20000 in
theorem gX6_drop_X6_at : GoodIn wsX6_drop (va_wsS RX6 49 yX6_at wsX6_at) := goodIn_app (goodIn_of _ (by decide +kernel)) ggX6_drop_X6_at
set_option maxRecDepth 20000 in
theorem ggX6_drop_X6_within : GoodIn wsX6_drop wsX6_within := goodIn_r _ [8] (by decide +kernel) (by decide +kernel)
set_option maxRecDepth 20000 in
theorem gX6_drop_X6_within : GoodIn wsX6_drop (va_wsS RX6 41 yX6_within wsX6_within) := goodIn_app (goodIn_of _ (by decide +kernel)) ggX6_drop_X6_within
theorem dX6_drop_0 : decode cX6_drop 0 = .ok (.iload_n 1, 1) := by decide +kernel
theorem dX6_drop_1 : decode cX6_drop 1 = .ok (.iload_n 2, 1) := by decide +kernel
theorem dX6_drop_2 : decode cX6_drop 2 = .ok (.iload_n 3, 1) := by decide +kernel
theorem dX6_drop_3 : decode cX6_drop 3 = .ok (.iload 4, 2) := by decide +kernel
theorem dX6_drop_5 : decode cX6_drop 5 = .ok (.invokestatic 49, 3) := by decide +kernel
theorem dX6_drop_8 : decode cX6_drop 8 = .ok (.istore 6, 2) := by decide +kernel
theorem dX6_drop_10 : decode cX6_drop 10 = .ok (.iload 6, 2) := by decide +kernel
theorem dX6_drop_12 : decode cX6_drop 12 = .ok (.ifCond .lt 28, 3) := by decide +kernel
theorem dX6_drop_15 : decode cX6_drop 15 = .ok (.iload 5, 2) := by decide +kernel
theorem dX6_drop_17 : decode cX6_drop 17 = .ok (.iconst 0, 1) := by decide +kernel
theorem dX6_drop_18 : decode cX6_drop 18 = .ok (.iconst 3, 1) := by decide +kernel
theorem dX6_drop_19 : decode cX6_drop 19 = .ok (.invokestatic 41, 3) := by decide +kernel
theorem dX6_drop_22 : decode cX6_drop 22 = .ok (.ifCond .eq 18, 3) := by decide +kernel
theorem dX6_drop_25 : decode cX6_drop 25 = .ok (.aload_n 0, 1) := by decide +kernel
theorem dX6_drop_26 : decode cX6_drop 26 = .ok (.getfield 7, 3) := by decide +kernel
theorem dX6_drop_29 : decode cX6_drop 29 = .ok (.iload 6, 2) := by decide +kernel
theorem dX6_drop_31 : decode cX6_drop 31 = .ok (.iaload, 1) := by decide +kernel
theorem dX6_drop_32 : decode cX6_drop 32 = .ok (.iload 5, 2) := by decide +kernel
theorem dX6_drop_34 : decode cX6_drop 34 = .ok (.ishr, 1) := by decide +kernel
theorem dX6_drop_35 : decode cX6_drop 35 = .ok (.iconst 1, 1) := by decide +kernel
theorem dX6_drop_36 : decode cX6_drop 36 = .ok (.iand, 1) := by decide +kernel
theorem dX6_drop_37 : decode cX6_drop 37 = .ok (.ifCond .ne 5, 3) := by decide +kernel
theorem dX6_drop_40 : decode cX6_drop 40 = .ok (.iconst 0, 1) := by decide +kernel
theorem dX6_drop_41 : decode cX6_drop 41 = .ok (.ireturn, 1) := by decide +kernel
theorem dX6_drop_42 : decode cX6_drop 42 = .ok (.aload_n 0, 1) := by decide +kernel
theorem dX6_drop_43 : decode cX6_drop 43 = .ok (.getfield 7, 3) := by decide +kernel
theorem dX6_drop_46 : decode cX6_drop 46 = .ok (.iload 6, 2) := by decide +kernel
theorem dX6_drop_48 : decode cX6_drop 48 = .ok (.aload_n 0, 1) := by decide +kernel
theorem dX6_drop_49 : decode cX6_drop 49 = .ok (.getfield 7, 3) := by decide +kernel
theorem dX6_drop_52 : decode cX6_drop 52 = .ok (.iload 6, 2) := by decide +kernel
theorem dX6_drop_54 : decode cX6_drop 54 = .ok (.iaload, 1) := by decide +kernel
theorem dX6_drop_55 : decode cX6_drop 55 = .ok (.iconst 1, 1) := by decide +kernel
theorem dX6_drop_56 : decode cX6_drop 56 = .ok (.iload 5, 2) := by decide +kernel
theorem dX6_drop_58 : decode cX6_drop 58 = .ok (.ishl, 1) := by decide +kernel
theorem dX6_drop_59 : decode cX6_drop 59 = .ok (.ixor, 1) := by decide +kernel
theorem dX6_drop_60 : decode cX6_drop 60 = .ok (.iastore, 1) := by decide +kernel
theorem dX6_drop_61 : decode cX6_drop 61 = .ok (.iconst 1, 1) := by decide +kernel
theorem dX6_drop_62 : decode cX6_drop 62 = .ok (.ireturn, 1) := by decide +kernel
set_option maxRecDepth 20000 in
theorem ggX6_isRule_X6_at : GoodIn wsX6_isRule wsX6_at := goodIn_r _ [5, 6, 7, 4, 8, 9, 10, 11] (by decide +kernel) (by decide +kernel)
set_option maxRecDepth 20000 in
theorem gX6_isRule_X6_at : GoodIn wsX6_isRule (va_wsS RX6 49 yX6_at wsX6_at) := goodIn_app (goodIn_of _ (by decide +kernel)) ggX6_isRule_X6_at
set_option maxRecDepth 20000 in
theorem ggX6_isRule_X6_within : GoodIn wsX6_isRule wsX6_within := goodIn_r _ [8] (by decide +kernel) (by decide +kernel)
set_option maxRecDepth 20000 in
theorem gX6_isRule_X6_within : GoodIn wsX6_isRule (va_wsS RX6 41 yX6_within wsX6_within) := goodIn_app (goodIn_of _ (by decide +kernel)) ggX6_isRule_X6_within
theorem dX6_isRule_0 : decode cX6_isRule 0 = .ok (.iload_n 1, 1) := by decide +kernel
theorem dX6_isRule_1 : decode cX6_isRule 1 = .ok (.iload_n 2, 1) := by decide +kernel
theorem dX6_isRule_2 : decode cX6_isRule 2 = .ok (.iload_n 3, 1) := by decide +kernel
theorem dX6_isRule_3 : decode cX6_isRule 3 = .ok (.iload 4, 2) := by decide +kernel
theorem dX6_isRule_5 : decode cX6_isRule 5 = .ok (.invokestatic 49, 3) := by decide +kernel
theorem dX6_isRule_8 : decode cX6_isRule 8 = .ok (.istore 6, 2) := by decide +kernel
theorem dX6_isRule_10 : decode cX6_isRule 10 = .ok (.iload 6, 2) := by decide +kernel
theorem dX6_isRule_12 : decode cX6_isRule 12 = .ok (.ifCond .lt 33, 3) := by decide +kernel
theorem dX6_isRule_15 : decode cX6_isRule 15 = .ok (.iload 5, 2) := by decide +kernel
theorem dX6_isRule_17 : decode cX6_isRule 17 = .ok (.iconst 0, 1) := by decide +kernel
theorem dX6_isRule_18 : decode cX6_isRule 18 = .ok (.iconst 3, 1) := by decide +kernel
theorem dX6_isRule_19 : decode cX6_isRule 19 = .ok (.invokestatic 41, 3) := by decide +kernel
theorem dX6_isRule_22 : decode cX6_isRule 22 = .ok (.ifCond .eq 23, 3) := by decide +kernel
theorem dX6_isRule_25 : decode cX6_isRule 25 = .ok (.aload_n 0, 1) := by decide +kernel
theorem dX6_isRule_26 : decode cX6_isRule 26 = .ok (.getfield 7, 3) := by decide +kernel
theorem dX6_isRule_29 : decode cX6_isRule 29 = .ok (.iload 6, 2) := by decide +kernel
theorem dX6_isRule_31 : decode cX6_isRule 31 = .ok (.iaload, 1) := by decide +kernel
theorem dX6_isRule_32 : decode cX6_isRule 32 = .ok (.iload 5, 2) := by decide +kernel
theorem dX6_isRule_34 : decode cX6_isRule 34 = .ok (.ishr, 1) := by decide +kernel
theorem dX6_isRule_35 : decode cX6_isRule 35 = .ok (.iconst 1, 1) := by decide +kernel
theorem dX6_isRule_36 : decode cX6_isRule 36 = .ok (.iand, 1) := by decide +kernel
theorem dX6_isRule_37 : decode cX6_isRule 37 = .ok (.iconst 1, 1) := by decide +kernel
theorem dX6_isRule_38 : decode cX6_isRule 38 = .ok (.if_icmp .ne 7, 3) := by decide +kernel
theorem dX6_isRule_41 : decode cX6_isRule 41 = .ok (.iconst 1, 1) := by decide +kernel
theorem dX6_isRule_42 : decode cX6_isRule 42 = .ok (.goto 4, 3) := by decide +kernel
theorem dX6_isRule_45 : decode cX6_isRule 45 = .ok (.iconst 0, 1) := by decide +kernel
theorem dX6_isRule_46 : decode cX6_isRule 46 = .ok (.ireturn, 1) := by decide +kernel
set_option maxRecDepth 20000 in
theorem ggX6_goal_X6_within : GoodIn wsX6_goal wsX6_within := goodIn_r _ [5] (by decide +kernel) (by decide +kernel)
set_option maxRecDepth 20000 in
theorem gX6_goal_X6_within : GoodIn wsX6_goal (va_wsS RX6 41 yX6_within wsX6_within) := goodIn_app (goodIn_of _ (by decide +kernel)) ggX6_goal_X6_within
theorem dX6_goal_0 : decode cX6_goal 0 = .ok (.iload_n 1, 1) := by decide +kernel
theorem dX6_goal_1 : decode cX6_goal 1 = .ok (.iconst 0, 1) := by decide +kernel
theorem dX6_goal_2 : decode cX6_goal 2 = .ok (.iconst 1, 1) := by decide +kernel
theorem dX6_goal_3 : decode cX6_goal 3 = .ok (.invokestatic 41, 3) := by decide +kernel
theorem dX6_goal_6 : decode cX6_goal 6 = .ok (.ifCond .eq 35, 3) := by decide +kernel
theorem dX6_goal_9 : decode cX6_goal 9 = .ok (.iload_n 2, 1) := by decide +kernel
theorem dX6_goal_10 : decode cX6_goal 10 = .ok (.iconst 0, 1) := by decide +kernel
theorem dX6_goal_11 : decode cX6_goal 11 = .ok (.iconst 3, 1) := by decide +kernel
theorem dX6_goal_12 : decode cX6_goal 12 = .ok (.invokestatic 41, 3) := by decide +kernel
theorem dX6_goal_15 : decode cX6_goal 15 = .ok (.ifCond .eq 26, 3) := by decide +kernel
theorem dX6_goal_18 : decode cX6_goal 18 = .ok (.aload_n 0, 1) := by decide +kernel
theorem dX6_goal_19 : decode cX6_goal 19 = .ok (.getfield 13, 3) := by decide +kernel
theorem dX6_goal_22 : decode cX6_goal 22 = .ok (.iload_n 1, 1) := by decide +kernel
theorem dX6_goal_23 : decode cX6_goal 23 = .ok (.iaload, 1) := by decide +kernel
theorem dX6_goal_24 : decode cX6_goal 24 = .ok (.iload_n 2, 1) := by decide +kernel
theorem dX6_goal_25 : decode cX6_goal 25 = .ok (.ishr, 1) := by decide +kernel
theorem dX6_goal_26 : decode cX6_goal 26 = .ok (.iconst 1, 1) := by decide +kernel
theorem dX6_goal_27 : decode cX6_goal 27 = .ok (.iand, 1) := by decide +kernel
theorem dX6_goal_28 : decode cX6_goal 28 = .ok (.iconst 1, 1) := by decide +kernel
theorem dX6_goal_29 : decode cX6_goal 29 = .ok (.if_icmp .ne 7, 3) := by decide +kernel
theorem dX6_goal_32 : decode cX6_goal 32 = .ok (.iconst 1, 1) := by decide +kernel
theorem dX6_goal_33 : decode cX6_goal 33 = .ok (.goto 4, 3) := by decide +kernel
theorem dX6_goal_36 : decode cX6_goal 36 = .ok (.iconst 0, 1) := by decide +kernel
theorem dX6_goal_37 : decode cX6_goal 37 = .ok (.iload_n 3, 1) := by decide +kernel
theorem dX6_goal_38 : decode cX6_goal 38 = .ok (.if_icmp .ne 5, 3) := by decide +kernel
theorem dX6_goal_41 : decode cX6_goal 41 = .ok (.iconst 0, 1) := by decide +kernel
theorem dX6_goal_42 : decode cX6_goal 42 = .ok (.ireturn, 1) := by decide +kernel
theorem dX6_goal_43 : decode cX6_goal 43 = .ok (.aload_n 0, 1) := by decide +kernel
theorem dX6_goal_44 : decode cX6_goal 44 = .ok (.getfield 13, 3) := by decide +kernel
theorem dX6_goal_47 : decode cX6_goal 47 = .ok (.iload_n 1, 1) := by decide +kernel
theorem dX6_goal_48 : decode cX6_goal 48 = .ok (.aload_n 0, 1) := by decide +kernel
theorem dX6_goal_49 : decode cX6_goal 49 = .ok (.getfield 13, 3) := by decide +kernel
theorem dX6_goal_52 : decode cX6_goal 52 = .ok (.iload_n 1, 1) := by decide +kernel
theorem dX6_goal_53 : decode cX6_goal 53 = .ok (.iaload, 1) := by decide +kernel
theorem dX6_goal_54 : decode cX6_goal 54 = .ok (.iconst 1, 1) := by decide +kernel
theorem dX6_goal_55 : decode cX6_goal 55 = .ok (.iload_n 2, 1) := by decide +kernel
theorem dX6_goal_56 : decode cX6_goal 56 = .ok (.ishl, 1) := by decide +kernel
theorem dX6_goal_57 : decode cX6_goal 57 = .ok (.ixor, 1) := by decide +kernel
theorem dX6_goal_58 : decode cX6_goal 58 = .ok (.iastore, 1) := by decide +kernel
theorem dX6_goal_59 : decode cX6_goal 59 = .ok (.iconst 1, 1) := by decide +kernel
theorem dX6_goal_60 : decode cX6_goal 60 = .ok (.ireturn, 1) := by decide +kernel
set_option maxRecDepth 20000 in
theorem ggX6_clear_X6_within : GoodIn wsX6_clear wsX6_within := goodIn_r _ [6] (by decide +kernel) (by decide +kernel)
set_option maxRecDepth 20000 in
theorem gX6_clear_X6_within : GoodIn wsX6_clear (va_wsS RX6 41 yX6_within wsX6_within) := goodIn_app (goodIn_of _ (by decide +kernel)) ggX6_clear_X6_within
theorem dX6_clear_0 : decode cX6_clear 0 = .ok (.iload_n 1, 1) := by decide +kernel
theorem dX6_clear_1 : decode cX6_clear 1 = .ok (.iconst 0, 1) := by decide +kernel
theorem dX6_clear_2 : decode cX6_clear 2 = .ok (.iconst 1, 1) := by decide +kernel
theorem dX6_clear_3 : decode cX6_clear 3 = .ok (.invokestatic 41, 3) := by decide +kernel
theorem dX6_clear_6 : decode cX6_clear 6 = .ok (.ifCond .ne 5, 3) := by decide +kernel
theorem dX6_clear_9 : decode cX6_clear 9 = .ok (.iconst 0, 1) := by decide +kernel
theorem dX6_clear_10 : decode cX6_clear 10 = .ok (.ireturn, 1) := by decide +kernel
theorem dX6_clear_11 : decode cX6_clear 11 = .ok (.iconst 0, 1) := by decide +kernel
theorem dX6_clear_12 : decode cX6_clear 12 = .ok (.istore_n 2, 1) := by decide +kernel
theorem dX6_clear_13 : decode cX6_clear 13 = .ok (.iload_n 2, 1) := by decide +kernel
theorem dX6_clear_14 : decode cX6_clear 14 = .ok (.sipush 128, 3) := by decide +kernel
theorem dX6_clear_17 : decode cX6_clear 17 = .ok (.if_icmp .ge 22, 3) := by decide +kernel
theorem dX6_clear_20 : decode cX6_clear 20 = .ok (.aload_n 0, 1) := by decide +kernel
theorem dX6_clear_21 : decode cX6_clear 21 = .ok (.getfield 7, 3) := by decide +kernel
theorem dX6_clear_24 : decode cX6_clear 24 = .ok (.sipush 128, 3) := by decide +kernel
theorem dX6_clear_27 : decode cX6_clear 27 = .ok (.iload_n 1, 1) := by decide +kernel
theorem dX6_clear_28 : decode cX6_clear 28 = .ok (.imul, 1) := by decide +kernel
theorem dX6_clear_29 : decode cX6_clear 29 = .ok (.iload_n 2, 1) := by decide +kernel
theorem dX6_clear_30 : decode cX6_clear 30 = .ok (.iadd, 1) := by decide +kernel
theorem dX6_clear_31 : decode cX6_clear 31 = .ok (.iconst 0, 1) := by decide +kernel
theorem dX6_clear_32 : decode cX6_clear 32 = .ok (.iastore, 1) := by decide +kernel
theorem dX6_clear_33 : decode cX6_clear 33 = .ok (.iinc 2 1, 3) := by decide +kernel
theorem dX6_clear_36 : decode cX6_clear 36 = .ok (.goto (-23), 3) := by decide +kernel
theorem dX6_clear_39 : decode cX6_clear 39 = .ok (.aload_n 0, 1) := by decide +kernel
theorem dX6_clear_40 : decode cX6_clear 40 = .ok (.getfield 13, 3) := by decide +kernel
theorem dX6_clear_43 : decode cX6_clear 43 = .ok (.iload_n 1, 1) := by decide +kernel
theorem dX6_clear_44 : decode cX6_clear 44 = .ok (.iconst 0, 1) := by decide +kernel
theorem dX6_clear_45 : decode cX6_clear 45 = .ok (.iastore, 1) := by decide +kernel
theorem dX6_clear_46 : decode cX6_clear 46 = .ok (.iconst 1, 1) := by decide +kernel
theorem dX6_clear_47 : decode cX6_clear 47 = .ok (.ireturn, 1) := by decide +kernel
set_option maxRecDepth 20000 in
theorem ggX6_node_X6_within : GoodIn wsX6_node wsX6_within := goodIn_r _ [8] (by decide +kernel) (by decide +kernel)
set_option maxRecDepth 20000 in
theorem gX6_node_X6_within : GoodIn wsX6_node (va_wsS RX6 41 yX6_within wsX6_within) := goodIn_app (goodIn_of _ (by decide +kernel)) ggX6_node_X6_within
set_option maxRecDepth 20000 in
theorem ggX6_node_X6_children : GoodIn wsX6_node wsX6_children := goodIn_r _ [11] (by decide +kernel) (by decide +kernel)
set_option maxRecDepth 20000 in
theorem gX6_node_X6_children : GoodIn wsX6_node (va_wsS RX6 45 yX6_children wsX6_children) := goodIn_app (goodIn_of _ (by decide +kernel)) ggX6_node_X6_children
theorem dX6_node_0 : decode cX6_node 0 = .ok (.iload_n 1, 1) := by decide +kernel
theorem dX6_node_1 : decode cX6_node 1 = .ok (.iconst 0, 1) := by decide +kernel
theorem dX6_node_2 : decode cX6_node 2 = .ok (.bipush 7, 2) := by decide +kernel
theorem dX6_node_4 : decode cX6_node 4 = .ok (.invokestatic 41, 3) := by decide +kernel
theorem dX6_node_7 : decode cX6_node 7 = .ok (.ifCond .ne 5, 3) := by decide +kernel
theorem dX6_node_10 : decode cX6_node 10 = .ok (.iconst (-1), 1) := by decide +kernel
theorem dX6_node_11 : decode cX6_node 11 = .ok (.ireturn, 1) := by decide +kernel
theorem dX6_node_12 : decode cX6_node 12 = .ok (.iload_n 1, 1) := by decide +kernel
theorem dX6_node_13 : decode cX6_node 13 = .ok (.invokestatic 45, 3) := by decide +kernel
theorem dX6_node_16 : decode cX6_node 16 = .ok (.istore 4, 2) := by decide +kernel
theorem dX6_node_18 : decode cX6_node 18 = .ok (.iload 4, 2) := by decide +kernel
theorem dX6_node_20 : decode cX6_node 20 = .ok (.ifCond .le 17, 3) := by decide +kernel
theorem dX6_node_23 : decode cX6_node 23 = .ok (.iload_n 2, 1) := by decide +kernel
theorem dX6_node_24 : decode cX6_node 24 = .ok (.iconst 0, 1) := by decide +kernel
theorem dX6_node_25 : decode cX6_node 25 = .ok (.aload_n 0, 1) := by decide +kernel
theorem dX6_node_26 : decode cX6_node 26 = .ok (.getfield 53, 3) := by decide +kernel
theorem dX6_node_29 : decode cX6_node 29 = .ok (.iconst 1, 1) := by decide +kernel
theorem dX6_node_30 : decode cX6_node 30 = .ok (.isub, 1) := by decide +kernel
theorem dX6_node_31 : decode cX6_node 31 = .ok (.invokestatic 41, 3) := by decide +kernel
theorem dX6_node_34 : decode cX6_node 34 = .ok (.ifCond .eq 23, 3) := by decide +kernel
theorem dX6_node_37 : decode cX6_node 37 = .ok (.iload 4, 2) := by decide +kernel
theorem dX6_node_39 : decode cX6_node 39 = .ok (.iconst 1, 1) := by decide +kernel
theorem dX6_node_40 : decode cX6_node 40 = .ok (.if_icmp .le 20, 3) := by decide +kernel
theorem dX6_node_43 : decode cX6_node 43 = .ok (.iload_n 3, 1) := by decide +kernel
theorem dX6_node_44 : decode cX6_node 44 = .ok (.iconst 0, 1) := by decide +kernel
theorem dX6_node_45 : decode cX6_node 45 = .ok (.aload_n 0, 1) := by decide +kernel
theorem dX6_node_46 : decode cX6_node 46 = .ok (.getfield 53, 3) := by decide +kernel
theorem dX6_node_49 : decode cX6_node 49 = .ok (.iconst 1, 1) := by decide +kernel
theorem dX6_node_50 : decode cX6_node 50 = .ok (.isub, 1) := by decide +kernel
theorem dX6_node_51 : decode cX6_node 51 = .ok (.invokestatic 41, 3) := by decide +kernel
theorem dX6_node_54 : decode cX6_node 54 = .ok (.ifCond .ne 6, 3) := by decide +kernel
theorem dX6_node_57 : decode cX6_node 57 = .ok (.bipush (-2), 2) := by decide +kernel
theorem dX6_node_59 : decode cX6_node 59 = .ok (.ireturn, 1) := by decide +kernel
theorem dX6_node_60 : decode cX6_node 60 = .ok (.aload_n 0, 1) := by decide +kernel
theorem dX6_node_61 : decode cX6_node 61 = .ok (.getfield 53, 3) := by decide +kernel
theorem dX6_node_64 : decode cX6_node 64 = .ok (.sipush 200, 3) := by decide +kernel
theorem dX6_node_67 : decode cX6_node 67 = .ok (.if_icmp .ne 6, 3) := by decide +kernel
theorem dX6_node_70 : decode cX6_node 70 = .ok (.bipush (-3), 2) := by decide +kernel
theorem dX6_node_72 : decode cX6_node 72 = .ok (.ireturn, 1) := by decide +kernel
theorem dX6_node_73 : decode cX6_node 73 = .ok (.aload_n 0, 1) := by decide +kernel
theorem dX6_node_74 : decode cX6_node 74 = .ok (.getfield 16, 3) := by decide +kernel
theorem dX6_node_77 : decode cX6_node 77 = .ok (.aload_n 0, 1) := by decide +kernel
theorem dX6_node_78 : decode cX6_node 78 = .ok (.getfield 53, 3) := by decide +kernel
theorem dX6_node_81 : decode cX6_node 81 = .ok (.iload_n 1, 1) := by decide +kernel
theorem dX6_node_82 : decode cX6_node 82 = .ok (.iastore, 1) := by decide +kernel
theorem dX6_node_83 : decode cX6_node 83 = .ok (.aload_n 0, 1) := by decide +kernel
theorem dX6_node_84 : decode cX6_node 84 = .ok (.getfield 19, 3) := by decide +kernel
theorem dX6_node_87 : decode cX6_node 87 = .ok (.aload_n 0, 1) := by decide +kernel
theorem dX6_node_88 : decode cX6_node 88 = .ok (.getfield 53, 3) := by decide +kernel
theorem dX6_node_91 : decode cX6_node 91 = .ok (.iload 4, 2) := by decide +kernel
theorem dX6_node_93 : decode cX6_node 93 = .ok (.ifCond .le 7, 3) := by decide +kernel
theorem dX6_node_96 : decode cX6_node 96 = .ok (.iload_n 2, 1) := by decide +kernel
theorem dX6_node_97 : decode cX6_node 97 = .ok (.goto 4, 3) := by decide +kernel
theorem dX6_node_100 : decode cX6_node 100 = .ok (.iconst (-1), 1) := by decide +kernel
theorem dX6_node_101 : decode cX6_node 101 = .ok (.iastore, 1) := by decide +kernel
theorem dX6_node_102 : decode cX6_node 102 = .ok (.aload_n 0, 1) := by decide +kernel
theorem dX6_node_103 : decode cX6_node 103 = .ok (.getfield 22, 3) := by decide +kernel
theorem dX6_node_106 : decode cX6_node 106 = .ok (.aload_n 0, 1) := by decide +kernel
theorem dX6_node_107 : decode cX6_node 107 = .ok (.getfield 53, 3) := by decide +kernel
theorem dX6_node_110 : decode cX6_node 110 = .ok (.iload 4, 2) := by decide +kernel
theorem dX6_node_112 : decode cX6_node 112 = .ok (.iconst 1, 1) := by decide +kernel
theorem dX6_node_113 : decode cX6_node 113 = .ok (.if_icmp .le 7, 3) := by decide +kernel
theorem dX6_node_116 : decode cX6_node 116 = .ok (.iload_n 3, 1) := by decide +kernel
theorem dX6_node_117 : decode cX6_node 117 = .ok (.goto 4, 3) := by decide +kernel
theorem dX6_node_120 : decode cX6_node 120 = .ok (.iconst (-1), 1) := by decide +kernel
theorem dX6_node_121 : decode cX6_node 121 = .ok (.iastore, 1) := by decide +kernel
theorem dX6_node_122 : decode cX6_node 122 = .ok (.aload_n 0, 1) := by decide +kernel
theorem dX6_node_123 : decode cX6_node 123 = .ok (.dup, 1) := by decide +kernel
theorem dX6_node_124 : decode cX6_node 124 = .ok (.getfield 53, 3) := by decide +kernel
theorem dX6_node_127 : decode cX6_node 127 = .ok (.iconst 1, 1) := by decide +kernel
theorem dX6_node_128 : decode cX6_node 128 = .ok (.iadd, 1) := by decide +kernel
theorem dX6_node_129 : decode cX6_node 129 = .ok (.putfield 53, 3) := by decide +kernel
theorem dX6_node_132 : decode cX6_node 132 = .ok (.aload_n 0, 1) := by decide +kernel
theorem dX6_node_133 : decode cX6_node 133 = .ok (.getfield 53, 3) := by decide +kernel
theorem dX6_node_136 : decode cX6_node 136 = .ok (.iconst 1, 1) := by decide +kernel
theorem dX6_node_137 : decode cX6_node 137 = .ok (.isub, 1) := by decide +kernel
theorem dX6_node_138 : decode cX6_node 138 = .ok (.ireturn, 1) := by decide +kernel
theorem dX6_nodes_0 : decode cX6_nodes 0 = .ok (.aload_n 0, 1) := by decide +kernel
theorem dX6_nodes_1 : decode cX6_nodes 1 = .ok (.getfield 53, 3) := by decide +kernel
theorem dX6_nodes_4 : decode cX6_nodes 4 = .ok (.ireturn, 1) := by decide +kernel
set_option maxRecDepth 20000 in
theorem ggX6_part_X6_within : GoodIn wsX6_part wsX6_within := goodIn_r _ [8] (by decide +kernel) (by decide +kernel)
set_option maxRecDepth 20000 in
theorem gX6_part_X6_within : GoodIn wsX6_part (va_wsS RX6 41 yX6_within wsX6_within) := goodIn_app (goodIn_of _ (by decide +kernel)) ggX6_part_X6_within
theorem dX6_part_0 : decode cX6_part 0 = .ok (.iload_n 1, 1) := by decide +kernel
theorem dX6_part_1 : decode cX6_part 1 = .ok (.iconst 0, 1) := by decide +kernel
theorem dX6_part_2 : decode cX6_part 2 = .ok (.aload_n 0, 1) := by decide +kernel
theorem dX6_part_3 : decode cX6_part 3 = .ok (.getfield 53, 3) := by decide +kernel
theorem dX6_part_6 : decode cX6_part 6 = .ok (.iconst 1, 1) := by decide +kernel
theorem dX6_part_7 : decode cX6_part 7 = .ok (.isub, 1) := by decide +kernel
theorem dX6_part_8 : decode cX6_part 8 = .ok (.invokestatic 41, 3) := by decide +kernel
theorem dX6_part_11 : decode cX6_part 11 = .ok (.ifCond .eq 12, 3) := by decide +kernel
theorem dX6_part_14 : decode cX6_part 14 = .ok (.iload_n 2, 1) := by decide +kernel
theorem dX6_part_15 : decode cX6_part 15 = .ok (.iconst 0, 1) := by decide +kernel
theorem dX6_part_16 : decode cX6_part 16 = .ok (.iconst 2, 1) := by decide +kernel
theorem dX6_part_17 : decode cX6_part 17 = .ok (.invokestatic 41, 3) := by decide +kernel
theorem dX6_part_20 : decode cX6_part 20 = .ok (.ifCond .ne 6, 3) := by decide +kernel
theorem dX6_part_23 : decode cX6_part 23 = .ok (.bipush (-2), 2) := by decide +kernel
theorem dX6_part_25 : decode cX6_part 25 = .ok (.ireturn, 1) := by decide +kernel
theorem dX6_part_26 : decode cX6_part 26 = .ok (.iload_n 2, 1) := by decide +kernel
theorem dX6_part_27 : decode cX6_part 27 = .ok (.ifCond .ne 12, 3) := by decide +kernel
theorem dX6_part_30 : decode cX6_part 30 = .ok (.aload_n 0, 1) := by decide +kernel
theorem dX6_part_31 : decode cX6_part 31 = .ok (.getfield 16, 3) := by decide +kernel
theorem dX6_part_34 : decode cX6_part 34 = .ok (.iload_n 1, 1) := by decide +kernel
theorem dX6_part_35 : decode cX6_part 35 = .ok (.iaload, 1) := by decide +kernel
theorem dX6_part_36 : decode cX6_part 36 = .ok (.goto 23, 3) := by decide +kernel
theorem dX6_part_39 : decode cX6_part 39 = .ok (.iload_n 2, 1) := by decide +kernel
theorem dX6_part_40 : decode cX6_part 40 = .ok (.iconst 1, 1) := by decide +kernel
theorem dX6_part_41 : decode cX6_part 41 = .ok (.if_icmp .ne 12, 3) := by decide +kernel
theorem dX6_part_44 : decode cX6_part 44 = .ok (.aload_n 0, 1) := by decide +kernel
theorem dX6_part_45 : decode cX6_part 45 = .ok (.getfield 19, 3) := by decide +kernel
theorem dX6_part_48 : decode cX6_part 48 = .ok (.iload_n 1, 1) := by decide +kernel
theorem dX6_part_49 : decode cX6_part 49 = .ok (.iaload, 1) := by decide +kernel
theorem dX6_part_50 : decode cX6_part 50 = .ok (.goto 9, 3) := by decide +kernel
theorem dX6_part_53 : decode cX6_part 53 = .ok (.aload_n 0, 1) := by decide +kernel
theorem dX6_part_54 : decode cX6_part 54 = .ok (.getfield 22, 3) := by decide +kernel
theorem dX6_part_57 : decode cX6_part 57 = .ok (.iload_n 1, 1) := by decide +kernel
theorem dX6_part_58 : decode cX6_part 58 = .ok (.iaload, 1) := by decide +kernel
theorem dX6_part_59 : decode cX6_part 59 = .ok (.ireturn, 1) := by decide +kernel
theorem dX6_over_0 : decode cX6_over 0 = .ok (.iconst 0, 1) := by decide +kernel
theorem dX6_over_1 : decode cX6_over 1 = .ok (.istore 5, 2) := by decide +kernel
theorem dX6_over_3 : decode cX6_over 3 = .ok (.iconst 0, 1) := by decide +kernel
theorem dX6_over_4 : decode cX6_over 4 = .ok (.istore 6, 2) := by decide +kernel
theorem dX6_over_6 : decode cX6_over 6 = .ok (.iload 6, 2) := by decide +kernel
theorem dX6_over_8 : decode cX6_over 8 = .ok (.iconst 4, 1) := by decide +kernel
theorem dX6_over_9 : decode cX6_over 9 = .ok (.if_icmp .ge 73, 3) := by decide +kernel
theorem dX6_over_12 : decode cX6_over 12 = .ok (.iconst 0, 1) := by decide +kernel
theorem dX6_over_13 : decode cX6_over 13 = .ok (.istore 7, 2) := by decide +kernel
theorem dX6_over_15 : decode cX6_over 15 = .ok (.iload 7, 2) := by decide +kernel
theorem dX6_over_17 : decode cX6_over 17 = .ok (.iconst 4, 1) := by decide +kernel
theorem dX6_over_18 : decode cX6_over 18 = .ok (.if_icmp .ge 58, 3) := by decide +kernel
theorem dX6_over_21 : decode cX6_over 21 = .ok (.iload_n 3, 1) := by decide +kernel
theorem dX6_over_22 : decode cX6_over 22 = .ok (.iload 6, 2) := by decide +kernel
theorem dX6_over_24 : decode cX6_over 24 = .ok (.ishr, 1) := by decide +kernel
theorem dX6_over_25 : decode cX6_over 25 = .ok (.iconst 1, 1) := by decide +kernel
theorem dX6_over_26 : decode cX6_over 26 = .ok (.iand, 1) := by decide +kernel
theorem dX6_over_27 : decode cX6_over 27 = .ok (.iconst 1, 1) := by decide +kernel
theorem dX6_over_28 : decode cX6_over 28 = .ok (.if_icmp .ne 42, 3) := by decide +kernel
theorem dX6_over_31 : decode cX6_over 31 = .ok (.iload 4, 2) := by decide +kernel
theorem dX6_over_33 : decode cX6_over 33 = .ok (.iload 7, 2) := by decide +kernel
theorem dX6_over_35 : decode cX6_over 35 = .ok (.ishr, 1) := by decide +kernel
theorem dX6_over_36 : decode cX6_over 36 = .ok (.iconst 1, 1) := by decide +kernel
theorem dX6_over_37 : decode cX6_over 37 = .ok (.iand, 1) := by decide +kernel
theorem dX6_over_38 : decode cX6_over 38 = .ok (.iconst 1, 1) := by decide +kernel
theorem dX6_over_39 : decode cX6_over 39 = .ok (.if_icmp .ne 31, 3) := by decide +kernel
theorem dX6_over_42 : decode cX6_over 42 = .ok (.iload 5, 2) := by decide +kernel
theorem dX6_over_44 : decode cX6_over 44 = .ok (.aload_n 0, 1) := by decide +kernel
theorem dX6_over_45 : decode cX6_over 45 = .ok (.getfield 7, 3) := by decide +kernel
theorem dX6_over_48 : decode cX6_over 48 = .ok (.sipush 128, 3) := by decide +kernel
theorem dX6_over_51 : decode cX6_over 51 = .ok (.iload_n 1, 1) := by decide +kernel
theorem dX6_over_52 : decode cX6_over 52 = .ok (.imul, 1) := by decide +kernel
theorem dX6_over_53 : decode cX6_over 53 = .ok (.bipush 16, 2) := by decide +kernel
theorem dX6_over_55 : decode cX6_over 55 = .ok (.iload_n 2, 1) := by decide +kernel
theorem dX6_over_56 : decode cX6_over 56 = .ok (.imul, 1) := by decide +kernel
theorem dX6_over_57 : decode cX6_over 57 = .ok (.iadd, 1) := by decide +kernel
theorem dX6_over_58 : decode cX6_over 58 = .ok (.iconst 4, 1) := by decide +kernel
theorem dX6_over_59 : decode cX6_over 59 = .ok (.iload 6, 2) := by decide +kernel
theorem dX6_over_61 : decode cX6_over 61 = .ok (.imul, 1) := by decide +kernel
theorem dX6_over_62 : decode cX6_over 62 = .ok (.iadd, 1) := by decide +kernel
theorem dX6_over_63 : decode cX6_over 63 = .ok (.iload 7, 2) := by decide +kernel
theorem dX6_over_65 : decode cX6_over 65 = .ok (.iadd, 1) := by decide +kernel
theorem dX6_over_66 : decode cX6_over 66 = .ok (.iaload, 1) := by decide +kernel
theorem dX6_over_67 : decode cX6_over 67 = .ok (.ior, 1) := by decide +kernel
theorem dX6_over_68 : decode cX6_over 68 = .ok (.istore 5, 2) := by decide +kernel
theorem dX6_over_70 : decode cX6_over 70 = .ok (.iinc 7 1, 3) := by decide +kernel
theorem dX6_over_73 : decode cX6_over 73 = .ok (.goto (-58), 3) := by decide +kernel
theorem dX6_over_76 : decode cX6_over 76 = .ok (.iinc 6 1, 3) := by decide +kernel
theorem dX6_over_79 : decode cX6_over 79 = .ok (.goto (-73), 3) := by decide +kernel
theorem dX6_over_82 : decode cX6_over 82 = .ok (.iload 5, 2) := by decide +kernel
theorem dX6_over_84 : decode cX6_over 84 = .ok (.ireturn, 1) := by decide +kernel
set_option maxRecDepth 20000 in
theorem ggX6_reach_X6_over : GoodIn wsX6_reach wsX6_over := goodIn_r _ [9, 10, 11, 12, 13, 14, 15, 16, 17, 18, 19, 20, 21] (by decide +kernel) (by decide +kernel)
set_option maxRecDepth 20000 in
theorem gX6_reach_X6_over : GoodIn wsX6_reach (wsV RX6 57 RX6 yX6_over wsX6_over) := goodIn_app (goodIn_of _ (by decide +kernel)) ggX6_reach_X6_over
theorem dX6_reach_0 : decode cX6_reach 0 = .ok (.iconst 0, 1) := by decide +kernel
theorem dX6_reach_1 : decode cX6_reach 1 = .ok (.istore_n 3, 1) := by decide +kernel
theorem dX6_reach_2 : decode cX6_reach 2 = .ok (.iload_n 3, 1) := by decide +kernel
theorem dX6_reach_3 : decode cX6_reach 3 = .ok (.iload_n 2, 1) := by decide +kernel
theorem dX6_reach_4 : decode cX6_reach 4 = .ok (.if_icmp .gt 82, 3) := by decide +kernel
theorem dX6_reach_7 : decode cX6_reach 7 = .ok (.aload_n 0, 1) := by decide +kernel
theorem dX6_reach_8 : decode cX6_reach 8 = .ok (.getfield 19, 3) := by decide +kernel
theorem dX6_reach_11 : decode cX6_reach 11 = .ok (.iload_n 3, 1) := by decide +kernel
theorem dX6_reach_12 : decode cX6_reach 12 = .ok (.iaload, 1) := by decide +kernel
theorem dX6_reach_13 : decode cX6_reach 13 = .ok (.ifCond .ge 7, 3) := by decide +kernel
theorem dX6_reach_16 : decode cX6_reach 16 = .ok (.iconst 1, 1) := by decide +kernel
theorem dX6_reach_17 : decode cX6_reach 17 = .ok (.goto 14, 3) := by decide +kernel
theorem dX6_reach_20 : decode cX6_reach 20 = .ok (.aload_n 0, 1) := by decide +kernel
theorem dX6_reach_21 : decode cX6_reach 21 = .ok (.getfield 35, 3) := by decide +kernel
theorem dX6_reach_24 : decode cX6_reach 24 = .ok (.aload_n 0, 1) := by decide +kernel
theorem dX6_reach_25 : decode cX6_reach 25 = .ok (.getfield 19, 3) := by decide +kernel
theorem dX6_reach_28 : decode cX6_reach 28 = .ok (.iload_n 3, 1) := by decide +kernel
theorem dX6_reach_29 : decode cX6_reach 29 = .ok (.iaload, 1) := by decide +kernel
theorem dX6_reach_30 : decode cX6_reach 30 = .ok (.iaload, 1) := by decide +kernel
theorem dX6_reach_31 : decode cX6_reach 31 = .ok (.istore 4, 2) := by decide +kernel
theorem dX6_reach_33 : decode cX6_reach 33 = .ok (.aload_n 0, 1) := by decide +kernel
theorem dX6_reach_34 : decode cX6_reach 34 = .ok (.getfield 22, 3) := by decide +kernel
theorem dX6_reach_37 : decode cX6_reach 37 = .ok (.iload_n 3, 1) := by decide +kernel
theorem dX6_reach_38 : decode cX6_reach 38 = .ok (.iaload, 1) := by decide +kernel
theorem dX6_reach_39 : decode cX6_reach 39 = .ok (.ifCond .ge 7, 3) := by decide +kernel
theorem dX6_reach_42 : decode cX6_reach 42 = .ok (.iconst 1, 1) := by decide +kernel
theorem dX6_reach_43 : decode cX6_reach 43 = .ok (.goto 14, 3) := by decide +kernel
theorem dX6_reach_46 : decode cX6_reach 46 = .ok (.aload_n 0, 1) := by decide +kernel
theorem dX6_reach_47 : decode cX6_reach 47 = .ok (.getfield 35, 3) := by decide +kernel
theorem dX6_reach_50 : decode cX6_reach 50 = .ok (.aload_n 0, 1) := by decide +kernel
theorem dX6_reach_51 : decode cX6_reach 51 = .ok (.getfield 22, 3) := by decide +kernel
theorem dX6_reach_54 : decode cX6_reach 54 = .ok (.iload_n 3, 1) := by decide +kernel
theorem dX6_reach_55 : decode cX6_reach 55 = .ok (.iaload, 1) := by decide +kernel
theorem dX6_reach_56 : decode cX6_reach 56 = .ok (.iaload, 1) := by decide +kernel
theorem dX6_reach_57 : decode cX6_reach 57 = .ok (.istore 5, 2) := by decide +kernel
theorem dX6_reach_59 : decode cX6_reach 59 = .ok (.aload_n 0, 1) := by decide +kernel
theorem dX6_reach_60 : decode cX6_reach 60 = .ok (.getfield 35, 3) := by decide +kernel
theorem dX6_reach_63 : decode cX6_reach 63 = .ok (.iload_n 3, 1) := by decide +kernel
theorem dX6_reach_64 : decode cX6_reach 64 = .ok (.aload_n 0, 1) := by decide +kernel
theorem dX6_reach_65 : decode cX6_reach 65 = .ok (.iload_n 1, 1) := by decide +kernel
theorem dX6_reach_66 : decode cX6_reach 66 = .ok (.aload_n 0, 1) := by decide +kernel
theorem dX6_reach_67 : decode cX6_reach 67 = .ok (.getfield 16, 3) := by decide +kernel
theorem dX6_reach_70 : decode cX6_reach 70 = .ok (.iload_n 3, 1) := by decide +kernel
theorem dX6_reach_71 : decode cX6_reach 71 = .ok (.iaload, 1) := by decide +kernel
theorem dX6_reach_72 : decode cX6_reach 72 = .ok (.iload 4, 2) := by decide +kernel
theorem dX6_reach_74 : decode cX6_reach 74 = .ok (.iload 5, 2) := by decide +kernel
theorem dX6_reach_76 : decode cX6_reach 76 = .ok (.invokevirtual 57, 3) := by decide +kernel
theorem dX6_reach_79 : decode cX6_reach 79 = .ok (.iastore, 1) := by decide +kernel
theorem dX6_reach_80 : decode cX6_reach 80 = .ok (.iinc 3 1, 3) := by decide +kernel
theorem dX6_reach_83 : decode cX6_reach 83 = .ok (.goto (-81), 3) := by decide +kernel
theorem dX6_reach_86 : decode cX6_reach 86 = .ok (.aload_n 0, 1) := by decide +kernel
theorem dX6_reach_87 : decode cX6_reach 87 = .ok (.getfield 35, 3) := by decide +kernel
theorem dX6_reach_90 : decode cX6_reach 90 = .ok (.iload_n 2, 1) := by decide +kernel
theorem dX6_reach_91 : decode cX6_reach 91 = .ok (.iaload, 1) := by decide +kernel
theorem dX6_reach_92 : decode cX6_reach 92 = .ok (.ireturn, 1) := by decide +kernel
set_option maxRecDepth 20000 in
theorem ggX6_reached_X6_within : GoodIn wsX6_reached wsX6_within := goodIn_r _ [5] (by decide +kernel) (by decide +kernel)
set_option maxRecDepth 20000 in
theorem gX6_reached_X6_within : GoodIn wsX6_reached (va_wsS RX6 41 yX6_within wsX6_within) := goodIn_app (goodIn_of _ (by decide +kernel)) ggX6_reached_X6_within
set_option maxRecDepth 20000 in
theorem ggX6_reached_X6_reach : GoodIn wsX6_reached wsX6_reach := goodIn_r _ [9, 10, 11, 12, 13, 14, 15, 16, 4, 17, 18, 19, 20, 21, 22, 23, 24, 25, 26, 27, 28, 29] (by decide +kernel) (by decide +kernel)
set_option maxRecDepth 20000 in
theorem gX6_reached_X6_reach : GoodIn wsX6_reached (wsV RX6 60 RX6 yX6_reach wsX6_reach) := goodIn_app (goodIn_of _ (by decide +kernel)) ggX6_reached_X6_reach
theorem dX6_reached_0 : decode cX6_reached 0 = .ok (.iload_n 1, 1) := by decide +kernel
theorem dX6_reached_1 : decode cX6_reached 1 = .ok (.iconst 0, 1) := by decide +kernel
theorem dX6_reached_2 : decode cX6_reached 2 = .ok (.iconst 1, 1) := by decide +kernel
theorem dX6_reached_3 : decode cX6_reached 3 = .ok (.invokestatic 41, 3) := by decide +kernel
theorem dX6_reached_6 : decode cX6_reached 6 = .ok (.ifCond .eq 26, 3) := by decide +kernel
theorem dX6_reached_9 : decode cX6_reached 9 = .ok (.iload_n 2, 1) := by decide +kernel
theorem dX6_reached_10 : decode cX6_reached 10 = .ok (.iconst 0, 1) := by decide +kernel
theorem dX6_reached_11 : decode cX6_reached 11 = .ok (.aload_n 0, 1) := by decide +kernel
theorem dX6_reached_12 : decode cX6_reached 12 = .ok (.getfield 53, 3) := by decide +kernel
theorem dX6_reached_15 : decode cX6_reached 15 = .ok (.iconst 1, 1) := by decide +kernel
theorem dX6_reached_16 : decode cX6_reached 16 = .ok (.isub, 1) := by decide +kernel
theorem dX6_reached_17 : decode cX6_reached 17 = .ok (.invokestatic 41, 3) := by decide +kernel
theorem dX6_reached_20 : decode cX6_reached 20 = .ok (.ifCond .eq 12, 3) := by decide +kernel
theorem dX6_reached_23 : decode cX6_reached 23 = .ok (.aload_n 0, 1) := by decide +kernel
theorem dX6_reached_24 : decode cX6_reached 24 = .ok (.iload_n 1, 1) := by decide +kernel
theorem dX6_reached_25 : decode cX6_reached 25 = .ok (.iload_n 2, 1) := by decide +kernel
theorem dX6_reached_26 : decode cX6_reached 26 = .ok (.invokevirtual 60, 3) := by decide +kernel
theorem dX6_reached_29 : decode cX6_reached 29 = .ok (.goto 4, 3) := by decide +kernel
theorem dX6_reached_32 : decode cX6_reached 32 = .ok (.iconst (-1), 1) := by decide +kernel
theorem dX6_reached_33 : decode cX6_reached 33 = .ok (.ireturn, 1) := by decide +kernel
theorem dX6_placeOf_0 : decode cX6_placeOf 0 = .ok (.iload_n 1, 1) := by decide +kernel
theorem dX6_placeOf_1 : decode cX6_placeOf 1 = .ok (.bipush 15, 2) := by decide +kernel
theorem dX6_placeOf_3 : decode cX6_placeOf 3 = .ok (.iand, 1) := by decide +kernel
theorem dX6_placeOf_4 : decode cX6_placeOf 4 = .ok (.aload_n 0, 1) := by decide +kernel
theorem dX6_placeOf_5 : decode cX6_placeOf 5 = .ok (.getfield 13, 3) := by decide +kernel
theorem dX6_placeOf_8 : decode cX6_placeOf 8 = .ok (.iconst 0, 1) := by decide +kernel
theorem dX6_placeOf_9 : decode cX6_placeOf 9 = .ok (.iaload, 1) := by decide +kernel
theorem dX6_placeOf_10 : decode cX6_placeOf 10 = .ok (.iand, 1) := by decide +kernel
theorem dX6_placeOf_11 : decode cX6_placeOf 11 = .ok (.ifCond .eq 7, 3) := by decide +kernel
theorem dX6_placeOf_14 : decode cX6_placeOf 14 = .ok (.iconst 2, 1) := by decide +kernel
theorem dX6_placeOf_15 : decode cX6_placeOf 15 = .ok (.goto 4, 3) := by decide +kernel
theorem dX6_placeOf_18 : decode cX6_placeOf 18 = .ok (.iconst 0, 1) := by decide +kernel
theorem dX6_placeOf_19 : decode cX6_placeOf 19 = .ok (.iload_n 1, 1) := by decide +kernel
theorem dX6_placeOf_20 : decode cX6_placeOf 20 = .ok (.iconst 4, 1) := by decide +kernel
theorem dX6_placeOf_21 : decode cX6_placeOf 21 = .ok (.ishr, 1) := by decide +kernel
theorem dX6_placeOf_22 : decode cX6_placeOf 22 = .ok (.aload_n 0, 1) := by decide +kernel
theorem dX6_placeOf_23 : decode cX6_placeOf 23 = .ok (.getfield 13, 3) := by decide +kernel
theorem dX6_placeOf_26 : decode cX6_placeOf 26 = .ok (.iconst 1, 1) := by decide +kernel
theorem dX6_placeOf_27 : decode cX6_placeOf 27 = .ok (.iaload, 1) := by decide +kernel
theorem dX6_placeOf_28 : decode cX6_placeOf 28 = .ok (.iand, 1) := by decide +kernel
theorem dX6_placeOf_29 : decode cX6_placeOf 29 = .ok (.ifCond .eq 7, 3) := by decide +kernel
theorem dX6_placeOf_32 : decode cX6_placeOf 32 = .ok (.iconst 1, 1) := by decide +kernel
theorem dX6_placeOf_33 : decode cX6_placeOf 33 = .ok (.goto 4, 3) := by decide +kernel
theorem dX6_placeOf_36 : decode cX6_placeOf 36 = .ok (.iconst 0, 1) := by decide +kernel
theorem dX6_placeOf_37 : decode cX6_placeOf 37 = .ok (.iadd, 1) := by decide +kernel
theorem dX6_placeOf_38 : decode cX6_placeOf 38 = .ok (.ireturn, 1) := by decide +kernel
set_option maxRecDepth 20000 in
theorem ggX6_place_X6_within : GoodIn wsX6_place wsX6_within := goodIn_r _ [5] (by decide +kernel) (by decide +kernel)
set_option maxRecDepth 20000 in
theorem gX6_place_X6_within : GoodIn wsX6_place (va_wsS RX6 41 yX6_within wsX6_within) := goodIn_app (goodIn_of _ (by decide +kernel)) ggX6_place_X6_within
set_option maxRecDepth 20000 in
theorem ggX6_place_X6_reach : GoodIn wsX6_place wsX6_reach := goodIn_r _ [9, 10, 11, 12, 13, 14, 15, 16, 4, 17, 18, 24, 25, 26, 27, 28, 29, 30, 31, 32, 33, 34] (by decide +kernel) (by decide +kernel)
set_option maxRecDepth 20000 in
theorem gX6_place_X6_reach : GoodIn wsX6_place (wsV RX6 60 RX6 yX6_reach wsX6_reach) := goodIn_app (goodIn_of _ (by decide +kernel)) ggX6_place_X6_reach
set_option maxRecDepth 20000 in
theorem ggX6_place_X6_placeOf : GoodIn wsX6_place wsX6_placeOf := goodIn_r _ [22, 23, 24, 25, 26, 27, 28, 29, 30, 31, 32, 33, 34] (by decide +kernel) (by decide +kernel)
set_option maxRecDepth 20000 in
theorem gX6_place_X6_placeOf : GoodIn wsX6_place (wsV RX6 64 RX6 yX6_placeOf wsX6_placeOf) := goodIn_app (goodIn_of _ (by decide +kernel)) ggX6_place_X6_placeOf
theorem dX6_place_0 : decode cX6_place 0 = .ok (.iload_n 1, 1) := by decide +kernel
theorem dX6_place_1 : decode cX6_place 1 = .ok (.iconst 0, 1) := by decide +kernel
theorem dX6_place_2 : decode cX6_place 2 = .ok (.aload_n 0, 1) := by decide +kernel
theorem dX6_place_3 : decode cX6_place 3 = .ok (.getfield 53, 3) := by decide +kernel
theorem dX6_place_6 : decode cX6_place 6 = .ok (.iconst 1, 1) := by decide +kernel
theorem dX6_place_7 : decode cX6_place 7 = .ok (.isub, 1) := by decide +kernel
theorem dX6_place_8 : decode cX6_place 8 = .ok (.invokestatic 41, 3) := by decide +kernel
theorem dX6_place_11 : decode cX6_place 11 = .ok (.ifCond .ne 5, 3) := by decide +kernel
theorem dX6_place_14 : decode cX6_place 14 = .ok (.iconst (-1), 1) := by decide +kernel
theorem dX6_place_15 : decode cX6_place 15 = .ok (.ireturn, 1) := by decide +kernel
theorem dX6_place_16 : decode cX6_place 16 = .ok (.aload_n 0, 1) := by decide +kernel
theorem dX6_place_17 : decode cX6_place 17 = .ok (.iconst 0, 1) := by decide +kernel
theorem dX6_place_18 : decode cX6_place 18 = .ok (.iload_n 1, 1) := by decide +kernel
theorem dX6_place_19 : decode cX6_place 19 = .ok (.invokevirtual 60, 3) := by decide +kernel
theorem dX6_place_22 : decode cX6_place 22 = .ok (.istore_n 2, 1) := by decide +kernel
theorem dX6_place_23 : decode cX6_place 23 = .ok (.iload_n 2, 1) := by decide +kernel
theorem dX6_place_24 : decode cX6_place 24 = .ok (.bipush 16, 2) := by decide +kernel
theorem dX6_place_26 : decode cX6_place 26 = .ok (.aload_n 0, 1) := by decide +kernel
theorem dX6_place_27 : decode cX6_place 27 = .ok (.iconst 1, 1) := by decide +kernel
theorem dX6_place_28 : decode cX6_place 28 = .ok (.iload_n 1, 1) := by decide +kernel
theorem dX6_place_29 : decode cX6_place 29 = .ok (.invokevirtual 60, 3) := by decide +kernel
theorem dX6_place_32 : decode cX6_place 32 = .ok (.imul, 1) := by decide +kernel
theorem dX6_place_33 : decode cX6_place 33 = .ok (.iadd, 1) := by decide +kernel
theorem dX6_place_34 : decode cX6_place 34 = .ok (.istore_n 2, 1) := by decide +kernel
theorem dX6_place_35 : decode cX6_place 35 = .ok (.aload_n 0, 1) := by decide +kernel
theorem dX6_place_36 : decode cX6_place 36 = .ok (.iload_n 2, 1) := by decide +kernel
theorem dX6_place_37 : decode cX6_place 37 = .ok (.invokevirtual 64, 3) := by decide +kernel
theorem dX6_place_40 : decode cX6_place 40 = .ok (.ireturn, 1) := by decide +kernel
set_option maxRecDepth 20000 in
theorem ggX6_size_X6_within : GoodIn wsX6_size wsX6_within := goodIn_r _ [8] (by decide +kernel) (by decide +kernel)
set_option maxRecDepth 20000 in
theorem gX6_size_X6_within : GoodIn wsX6_size (va_wsS RX6 41 yX6_within wsX6_within) := goodIn_app (goodIn_of _ (by decide +kernel)) ggX6_size_X6_within
theorem dX6_size_0 : decode cX6_size 0 = .ok (.iload_n 1, 1) := by decide +kernel
theorem dX6_size_1 : decode cX6_size 1 = .ok (.iconst 0, 1) := by decide +kernel
theorem dX6_size_2 : decode cX6_size 2 = .ok (.aload_n 0, 1) := by decide +kernel
theorem dX6_size_3 : decode cX6_size 3 = .ok (.getfield 53, 3) := by decide +kernel
theorem dX6_size_6 : decode cX6_size 6 = .ok (.iconst 1, 1) := by decide +kernel
theorem dX6_size_7 : decode cX6_size 7 = .ok (.isub, 1) := by decide +kernel
theorem dX6_size_8 : decode cX6_size 8 = .ok (.invokestatic 41, 3) := by decide +kernel
theorem dX6_size_11 : decode cX6_size 11 = .ok (.ifCond .ne 5, 3) := by decide +kernel
theorem dX6_size_14 : decode cX6_size 14 = .ok (.iconst (-1), 1) := by decide +kernel
theorem dX6_size_15 : decode cX6_size 15 = .ok (.ireturn, 1) := by decide +kernel
theorem dX6_size_16 : decode cX6_size 16 = .ok (.iconst 0, 1) := by decide +kernel
theorem dX6_size_17 : decode cX6_size 17 = .ok (.istore_n 2, 1) := by decide +kernel
theorem dX6_size_18 : decode cX6_size 18 = .ok (.iload_n 2, 1) := by decide +kernel
theorem dX6_size_19 : decode cX6_size 19 = .ok (.iload_n 1, 1) := by decide +kernel
theorem dX6_size_20 : decode cX6_size 20 = .ok (.if_icmp .gt 81, 3) := by decide +kernel
theorem dX6_size_23 : decode cX6_size 23 = .ok (.iconst 1, 1) := by decide +kernel
theorem dX6_size_24 : decode cX6_size 24 = .ok (.aload_n 0, 1) := by decide +kernel
theorem dX6_size_25 : decode cX6_size 25 = .ok (.getfield 19, 3) := by decide +kernel
theorem dX6_size_28 : decode cX6_size 28 = .ok (.iload_n 2, 1) := by decide +kernel
theorem dX6_size_29 : decode cX6_size 29 = .ok (.iaload, 1) := by decide +kernel
theorem dX6_size_30 : decode cX6_size 30 = .ok (.ifCond .ge 7, 3) := by decide +kernel
theorem dX6_size_33 : decode cX6_size 33 = .ok (.iconst 0, 1) := by decide +kernel
theorem dX6_size_34 : decode cX6_size 34 = .ok (.goto 14, 3) := by decide +kernel
theorem dX6_size_37 : decode cX6_size 37 = .ok (.aload_n 0, 1) := by decide +kernel
theorem dX6_size_38 : decode cX6_size 38 = .ok (.getfield 35, 3) := by decide +kernel
theorem dX6_size_41 : decode cX6_size 41 = .ok (.aload_n 0, 1) := by decide +kernel
theorem dX6_size_42 : decode cX6_size 42 = .ok (.getfield 19, 3) := by decide +kernel
theorem dX6_size_45 : decode cX6_size 45 = .ok (.iload_n 2, 1) := by decide +kernel
theorem dX6_size_46 : decode cX6_size 46 = .ok (.iaload, 1) := by decide +kernel
theorem dX6_size_47 : decode cX6_size 47 = .ok (.iaload, 1) := by decide +kernel
theorem dX6_size_48 : decode cX6_size 48 = .ok (.iadd, 1) := by decide +kernel
theorem dX6_size_49 : decode cX6_size 49 = .ok (.aload_n 0, 1) := by decide +kernel
theorem dX6_size_50 : decode cX6_size 50 = .ok (.getfield 22, 3) := by decide +kernel
theorem dX6_size_53 : decode cX6_size 53 = .ok (.iload_n 2, 1) := by decide +kernel
theorem dX6_size_54 : decode cX6_size 54 = .ok (.iaload, 1) := by decide +kernel
theorem dX6_size_55 : decode cX6_size 55 = .ok (.ifCond .ge 7, 3) := by decide +kernel
theorem dX6_size_58 : decode cX6_size 58 = .ok (.iconst 0, 1) := by decide +kernel
theorem dX6_size_59 : decode cX6_size 59 = .ok (.goto 14, 3) := by decide +kernel
theorem dX6_size_62 : decode cX6_size 62 = .ok (.aload_n 0, 1) := by decide +kernel
theorem dX6_size_63 : decode cX6_size 63 = .ok (.getfield 35, 3) := by decide +kernel
theorem dX6_size_66 : decode cX6_size 66 = .ok (.aload_n 0, 1) := by decide +kernel
theorem dX6_size_67 : decode cX6_size 67 = .ok (.getfield 22, 3) := by decide +kernel
theorem dX6_size_70 : decode cX6_size 70 = .ok (.iload_n 2, 1) := by decide +kernel
theorem dX6_size_71 : decode cX6_size 71 = .ok (.iaload, 1) := by decide +kernel
theorem dX6_size_72 : decode cX6_size 72 = .ok (.iaload, 1) := by decide +kernel
theorem dX6_size_73 : decode cX6_size 73 = .ok (.iadd, 1) := by decide +kernel
theorem dX6_size_74 : decode cX6_size 74 = .ok (.istore_n 3, 1) := by decide +kernel
theorem dX6_size_75 : decode cX6_size 75 = .ok (.aload_n 0, 1) := by decide +kernel
theorem dX6_size_76 : decode cX6_size 76 = .ok (.getfield 35, 3) := by decide +kernel
theorem dX6_size_79 : decode cX6_size 79 = .ok (.iload_n 2, 1) := by decide +kernel
theorem dX6_size_80 : decode cX6_size 80 = .ok (.iload_n 3, 1) := by decide +kernel
theorem dX6_size_81 : decode cX6_size 81 = .ok (.sipush 1000, 3) := by decide +kernel
theorem dX6_size_84 : decode cX6_size 84 = .ok (.if_icmp .le 9, 3) := by decide +kernel
theorem dX6_size_87 : decode cX6_size 87 = .ok (.sipush 1000, 3) := by decide +kernel
theorem dX6_size_90 : decode cX6_size 90 = .ok (.goto 4, 3) := by decide +kernel
theorem dX6_size_93 : decode cX6_size 93 = .ok (.iload_n 3, 1) := by decide +kernel
theorem dX6_size_94 : decode cX6_size 94 = .ok (.iastore, 1) := by decide +kernel
theorem dX6_size_95 : decode cX6_size 95 = .ok (.iinc 2 1, 3) := by decide +kernel
theorem dX6_size_98 : decode cX6_size 98 = .ok (.goto (-80), 3) := by decide +kernel
theorem dX6_size_101 : decode cX6_size 101 = .ok (.aload_n 0, 1) := by decide +kernel
theorem dX6_size_102 : decode cX6_size 102 = .ok (.getfield 35, 3) := by decide +kernel
theorem dX6_size_105 : decode cX6_size 105 = .ok (.iload_n 1, 1) := by decide +kernel
theorem dX6_size_106 : decode cX6_size 106 = .ok (.iaload, 1) := by decide +kernel
theorem dX6_size_107 : decode cX6_size 107 = .ok (.ireturn, 1) := by decide +kernel
set_option maxRecDepth 20000 in
theorem ggX6_profile_X6_over : GoodIn wsX6_profile wsX6_over := goodIn_r _ [5, 6, 7, 8, 9, 10, 11, 12, 13, 14, 15, 16, 17] (by decide +kernel) (by decide +kernel)
set_option maxRecDepth 20000 in
theorem gX6_profile_X6_over : GoodIn wsX6_profile (wsV RX6 57 RX6 yX6_over wsX6_over) := goodIn_app (goodIn_of _ (by decide +kernel)) ggX6_profile_X6_over
theorem dX6_profile_0 : decode cX6_profile 0 = .ok (.aload_n 0, 1) := by decide +kernel
theorem dX6_profile_1 : decode cX6_profile 1 = .ok (.iconst 0, 1) := by decide +kernel
theorem dX6_profile_2 : decode cX6_profile 2 = .ok (.iload_n 1, 1) := by decide +kernel
theorem dX6_profile_3 : decode cX6_profile 3 = .ok (.iload_n 2, 1) := by decide +kernel
theorem dX6_profile_4 : decode cX6_profile 4 = .ok (.bipush 15, 2) := by decide +kernel
theorem dX6_profile_6 : decode cX6_profile 6 = .ok (.iand, 1) := by decide +kernel
theorem dX6_profile_7 : decode cX6_profile 7 = .ok (.iload_n 3, 1) := by decide +kernel
theorem dX6_profile_8 : decode cX6_profile 8 = .ok (.bipush 15, 2) := by decide +kernel
theorem dX6_profile_10 : decode cX6_profile 10 = .ok (.iand, 1) := by decide +kernel
theorem dX6_profile_11 : decode cX6_profile 11 = .ok (.invokevirtual 57, 3) := by decide +kernel
theorem dX6_profile_14 : decode cX6_profile 14 = .ok (.istore 4, 2) := by decide +kernel
theorem dX6_profile_16 : decode cX6_profile 16 = .ok (.iload 4, 2) := by decide +kernel
theorem dX6_profile_18 : decode cX6_profile 18 = .ok (.bipush 16, 2) := by decide +kernel
theorem dX6_profile_20 : decode cX6_profile 20 = .ok (.aload_n 0, 1) := by decide +kernel
theorem dX6_profile_21 : decode cX6_profile 21 = .ok (.iconst 1, 1) := by decide +kernel
theorem dX6_profile_22 : decode cX6_profile 22 = .ok (.iload_n 1, 1) := by decide +kernel
theorem dX6_profile_23 : decode cX6_profile 23 = .ok (.iload_n 2, 1) := by decide +kernel
theorem dX6_profile_24 : decode cX6_profile 24 = .ok (.iconst 4, 1) := by decide +kernel
theorem dX6_profile_25 : decode cX6_profile 25 = .ok (.ishr, 1) := by decide +kernel
theorem dX6_profile_26 : decode cX6_profile 26 = .ok (.iload_n 3, 1) := by decide +kernel
theorem dX6_profile_27 : decode cX6_profile 27 = .ok (.iconst 4, 1) := by decide +kernel
theorem dX6_profile_28 : decode cX6_profile 28 = .ok (.ishr, 1) := by decide +kernel
theorem dX6_profile_29 : decode cX6_profile 29 = .ok (.invokevirtual 57, 3) := by decide +kernel
theorem dX6_profile_32 : decode cX6_profile 32 = .ok (.imul, 1) := by decide +kernel
theorem dX6_profile_33 : decode cX6_profile 33 = .ok (.iadd, 1) := by decide +kernel
theorem dX6_profile_34 : decode cX6_profile 34 = .ok (.ireturn, 1) := by decide +kernel
