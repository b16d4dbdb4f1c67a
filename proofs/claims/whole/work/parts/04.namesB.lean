theorem dX3_init_0 : decode cX3_init 0 = .ok (.aload_n 0, 1) := by decide +kernel
theorem dX3_init_1 : decode cX3_init 1 = .ok (.invokespecial 3, 3) := by decide +kernel
theorem dX3_init_4 : decode cX3_init 4 = .ok (.aload_n 0, 1) := by decide +kernel
theorem dX3_init_5 : decode cX3_init 5 = .ok (.sipush 128, 3) := by decide +kernel
theorem dX3_init_8 : decode cX3_init 8 = .ok (.newarray .int, 2) := by decide +kernel
theorem dX3_init_10 : decode cX3_init 10 = .ok (.putfield 9, 3) := by decide +kernel
theorem dX3_init_13 : decode cX3_init 13 = .ok (.aload_n 0, 1) := by decide +kernel
theorem dX3_init_14 : decode cX3_init 14 = .ok (.sipush 2048, 3) := by decide +kernel
theorem dX3_init_17 : decode cX3_init 17 = .ok (.newarray .int, 2) := by decide +kernel
theorem dX3_init_19 : decode cX3_init 19 = .ok (.putfield 15, 3) := by decide +kernel
theorem dX3_init_22 : decode cX3_init 22 = .ok (.aload_n 0, 1) := by decide +kernel
theorem dX3_init_23 : decode cX3_init 23 = .ok (.iconst 0, 1) := by decide +kernel
theorem dX3_init_24 : decode cX3_init 24 = .ok (.putfield 18, 3) := by decide +kernel
theorem dX3_init_27 : decode cX3_init 27 = .ok (.return_, 1) := by decide +kernel
theorem dX3_leads_0 : decode cX3_leads 0 = .ok (.aload_n 0, 1) := by decide +kernel
theorem dX3_leads_1 : decode cX3_leads 1 = .ok (.getfield 9, 3) := by decide +kernel
theorem dX3_leads_4 : decode cX3_leads 4 = .ok (.iload_n 1, 1) := by decide +kernel
theorem dX3_leads_5 : decode cX3_leads 5 = .ok (.iaload, 1) := by decide +kernel
theorem dX3_leads_6 : decode cX3_leads 6 = .ok (.iload_n 2, 1) := by decide +kernel
theorem dX3_leads_7 : decode cX3_leads 7 = .ok (.ishr, 1) := by decide +kernel
theorem dX3_leads_8 : decode cX3_leads 8 = .ok (.iconst 1, 1) := by decide +kernel
theorem dX3_leads_9 : decode cX3_leads 9 = .ok (.iand, 1) := by decide +kernel
theorem dX3_leads_10 : decode cX3_leads 10 = .ok (.iconst 1, 1) := by decide +kernel
theorem dX3_leads_11 : decode cX3_leads 11 = .ok (.if_icmp .ne 7, 3) := by decide +kernel
theorem dX3_leads_14 : decode cX3_leads 14 = .ok (.iconst 1, 1) := by decide +kernel
theorem dX3_leads_15 : decode cX3_leads 15 = .ok (.goto 4, 3) := by decide +kernel
theorem dX3_leads_18 : decode cX3_leads 18 = .ok (.iconst 0, 1) := by decide +kernel
theorem dX3_leads_19 : decode cX3_leads 19 = .ok (.ireturn, 1) := by decide +kernel
set_option maxRecDepth 20000 in
theorem ggX3_turnRule_X3_rebuild : GoodIn wsX3_turnRule wsX3_rebuild := goodIn_r _ [6, 7, 1, 8, 9, 10, 11, 12, 13, 14, 5, 15, 16, 17, 18] (by decide +kernel) (by decide +kernel)
set_option maxRecDepth 20000 in
theorem gX3_turnRule_X3_rebuild : GoodIn wsX3_turnRule (wsV RX3 22 RX3 yX3_rebuild wsX3_rebuild) := goodIn_app (goodIn_of _ (by decide +kernel)) ggX3_turnRule_X3_rebuild
theorem dX3_turnRule_0 : decode cX3_turnRule 0 = .ok (.aload_n 0, 1) := by decide +kernel
theorem dX3_turnRule_1 : decode cX3_turnRule 1 = .ok (.getfield 9, 3) := by decide +kernel
theorem dX3_turnRule_4 : decode cX3_turnRule 4 = .ok (.iload_n 1, 1) := by decide +kernel
theorem dX3_turnRule_5 : decode cX3_turnRule 5 = .ok (.dup2, 1) := by decide +kernel
theorem dX3_turnRule_6 : decode cX3_turnRule 6 = .ok (.iaload, 1) := by decide +kernel
theorem dX3_turnRule_7 : decode cX3_turnRule 7 = .ok (.iconst 1, 1) := by decide +kernel
theorem dX3_turnRule_8 : decode cX3_turnRule 8 = .ok (.iload_n 2, 1) := by decide +kernel
theorem dX3_turnRule_9 : decode cX3_turnRule 9 = .ok (.ishl, 1) := by decide +kernel
theorem dX3_turnRule_10 : decode cX3_turnRule 10 = .ok (.ixor, 1) := by decide +kernel
theorem dX3_turnRule_11 : decode cX3_turnRule 11 = .ok (.iastore, 1) := by decide +kernel
theorem dX3_turnRule_12 : decode cX3_turnRule 12 = .ok (.aload_n 0, 1) := by decide +kernel
theorem dX3_turnRule_13 : decode cX3_turnRule 13 = .ok (.iload_n 1, 1) := by decide +kernel
theorem dX3_turnRule_14 : decode cX3_turnRule 14 = .ok (.bipush 16, 2) := by decide +kernel
theorem dX3_turnRule_16 : decode cX3_turnRule 16 = .ok (.idiv, 1) := by decide +kernel
theorem dX3_turnRule_17 : decode cX3_turnRule 17 = .ok (.invokevirtual 22, 3) := by decide +kernel
theorem dX3_turnRule_20 : decode cX3_turnRule 20 = .ok (.return_, 1) := by decide +kernel
theorem dX3_isGoal_0 : decode cX3_isGoal 0 = .ok (.aload_n 0, 1) := by decide +kernel
theorem dX3_isGoal_1 : decode cX3_isGoal 1 = .ok (.getfield 18, 3) := by decide +kernel
theorem dX3_isGoal_4 : decode cX3_isGoal 4 = .ok (.iload_n 1, 1) := by decide +kernel
theorem dX3_isGoal_5 : decode cX3_isGoal 5 = .ok (.ishr, 1) := by decide +kernel
theorem dX3_isGoal_6 : decode cX3_isGoal 6 = .ok (.iconst 1, 1) := by decide +kernel
theorem dX3_isGoal_7 : decode cX3_isGoal 7 = .ok (.iand, 1) := by decide +kernel
theorem dX3_isGoal_8 : decode cX3_isGoal 8 = .ok (.iconst 1, 1) := by decide +kernel
theorem dX3_isGoal_9 : decode cX3_isGoal 9 = .ok (.if_icmp .ne 7, 3) := by decide +kernel
theorem dX3_isGoal_12 : decode cX3_isGoal 12 = .ok (.iconst 1, 1) := by decide +kernel
theorem dX3_isGoal_13 : decode cX3_isGoal 13 = .ok (.goto 4, 3) := by decide +kernel
theorem dX3_isGoal_16 : decode cX3_isGoal 16 = .ok (.iconst 0, 1) := by decide +kernel
theorem dX3_isGoal_17 : decode cX3_isGoal 17 = .ok (.ireturn, 1) := by decide +kernel
theorem dX3_turnGoal_0 : decode cX3_turnGoal 0 = .ok (.aload_n 0, 1) := by decide +kernel
theorem dX3_turnGoal_1 : decode cX3_turnGoal 1 = .ok (.dup, 1) := by decide +kernel
theorem dX3_turnGoal_2 : decode cX3_turnGoal 2 = .ok (.getfield 18, 3) := by decide +kernel
theorem dX3_turnGoal_5 : decode cX3_turnGoal 5 = .ok (.iconst 1, 1) := by decide +kernel
theorem dX3_turnGoal_6 : decode cX3_turnGoal 6 = .ok (.iload_n 1, 1) := by decide +kernel
theorem dX3_turnGoal_7 : decode cX3_turnGoal 7 = .ok (.ishl, 1) := by decide +kernel
theorem dX3_turnGoal_8 : decode cX3_turnGoal 8 = .ok (.ixor, 1) := by decide +kernel
theorem dX3_turnGoal_9 : decode cX3_turnGoal 9 = .ok (.putfield 18, 3) := by decide +kernel
theorem dX3_turnGoal_12 : decode cX3_turnGoal 12 = .ok (.return_, 1) := by decide +kernel
set_option maxRecDepth 20000 in
theorem ggX3_empty_J7_fill_53178 : GoodIn wsX3_empty wsJ7_fill_53178 := goodIn_r _ [7] (by decide +kernel) (by decide +kernel)
set_option maxRecDepth 20000 in
theorem gX3_empty_J7_fill_53178 : GoodIn wsX3_empty (va_wsS RX3 26 yJ7_fill_53178 wsJ7_fill_53178) := goodIn_app (goodIn_of _ (by decide +kernel)) ggX3_empty_J7_fill_53178
theorem dX3_empty_0 : decode cX3_empty 0 = .ok (.aload_n 0, 1) := by decide +kernel
theorem dX3_empty_1 : decode cX3_empty 1 = .ok (.getfield 9, 3) := by decide +kernel
theorem dX3_empty_4 : decode cX3_empty 4 = .ok (.iconst 0, 1) := by decide +kernel
theorem dX3_empty_5 : decode cX3_empty 5 = .ok (.invokestatic 26, 3) := by decide +kernel
theorem dX3_empty_8 : decode cX3_empty 8 = .ok (.aload_n 0, 1) := by decide +kernel
theorem dX3_empty_9 : decode cX3_empty 9 = .ok (.getfield 15, 3) := by decide +kernel
theorem dX3_empty_12 : decode cX3_empty 12 = .ok (.iconst 0, 1) := by decide +kernel
theorem dX3_empty_13 : decode cX3_empty 13 = .ok (.invokestatic 26, 3) := by decide +kernel
theorem dX3_empty_16 : decode cX3_empty 16 = .ok (.aload_n 0, 1) := by decide +kernel
theorem dX3_empty_17 : decode cX3_empty 17 = .ok (.iconst 0, 1) := by decide +kernel
theorem dX3_empty_18 : decode cX3_empty 18 = .ok (.putfield 18, 3) := by decide +kernel
theorem dX3_empty_21 : decode cX3_empty 21 = .ok (.return_, 1) := by decide +kernel
theorem dX3_accepts_0 : decode cX3_accepts 0 = .ok (.iload_n 1, 1) := by decide +kernel
theorem dX3_accepts_1 : decode cX3_accepts 1 = .ok (.aload_n 0, 1) := by decide +kernel
theorem dX3_accepts_2 : decode cX3_accepts 2 = .ok (.getfield 18, 3) := by decide +kernel
theorem dX3_accepts_5 : decode cX3_accepts 5 = .ok (.iand, 1) := by decide +kernel
theorem dX3_accepts_6 : decode cX3_accepts 6 = .ok (.ifCond .eq 7, 3) := by decide +kernel
theorem dX3_accepts_9 : decode cX3_accepts 9 = .ok (.iconst 1, 1) := by decide +kernel
theorem dX3_accepts_10 : decode cX3_accepts 10 = .ok (.goto 4, 3) := by decide +kernel
theorem dX3_accepts_13 : decode cX3_accepts 13 = .ok (.iconst 0, 1) := by decide +kernel
theorem dX3_accepts_14 : decode cX3_accepts 14 = .ok (.ireturn, 1) := by decide +kernel
set_option maxRecDepth 20000 in
theorem ggX3_rebuild_X5_hasLeft : GoodIn wsX3_rebuild wsX5_hasLeft := goodIn_r _ [5] (by decide +kernel) (by decide +kernel)
set_option maxRecDepth 20000 in
theorem gX3_rebuild_X5_hasLeft_n32 : GoodIn wsX3_rebuild (wsX5_hasLeft) := ggX3_rebuild_X5_hasLeft
set_option maxRecDepth 20000 in
theorem ggX3_rebuild_X5_hasRight : GoodIn wsX3_rebuild wsX5_hasRight := goodIn_r _ [7] (by decide +kernel) (by decide +kernel)
set_option maxRecDepth 20000 in
theorem gX3_rebuild_X5_hasRight_n36 : GoodIn wsX3_rebuild (wsX5_hasRight) := ggX3_rebuild_X5_hasRight
set_option maxRecDepth 20000 in
theorem ggX3_rebuild_X3_cell : GoodIn wsX3_rebuild wsX3_cell := goodIn_r _ [11] (by decide +kernel) (by decide +kernel)
set_option maxRecDepth 20000 in
theorem gX3_rebuild_X3_cell : GoodIn wsX3_rebuild (va_wsS RX3 42 yX3_cell wsX3_cell) := goodIn_app (goodIn_of _ (by decide +kernel)) ggX3_rebuild_X3_cell
theorem dX3_rebuild_0 : decode cX3_rebuild 0 = .ok (.iload_n 1, 1) := by decide +kernel
theorem dX3_rebuild_1 : decode cX3_rebuild 1 = .ok (.invokestatic 32, 3) := by decide +kernel
theorem dX3_rebuild_4 : decode cX3_rebuild 4 = .ok (.ifCond .eq 8, 3) := by decide +kernel
theorem dX3_rebuild_7 : decode cX3_rebuild 7 = .ok (.bipush 15, 2) := by decide +kernel
theorem dX3_rebuild_9 : decode cX3_rebuild 9 = .ok (.goto 4, 3) := by decide +kernel
theorem dX3_rebuild_12 : decode cX3_rebuild 12 = .ok (.iconst 1, 1) := by decide +kernel
theorem dX3_rebuild_13 : decode cX3_rebuild 13 = .ok (.istore_n 2, 1) := by decide +kernel
theorem dX3_rebuild_14 : decode cX3_rebuild 14 = .ok (.iload_n 1, 1) := by decide +kernel
theorem dX3_rebuild_15 : decode cX3_rebuild 15 = .ok (.invokestatic 36, 3) := by decide +kernel
theorem dX3_rebuild_18 : decode cX3_rebuild 18 = .ok (.ifCond .eq 8, 3) := by decide +kernel
theorem dX3_rebuild_21 : decode cX3_rebuild 21 = .ok (.bipush 15, 2) := by decide +kernel
theorem dX3_rebuild_23 : decode cX3_rebuild 23 = .ok (.goto 4, 3) := by decide +kernel
theorem dX3_rebuild_26 : decode cX3_rebuild 26 = .ok (.iconst 1, 1) := by decide +kernel
theorem dX3_rebuild_27 : decode cX3_rebuild 27 = .ok (.istore_n 3, 1) := by decide +kernel
theorem dX3_rebuild_28 : decode cX3_rebuild 28 = .ok (.iconst 1, 1) := by decide +kernel
theorem dX3_rebuild_29 : decode cX3_rebuild 29 = .ok (.istore 4, 2) := by decide +kernel
theorem dX3_rebuild_31 : decode cX3_rebuild 31 = .ok (.iload 4, 2) := by decide +kernel
theorem dX3_rebuild_33 : decode cX3_rebuild 33 = .ok (.iload_n 2, 1) := by decide +kernel
theorem dX3_rebuild_34 : decode cX3_rebuild 34 = .ok (.if_icmp .gt 103, 3) := by decide +kernel
theorem dX3_rebuild_37 : decode cX3_rebuild 37 = .ok (.iconst 1, 1) := by decide +kernel
theorem dX3_rebuild_38 : decode cX3_rebuild 38 = .ok (.istore 5, 2) := by decide +kernel
theorem dX3_rebuild_40 : decode cX3_rebuild 40 = .ok (.iload 5, 2) := by decide +kernel
theorem dX3_rebuild_42 : decode cX3_rebuild 42 = .ok (.iload_n 3, 1) := by decide +kernel
theorem dX3_rebuild_43 : decode cX3_rebuild 43 = .ok (.if_icmp .gt 88, 3) := by decide +kernel
theorem dX3_rebuild_46 : decode cX3_rebuild 46 = .ok (.iload_n 1, 1) := by decide +kernel
theorem dX3_rebuild_47 : decode cX3_rebuild 47 = .ok (.iconst 4, 1) := by decide +kernel
theorem dX3_rebuild_48 : decode cX3_rebuild 48 = .ok (.imul, 1) := by decide +kernel
theorem dX3_rebuild_49 : decode cX3_rebuild 49 = .ok (.getstatic 39, 3) := by decide +kernel
theorem dX3_rebuild_52 : decode cX3_rebuild 52 = .ok (.iload 4, 2) := by decide +kernel
theorem dX3_rebuild_54 : decode cX3_rebuild 54 = .ok (.iaload, 1) := by decide +kernel
theorem dX3_rebuild_55 : decode cX3_rebuild 55 = .ok (.iadd, 1) := by decide +kernel
theorem dX3_rebuild_56 : decode cX3_rebuild 56 = .ok (.iconst 4, 1) := by decide +kernel
theorem dX3_rebuild_57 : decode cX3_rebuild 57 = .ok (.imul, 1) := by decide +kernel
theorem dX3_rebuild_58 : decode cX3_rebuild 58 = .ok (.getstatic 39, 3) := by decide +kernel
theorem dX3_rebuild_61 : decode cX3_rebuild 61 = .ok (.iload 5, 2) := by decide +kernel
theorem dX3_rebuild_63 : decode cX3_rebuild 63 = .ok (.iaload, 1) := by decide +kernel
theorem dX3_rebuild_64 : decode cX3_rebuild 64 = .ok (.iadd, 1) := by decide +kernel
theorem dX3_rebuild_65 : decode cX3_rebuild 65 = .ok (.istore 6, 2) := by decide +kernel
theorem dX3_rebuild_67 : decode cX3_rebuild 67 = .ok (.aload_n 0, 1) := by decide +kernel
theorem dX3_rebuild_68 : decode cX3_rebuild 68 = .ok (.getfield 15, 3) := by decide +kernel
theorem dX3_rebuild_71 : decode cX3_rebuild 71 = .ok (.iload_n 1, 1) := by decide +kernel
theorem dX3_rebuild_72 : decode cX3_rebuild 72 = .ok (.iload 4, 2) := by decide +kernel
theorem dX3_rebuild_74 : decode cX3_rebuild 74 = .ok (.iload 5, 2) := by decide +kernel
theorem dX3_rebuild_76 : decode cX3_rebuild 76 = .ok (.invokestatic 42, 3) := by decide +kernel
theorem dX3_rebuild_79 : decode cX3_rebuild 79 = .ok (.aload_n 0, 1) := by decide +kernel
theorem dX3_rebuild_80 : decode cX3_rebuild 80 = .ok (.getfield 9, 3) := by decide +kernel
theorem dX3_rebuild_83 : decode cX3_rebuild 83 = .ok (.iload 6, 2) := by decide +kernel
theorem dX3_rebuild_85 : decode cX3_rebuild 85 = .ok (.iaload, 1) := by decide +kernel
theorem dX3_rebuild_86 : decode cX3_rebuild 86 = .ok (.aload_n 0, 1) := by decide +kernel
theorem dX3_rebuild_87 : decode cX3_rebuild 87 = .ok (.getfield 15, 3) := by decide +kernel
theorem dX3_rebuild_90 : decode cX3_rebuild 90 = .ok (.iload_n 1, 1) := by decide +kernel
theorem dX3_rebuild_91 : decode cX3_rebuild 91 = .ok (.iload 4, 2) := by decide +kernel
theorem dX3_rebuild_93 : decode cX3_rebuild 93 = .ok (.iload 4, 2) := by decide +kernel
theorem dX3_rebuild_95 : decode cX3_rebuild 95 = .ok (.iconst 1, 1) := by decide +kernel
theorem dX3_rebuild_96 : decode cX3_rebuild 96 = .ok (.isub, 1) := by decide +kernel
theorem dX3_rebuild_97 : decode cX3_rebuild 97 = .ok (.iand, 1) := by decide +kernel
theorem dX3_rebuild_98 : decode cX3_rebuild 98 = .ok (.iload 5, 2) := by decide +kernel
theorem dX3_rebuild_100 : decode cX3_rebuild 100 = .ok (.invokestatic 42, 3) := by decide +kernel
theorem dX3_rebuild_103 : decode cX3_rebuild 103 = .ok (.iaload, 1) := by decide +kernel
theorem dX3_rebuild_104 : decode cX3_rebuild 104 = .ok (.ior, 1) := by decide +kernel
theorem dX3_rebuild_105 : decode cX3_rebuild 105 = .ok (.aload_n 0, 1) := by decide +kernel
theorem dX3_rebuild_106 : decode cX3_rebuild 106 = .ok (.getfield 15, 3) := by decide +kernel
theorem dX3_rebuild_109 : decode cX3_rebuild 109 = .ok (.iload_n 1, 1) := by decide +kernel
theorem dX3_rebuild_110 : decode cX3_rebuild 110 = .ok (.iload 4, 2) := by decide +kernel
theorem dX3_rebuild_112 : decode cX3_rebuild 112 = .ok (.iload 5, 2) := by decide +kernel
theorem dX3_rebuild_114 : decode cX3_rebuild 114 = .ok (.iload 5, 2) := by decide +kernel
theorem dX3_rebuild_116 : decode cX3_rebuild 116 = .ok (.iconst 1, 1) := by decide +kernel
theorem dX3_rebuild_117 : decode cX3_rebuild 117 = .ok (.isub, 1) := by decide +kernel
theorem dX3_rebuild_118 : decode cX3_rebuild 118 = .ok (.iand, 1) := by decide +kernel
theorem dX3_rebuild_119 : decode cX3_rebuild 119 = .ok (.invokestatic 42, 3) := by decide +kernel
theorem dX3_rebuild_122 : decode cX3_rebuild 122 = .ok (.iaload, 1) := by decide +kernel
theorem dX3_rebuild_123 : decode cX3_rebuild 123 = .ok (.ior, 1) := by decide +kernel
theorem dX3_rebuild_124 : decode cX3_rebuild 124 = .ok (.iastore, 1) := by decide +kernel
theorem dX3_rebuild_125 : decode cX3_rebuild 125 = .ok (.iinc 5 1, 3) := by decide +kernel
theorem dX3_rebuild_128 : decode cX3_rebuild 128 = .ok (.goto (-88), 3) := by decide +kernel
theorem dX3_rebuild_131 : decode cX3_rebuild 131 = .ok (.iinc 4 1, 3) := by decide +kernel
theorem dX3_rebuild_134 : decode cX3_rebuild 134 = .ok (.goto (-103), 3) := by decide +kernel
theorem dX3_rebuild_137 : decode cX3_rebuild 137 = .ok (.return_, 1) := by decide +kernel
theorem dX3_cell_0 : decode cX3_cell 0 = .ok (.iload_n 0, 1) := by decide +kernel
theorem dX3_cell_1 : decode cX3_cell 1 = .ok (.bipush 16, 2) := by decide +kernel
theorem dX3_cell_3 : decode cX3_cell 3 = .ok (.imul, 1) := by decide +kernel
theorem dX3_cell_4 : decode cX3_cell 4 = .ok (.iload_n 1, 1) := by decide +kernel
theorem dX3_cell_5 : decode cX3_cell 5 = .ok (.iadd, 1) := by decide +kernel
theorem dX3_cell_6 : decode cX3_cell 6 = .ok (.bipush 16, 2) := by decide +kernel
theorem dX3_cell_8 : decode cX3_cell 8 = .ok (.imul, 1) := by decide +kernel
theorem dX3_cell_9 : decode cX3_cell 9 = .ok (.iload_n 2, 1) := by decide +kernel
theorem dX3_cell_10 : decode cX3_cell 10 = .ok (.iadd, 1) := by decide +kernel
theorem dX3_cell_11 : decode cX3_cell 11 = .ok (.ireturn, 1) := by decide +kernel
set_option maxRecDepth 20000 in
theorem ggX4_init_X3_init : GoodIn wsX4_init wsX3_init := goodIn_r _ [10, 11, 2, 3, 12, 13, 14, 15, 16, 17, 18] (by decide +kernel) (by decide +kernel)
set_option maxRecDepth 20000 in
theorem gX4_init_X3_init_n11 : GoodIn wsX4_init (wsX3_init) := ggX4_init_X3_init
theorem dX4_init_0 : decode cX4_init 0 = .ok (.aload_n 0, 1) := by decide +kernel
theorem dX4_init_1 : decode cX4_init 1 = .ok (.invokespecial 3, 3) := by decide +kernel
theorem dX4_init_4 : decode cX4_init 4 = .ok (.aload_n 0, 1) := by decide +kernel
theorem dX4_init_5 : decode cX4_init 5 = .ok (.new 9, 3) := by decide +kernel
theorem dX4_init_8 : decode cX4_init 8 = .ok (.dup, 1) := by decide +kernel
theorem dX4_init_9 : decode cX4_init 9 = .ok (.invokespecial 11, 3) := by decide +kernel
theorem dX4_init_12 : decode cX4_init 12 = .ok (.putfield 12, 3) := by decide +kernel
theorem dX4_init_15 : decode cX4_init 15 = .ok (.aload_n 0, 1) := by decide +kernel
theorem dX4_init_16 : decode cX4_init 16 = .ok (.new 9, 3) := by decide +kernel
theorem dX4_init_19 : decode cX4_init 19 = .ok (.dup, 1) := by decide +kernel
theorem dX4_init_20 : decode cX4_init 20 = .ok (.invokespecial 11, 3) := by decide +kernel
theorem dX4_init_23 : decode cX4_init 23 = .ok (.putfield 18, 3) := by decide +kernel
theorem dX4_init_26 : decode cX4_init 26 = .ok (.return_, 1) := by decide +kernel
theorem dX4_numbered_0 : decode cX4_numbered 0 = .ok (.iload_n 1, 1) := by decide +kernel
theorem dX4_numbered_1 : decode cX4_numbered 1 = .ok (.ifCond .ne 8, 3) := by decide +kernel
theorem dX4_numbered_4 : decode cX4_numbered 4 = .ok (.aload_n 0, 1) := by decide +kernel
theorem dX4_numbered_5 : decode cX4_numbered 5 = .ok (.getfield 12, 3) := by decide +kernel
theorem dX4_numbered_8 : decode cX4_numbered 8 = .ok (.areturn, 1) := by decide +kernel
theorem dX4_numbered_9 : decode cX4_numbered 9 = .ok (.iload_n 1, 1) := by decide +kernel
theorem dX4_numbered_10 : decode cX4_numbered 10 = .ok (.iconst 1, 1) := by decide +kernel
theorem dX4_numbered_11 : decode cX4_numbered 11 = .ok (.if_icmp .ne 10, 3) := by decide +kernel
theorem dX4_numbered_14 : decode cX4_numbered 14 = .ok (.aload_n 0, 1) := by decide +kernel
theorem dX4_numbered_15 : decode cX4_numbered 15 = .ok (.getfield 18, 3) := by decide +kernel
theorem dX4_numbered_18 : decode cX4_numbered 18 = .ok (.goto 4, 3) := by decide +kernel
theorem dX4_numbered_21 : decode cX4_numbered 21 = .ok (.aconst_null, 1) := by decide +kernel
theorem dX4_numbered_22 : decode cX4_numbered 22 = .ok (.areturn, 1) := by decide +kernel
theorem dX4_profileOf_0 : decode cX4_profileOf 0 = .ok (.iload_n 1, 1) := by decide +kernel
theorem dX4_profileOf_1 : decode cX4_profileOf 1 = .ok (.bipush 16, 2) := by decide +kernel
theorem dX4_profileOf_3 : decode cX4_profileOf 3 = .ok (.imul, 1) := by decide +kernel
theorem dX4_profileOf_4 : decode cX4_profileOf 4 = .ok (.iload_n 2, 1) := by decide +kernel
theorem dX4_profileOf_5 : decode cX4_profileOf 5 = .ok (.bipush 15, 2) := by decide +kernel
theorem dX4_profileOf_7 : decode cX4_profileOf 7 = .ok (.iand, 1) := by decide +kernel
theorem dX4_profileOf_8 : decode cX4_profileOf 8 = .ok (.iadd, 1) := by decide +kernel
theorem dX4_profileOf_9 : decode cX4_profileOf 9 = .ok (.bipush 16, 2) := by decide +kernel
theorem dX4_profileOf_11 : decode cX4_profileOf 11 = .ok (.imul, 1) := by decide +kernel
theorem dX4_profileOf_12 : decode cX4_profileOf 12 = .ok (.iload_n 3, 1) := by decide +kernel
theorem dX4_profileOf_13 : decode cX4_profileOf 13 = .ok (.bipush 15, 2) := by decide +kernel
theorem dX4_profileOf_15 : decode cX4_profileOf 15 = .ok (.iand, 1) := by decide +kernel
theorem dX4_profileOf_16 : decode cX4_profileOf 16 = .ok (.iadd, 1) := by decide +kernel
theorem dX4_profileOf_17 : decode cX4_profileOf 17 = .ok (.istore 4, 2) := by decide +kernel
theorem dX4_profileOf_19 : decode cX4_profileOf 19 = .ok (.iload_n 1, 1) := by decide +kernel
theorem dX4_profileOf_20 : decode cX4_profileOf 20 = .ok (.bipush 16, 2) := by decide +kernel
theorem dX4_profileOf_22 : decode cX4_profileOf 22 = .ok (.imul, 1) := by decide +kernel
theorem dX4_profileOf_23 : decode cX4_profileOf 23 = .ok (.iload_n 2, 1) := by decide +kernel
theorem dX4_profileOf_24 : decode cX4_profileOf 24 = .ok (.iconst 4, 1) := by decide +kernel
theorem dX4_profileOf_25 : decode cX4_profileOf 25 = .ok (.ishr, 1) := by decide +kernel
theorem dX4_profileOf_26 : decode cX4_profileOf 26 = .ok (.iadd, 1) := by decide +kernel
theorem dX4_profileOf_27 : decode cX4_profileOf 27 = .ok (.bipush 16, 2) := by decide +kernel
theorem dX4_profileOf_29 : decode cX4_profileOf 29 = .ok (.imul, 1) := by decide +kernel
theorem dX4_profileOf_30 : decode cX4_profileOf 30 = .ok (.iload_n 3, 1) := by decide +kernel
theorem dX4_profileOf_31 : decode cX4_profileOf 31 = .ok (.iconst 4, 1) := by decide +kernel
theorem dX4_profileOf_32 : decode cX4_profileOf 32 = .ok (.ishr, 1) := by decide +kernel
theorem dX4_profileOf_33 : decode cX4_profileOf 33 = .ok (.iadd, 1) := by decide +kernel
theorem dX4_profileOf_34 : decode cX4_profileOf 34 = .ok (.istore 5, 2) := by decide +kernel
theorem dX4_profileOf_36 : decode cX4_profileOf 36 = .ok (.aload_n 0, 1) := by decide +kernel
theorem dX4_profileOf_37 : decode cX4_profileOf 37 = .ok (.getfield 12, 3) := by decide +kernel
theorem dX4_profileOf_40 : decode cX4_profileOf 40 = .ok (.getfield 21, 3) := by decide +kernel
theorem dX4_profileOf_43 : decode cX4_profileOf 43 = .ok (.iload 4, 2) := by decide +kernel
theorem dX4_profileOf_45 : decode cX4_profileOf 45 = .ok (.iaload, 1) := by decide +kernel
theorem dX4_profileOf_46 : decode cX4_profileOf 46 = .ok (.aload_n 0, 1) := by decide +kernel
theorem dX4_profileOf_47 : decode cX4_profileOf 47 = .ok (.getfield 18, 3) := by decide +kernel
theorem dX4_profileOf_50 : decode cX4_profileOf 50 = .ok (.getfield 21, 3) := by decide +kernel
theorem dX4_profileOf_53 : decode cX4_profileOf 53 = .ok (.iload 5, 2) := by decide +kernel
theorem dX4_profileOf_55 : decode cX4_profileOf 55 = .ok (.iaload, 1) := by decide +kernel
theorem dX4_profileOf_56 : decode cX4_profileOf 56 = .ok (.iconst 4, 1) := by decide +kernel
theorem dX4_profileOf_57 : decode cX4_profileOf 57 = .ok (.ishl, 1) := by decide +kernel
theorem dX4_profileOf_58 : decode cX4_profileOf 58 = .ok (.ior, 1) := by decide +kernel
theorem dX4_profileOf_59 : decode cX4_profileOf 59 = .ok (.ireturn, 1) := by decide +kernel
set_option maxRecDepth 20000 in
theorem ggX4_placeOf_X5_firstSet : GoodIn wsX4_placeOf wsX5_firstSet := goodIn_r _ [5] (by decide +kernel) (by decide +kernel)
set_option maxRecDepth 20000 in
theorem gX4_placeOf_X5_firstSet_n25 : GoodIn wsX4_placeOf (wsX5_firstSet) := ggX4_placeOf_X5_firstSet
set_option maxRecDepth 20000 in
theorem ggX4_placeOf_X3_accepts : GoodIn wsX4_placeOf wsX3_accepts := goodIn_r _ [10, 11, 16, 17, 18] (by decide +kernel) (by decide +kernel)
set_option maxRecDepth 20000 in
theorem gX4_placeOf_X3_accepts : GoodIn wsX4_placeOf (wsV RX4 29 RX3 yX3_accepts wsX3_accepts) := goodIn_app (goodIn_of _ (by decide +kernel)) ggX4_placeOf_X3_accepts
set_option maxRecDepth 20000 in
theorem ggX4_placeOf_X5_secondSet : GoodIn wsX4_placeOf wsX5_secondSet := goodIn_r _ [13] (by decide +kernel) (by decide +kernel)
set_option maxRecDepth 20000 in
theorem gX4_placeOf_X5_secondSet_n33 : GoodIn wsX4_placeOf (wsX5_secondSet) := ggX4_placeOf_X5_secondSet
theorem dX4_placeOf_0 : decode cX4_placeOf 0 = .ok (.aload_n 0, 1) := by decide +kernel
theorem dX4_placeOf_1 : decode cX4_placeOf 1 = .ok (.getfield 12, 3) := by decide +kernel
theorem dX4_placeOf_4 : decode cX4_placeOf 4 = .ok (.iload_n 1, 1) := by decide +kernel
theorem dX4_placeOf_5 : decode cX4_placeOf 5 = .ok (.invokestatic 25, 3) := by decide +kernel
theorem dX4_placeOf_8 : decode cX4_placeOf 8 = .ok (.invokevirtual 29, 3) := by decide +kernel
theorem dX4_placeOf_11 : decode cX4_placeOf 11 = .ok (.ifCond .eq 7, 3) := by decide +kernel
theorem dX4_placeOf_14 : decode cX4_placeOf 14 = .ok (.iconst 2, 1) := by decide +kernel
theorem dX4_placeOf_15 : decode cX4_placeOf 15 = .ok (.goto 4, 3) := by decide +kernel
theorem dX4_placeOf_18 : decode cX4_placeOf 18 = .ok (.iconst 0, 1) := by decide +kernel
theorem dX4_placeOf_19 : decode cX4_placeOf 19 = .ok (.istore_n 2, 1) := by decide +kernel
theorem dX4_placeOf_20 : decode cX4_placeOf 20 = .ok (.aload_n 0, 1) := by decide +kernel
theorem dX4_placeOf_21 : decode cX4_placeOf 21 = .ok (.getfield 18, 3) := by decide +kernel
theorem dX4_placeOf_24 : decode cX4_placeOf 24 = .ok (.iload_n 1, 1) := by decide +kernel
theorem dX4_placeOf_25 : decode cX4_placeOf 25 = .ok (.invokestatic 33, 3) := by decide +kernel
theorem dX4_placeOf_28 : decode cX4_placeOf 28 = .ok (.invokevirtual 29, 3) := by decide +kernel
theorem dX4_placeOf_31 : decode cX4_placeOf 31 = .ok (.ifCond .eq 9, 3) := by decide +kernel
theorem dX4_placeOf_34 : decode cX4_placeOf 34 = .ok (.iload_n 2, 1) := by decide +kernel
theorem dX4_placeOf_35 : decode cX4_placeOf 35 = .ok (.iconst 1, 1) := by decide +kernel
theorem dX4_placeOf_36 : decode cX4_placeOf 36 = .ok (.iadd, 1) := by decide +kernel
theorem dX4_placeOf_37 : decode cX4_placeOf 37 = .ok (.goto 4, 3) := by decide +kernel
theorem dX4_placeOf_40 : decode cX4_placeOf 40 = .ok (.iload_n 2, 1) := by decide +kernel
theorem dX4_placeOf_41 : decode cX4_placeOf 41 = .ok (.ireturn, 1) := by decide +kernel
set_option maxRecDepth 20000 in
theorem ggX4_isOfSort_X4_placeOf : GoodIn wsX4_isOfSort wsX4_placeOf := goodIn_r _ [5, 6, 7, 8, 9, 10, 11, 12, 13, 14, 15, 16, 17, 18, 19, 20, 21, 22, 23] (by decide +kernel) (by decide +kernel)
set_option maxRecDepth 20000 in
theorem gX4_isOfSort_X4_placeOf : GoodIn wsX4_isOfSort (wsV RX4 36 RX4 yX4_placeOf wsX4_placeOf) := goodIn_app (goodIn_of _ (by decide +kernel)) ggX4_isOfSort_X4_placeOf
theorem dX4_isOfSort_0 : decode cX4_isOfSort 0 = .ok (.iload_n 2, 1) := by decide +kernel
theorem dX4_isOfSort_1 : decode cX4_isOfSort 1 = .ok (.aload_n 0, 1) := by decide +kernel
theorem dX4_isOfSort_2 : decode cX4_isOfSort 2 = .ok (.iload_n 1, 1) := by decide +kernel
theorem dX4_isOfSort_3 : decode cX4_isOfSort 3 = .ok (.invokevirtual 36, 3) := by decide +kernel
theorem dX4_isOfSort_6 : decode cX4_isOfSort 6 = .ok (.ishr, 1) := by decide +kernel
theorem dX4_isOfSort_7 : decode cX4_isOfSort 7 = .ok (.iconst 1, 1) := by decide +kernel
theorem dX4_isOfSort_8 : decode cX4_isOfSort 8 = .ok (.iand, 1) := by decide +kernel
theorem dX4_isOfSort_9 : decode cX4_isOfSort 9 = .ok (.iconst 1, 1) := by decide +kernel
theorem dX4_isOfSort_10 : decode cX4_isOfSort 10 = .ok (.if_icmp .ne 7, 3) := by decide +kernel
theorem dX4_isOfSort_13 : decode cX4_isOfSort 13 = .ok (.iconst 1, 1) := by decide +kernel
theorem dX4_isOfSort_14 : decode cX4_isOfSort 14 = .ok (.goto 4, 3) := by decide +kernel
theorem dX4_isOfSort_17 : decode cX4_isOfSort 17 = .ok (.iconst 0, 1) := by decide +kernel
theorem dX4_isOfSort_18 : decode cX4_isOfSort 18 = .ok (.ireturn, 1) := by decide +kernel
set_option maxRecDepth 20000 in
theorem ggX5_init_X4_init : GoodIn wsX5_init wsX4_init := goodIn_r _ [21, 22, 2, 3, 23, 24, 25, 26, 27, 28, 29, 30, 31, 32, 33, 34, 100, 101, 102, 70, 71] (by decide +kernel) (by decide +kernel)
set_option maxRecDepth 20000 in
theorem gX5_init_X4_init_n11 : GoodIn wsX5_init (wsX4_init) := ggX5_init_X4_init
set_option maxRecDepth 20000 in
theorem ggX5_init_X1_init : GoodIn wsX5_init wsX1_init := goodIn_r _ [36, 37, 2, 3, 31, 38, 39, 40, 41, 42, 43, 44, 76, 77, 78, 79, 80, 81, 82] (by decide +kernel) (by decide +kernel)
set_option maxRecDepth 20000 in
theorem gX5_init_X1_init_n18 : GoodIn wsX5_init (wsX1_init) := ggX5_init_X1_init
set_option maxRecDepth 20000 in
theorem ggX5_init_X2_init : GoodIn wsX5_init wsX2_init := goodIn_r _ [47, 48, 2, 3, 31, 49, 50, 51, 52, 53, 54, 55, 56, 57, 58, 59, 60, 61, 83, 84, 85, 86, 87, 88, 89, 90, 91, 92, 93, 94, 95] (by decide +kernel) (by decide +kernel)
set_option maxRecDepth 20000 in
theorem gX5_init_X2_init : GoodIn wsX5_init (wsX2_init) := ggX5_init_X2_init
set_option maxRecDepth 20000 in
theorem ggX5_init_X0_init : GoodIn wsX5_init wsX0_init := goodIn_r _ [64, 65, 2, 3, 31, 66, 67, 68, 69, 96, 97, 98, 99] (by decide +kernel) (by decide +kernel)
set_option maxRecDepth 20000 in
theorem gX5_init_X0_init : GoodIn wsX5_init (wsX0_init) := ggX5_init_X0_init
theorem dX5_init_0 : decode cX5_init 0 = .ok (.aload_n 0, 1) := by decide +kernel
theorem dX5_init_1 : decode cX5_init 1 = .ok (.invokespecial 3, 3) := by decide +kernel
theorem dX5_init_4 : decode cX5_init 4 = .ok (.aload_n 0, 1) := by decide +kernel
theorem dX5_init_5 : decode cX5_init 5 = .ok (.new 9, 3) := by decide +kernel
theorem dX5_init_8 : decode cX5_init 8 = .ok (.dup, 1) := by decide +kernel
theorem dX5_init_9 : decode cX5_init 9 = .ok (.invokespecial 11, 3) := by decide +kernel
theorem dX5_init_12 : decode cX5_init 12 = .ok (.putfield 12, 3) := by decide +kernel
theorem dX5_init_15 : decode cX5_init 15 = .ok (.aload_n 0, 1) := by decide +kernel
theorem dX5_init_16 : decode cX5_init 16 = .ok (.new 16, 3) := by decide +kernel
theorem dX5_init_19 : decode cX5_init 19 = .ok (.dup, 1) := by decide +kernel
theorem dX5_init_20 : decode cX5_init 20 = .ok (.invokespecial 18, 3) := by decide +kernel
theorem dX5_init_23 : decode cX5_init 23 = .ok (.putfield 19, 3) := by decide +kernel
theorem dX5_init_26 : decode cX5_init 26 = .ok (.aload_n 0, 1) := by decide +kernel
theorem dX5_init_27 : decode cX5_init 27 = .ok (.new 23, 3) := by decide +kernel
theorem dX5_init_30 : decode cX5_init 30 = .ok (.dup, 1) := by decide +kernel
theorem dX5_init_31 : decode cX5_init 31 = .ok (.aload_n 0, 1) := by decide +kernel
theorem dX5_init_32 : decode cX5_init 32 = .ok (.getfield 12, 3) := by decide +kernel
theorem dX5_init_35 : decode cX5_init 35 = .ok (.invokespecial 25, 3) := by decide +kernel
theorem dX5_init_38 : decode cX5_init 38 = .ok (.putfield 28, 3) := by decide +kernel
theorem dX5_init_41 : decode cX5_init 41 = .ok (.aload_n 0, 1) := by decide +kernel
theorem dX5_init_42 : decode cX5_init 42 = .ok (.new 32, 3) := by decide +kernel
theorem dX5_init_45 : decode cX5_init 45 = .ok (.dup, 1) := by decide +kernel
theorem dX5_init_46 : decode cX5_init 46 = .ok (.aload_n 0, 1) := by decide +kernel
theorem dX5_init_47 : decode cX5_init 47 = .ok (.getfield 12, 3) := by decide +kernel
theorem dX5_init_50 : decode cX5_init 50 = .ok (.aload_n 0, 1) := by decide +kernel
theorem dX5_init_51 : decode cX5_init 51 = .ok (.getfield 28, 3) := by decide +kernel
theorem dX5_init_54 : decode cX5_init 54 = .ok (.invokespecial 34, 3) := by decide +kernel
theorem dX5_init_57 : decode cX5_init 57 = .ok (.putfield 37, 3) := by decide +kernel
theorem dX5_init_60 : decode cX5_init 60 = .ok (.return_, 1) := by decide +kernel
set_option maxRecDepth 20000 in
theorem ggX5_rule_X5_rowOf : GoodIn wsX5_rule wsX5_rowOf := goodIn_r _ [4, 5, 6, 3, 7, 8, 9, 10, 11, 12, 13, 14, 15, 16] (by decide +kernel) (by decide +kernel)
set_option maxRecDepth 20000 in
theorem gX5_rule_X5_rowOf : GoodIn wsX5_rule (va_wsS RX5 41 yX5_rowOf wsX5_rowOf) := goodIn_app (goodIn_of _ (by decide +kernel)) ggX5_rule_X5_rowOf
set_option maxRecDepth 20000 in
theorem ggX5_rule_X5_changeRule : GoodIn wsX5_rule wsX5_changeRule := goodIn_r _ [20, 21, 22, 23, 24, 25, 26, 27, 28, 14, 15, 3, 16, 29, 30, 31, 32, 33, 34, 35, 36, 37, 38, 39, 40, 41, 42, 43, 9, 10, 12, 13, 44, 45, 46, 47, 48, 49, 50, 51, 52, 53, 54, 55, 56, 57, 58, 59, 60, 61, 62, 63, 64, 65, 66, 67, 68, 69, 70, 71, 72, 73, 74, 75, 76, 77, 78, 79, 80, 81, 82, 83, 84, 85, 86, 87, 88, 89, 90] (by decide +kernel) (by decide +kernel)
set_option maxRecDepth 20000 in
theorem gX5_rule_X5_changeRule : GoodIn wsX5_rule (wsV RX5 45 RX5 yX5_changeRule wsX5_changeRule) := goodIn_app (goodIn_of _ (by decide +kernel)) ggX5_rule_X5_changeRule
theorem dX5_rule_0 : decode cX5_rule 0 = .ok (.aload_n 0, 1) := by decide +kernel
theorem dX5_rule_1 : decode cX5_rule 1 = .ok (.iload_n 1, 1) := by decide +kernel
theorem dX5_rule_2 : decode cX5_rule 2 = .ok (.iload_n 2, 1) := by decide +kernel
theorem dX5_rule_3 : decode cX5_rule 3 = .ok (.iload_n 3, 1) := by decide +kernel
theorem dX5_rule_4 : decode cX5_rule 4 = .ok (.iload 4, 2) := by decide +kernel
theorem dX5_rule_6 : decode cX5_rule 6 = .ok (.invokestatic 41, 3) := by decide +kernel
theorem dX5_rule_9 : decode cX5_rule 9 = .ok (.iload 5, 2) := by decide +kernel
theorem dX5_rule_11 : decode cX5_rule 11 = .ok (.iconst 1, 1) := by decide +kernel
theorem dX5_rule_12 : decode cX5_rule 12 = .ok (.invokevirtual 45, 3) := by decide +kernel
theorem dX5_rule_15 : decode cX5_rule 15 = .ok (.ireturn, 1) := by decide +kernel
set_option maxRecDepth 20000 in
theorem ggX5_drop_X5_rowOf : GoodIn wsX5_drop wsX5_rowOf := goodIn_r _ [4, 5, 6, 3, 7, 8, 9, 10, 11, 12, 13, 14, 15, 16] (by decide +kernel) (by decide +kernel)
set_option maxRecDepth 20000 in
theorem gX5_drop_X5_rowOf : GoodIn wsX5_drop (va_wsS RX5 41 yX5_rowOf wsX5_rowOf) := goodIn_app (goodIn_of _ (by decide +kernel)) ggX5_drop_X5_rowOf
set_option maxRecDepth 20000 in
theorem ggX5_drop_X5_changeRule : GoodIn wsX5_drop wsX5_changeRule := goodIn_r _ [20, 21, 22, 23, 24, 25, 26, 27, 28, 14, 15, 3, 16, 29, 30, 31, 32, 33, 34, 35, 36, 37, 38, 39, 40, 41, 42, 43, 9, 10, 12, 13, 44, 45, 46, 47, 48, 49, 50, 51, 52, 53, 54, 55, 56, 57, 58, 59, 60, 61, 62, 63, 64, 65, 66, 67, 68, 69, 70, 71, 72, 73, 74, 75, 76, 77, 78, 79, 80, 81, 82, 83, 84, 85, 86, 87, 88, 89, 90] (by decide +kernel) (by decide +kernel)
set_option maxRecDepth 20000 in
theorem gX5_drop_X5_changeRule : GoodIn wsX5_drop (wsV RX5 45 RX5 yX5_changeRule wsX5_changeRule) := goodIn_app (goodIn_of _ (by decide +kernel)) ggX5_drop_X5_changeRule
theorem dX5_drop_0 : decode cX5_drop 0 = .ok (.aload_n 0, 1) := by decide +kernel
theorem dX5_drop_1 : decode cX5_drop 1 = .ok (.iload_n 1, 1) := by decide +kernel
theorem dX5_drop_2 : decode cX5_drop 2 = .ok (.iload_n 2, 1) := by decide +kernel
theorem dX5_drop_3 : decode cX5_drop 3 = .ok (.iload_n 3, 1) := by decide +kernel
theorem dX5_drop_4 : decode cX5_drop 4 = .ok (.iload 4, 2) := by decide +kernel
theorem dX5_drop_6 : decode cX5_drop 6 = .ok (.invokestatic 41, 3) := by decide +kernel
theorem dX5_drop_9 : decode cX5_drop 9 = .ok (.iload 5, 2) := by decide +kernel
theorem dX5_drop_11 : decode cX5_drop 11 = .ok (.iconst 0, 1) := by decide +kernel
theorem dX5_drop_12 : decode cX5_drop 12 = .ok (.invokevirtual 45, 3) := by decide +kernel
theorem dX5_drop_15 : decode cX5_drop 15 = .ok (.ireturn, 1) := by decide +kernel
set_option maxRecDepth 20000 in
theorem ggX5_isRule_X4_numbered : GoodIn wsX5_isRule wsX4_numbered := goodIn_r _ [6, 7, 8, 35, 36] (by decide +kernel) (by decide +kernel)
set_option maxRecDepth 20000 in
theorem gX5_isRule_X4_numbered : GoodIn wsX5_isRule (wsV RX5 49 RX4 yX4_numbered wsX4_numbered) := goodIn_app (goodIn_of _ (by decide +kernel)) ggX5_isRule_X4_numbered
set_option maxRecDepth 20000 in
theorem ggX5_isRule_X5_rowOf : GoodIn wsX5_isRule wsX5_rowOf := goodIn_r _ [12, 13, 14, 11, 15, 16, 17, 18, 19, 20, 21, 22, 23, 24] (by decide +kernel) (by decide +kernel)
set_option maxRecDepth 20000 in
theorem gX5_isRule_X5_rowOf : GoodIn wsX5_isRule (va_wsS RX5 41 yX5_rowOf wsX5_rowOf) := goodIn_app (goodIn_of _ (by decide +kernel)) ggX5_isRule_X5_rowOf
set_option maxRecDepth 20000 in
theorem ggX5_isRule_X5_isState : GoodIn wsX5_isRule wsX5_isState := goodIn_r _ [24] (by decide +kernel) (by decide +kernel)
set_option maxRecDepth 20000 in
theorem gX5_isRule_X5_isState : GoodIn wsX5_isRule (va_wsS RX5 53 yX5_isState wsX5_isState) := goodIn_app (goodIn_of _ (by decide +kernel)) ggX5_isRule_X5_isState
set_option maxRecDepth 20000 in
theorem ggX5_isRule_X3_leads : GoodIn wsX5_isRule wsX3_leads := goodIn_r _ [29, 30, 37, 38, 39] (by decide +kernel) (by decide +kernel)
set_option maxRecDepth 20000 in
theorem gX5_isRule_X3_leads : GoodIn wsX5_isRule (wsV RX5 57 RX3 yX3_leads wsX3_leads) := goodIn_app (goodIn_of _ (by decide +kernel)) ggX5_isRule_X3_leads
theorem dX5_isRule_0 : decode cX5_isRule 0 = .ok (.aload_n 0, 1) := by decide +kernel
theorem dX5_isRule_1 : decode cX5_isRule 1 = .ok (.getfield 12, 3) := by decide +kernel
theorem dX5_isRule_4 : decode cX5_isRule 4 = .ok (.iload_n 1, 1) := by decide +kernel
theorem dX5_isRule_5 : decode cX5_isRule 5 = .ok (.invokevirtual 49, 3) := by decide +kernel
theorem dX5_isRule_8 : decode cX5_isRule 8 = .ok (.astore 6, 2) := by decide +kernel
theorem dX5_isRule_10 : decode cX5_isRule 10 = .ok (.iload_n 2, 1) := by decide +kernel
theorem dX5_isRule_11 : decode cX5_isRule 11 = .ok (.iload_n 3, 1) := by decide +kernel
theorem dX5_isRule_12 : decode cX5_isRule 12 = .ok (.iload 4, 2) := by decide +kernel
theorem dX5_isRule_14 : decode cX5_isRule 14 = .ok (.invokestatic 41, 3) := by decide +kernel
theorem dX5_isRule_17 : decode cX5_isRule 17 = .ok (.istore 7, 2) := by decide +kernel
theorem dX5_isRule_19 : decode cX5_isRule 19 = .ok (.aload 6, 2) := by decide +kernel
theorem dX5_isRule_21 : decode cX5_isRule 21 = .ok (.ifnull 33, 3) := by decide +kernel
theorem dX5_isRule_24 : decode cX5_isRule 24 = .ok (.iload 7, 2) := by decide +kernel
theorem dX5_isRule_26 : decode cX5_isRule 26 = .ok (.iconst (-1), 1) := by decide +kernel
theorem dX5_isRule_27 : decode cX5_isRule 27 = .ok (.if_icmp .eq 27, 3) := by decide +kernel
theorem dX5_isRule_30 : decode cX5_isRule 30 = .ok (.iload 5, 2) := by decide +kernel
theorem dX5_isRule_32 : decode cX5_isRule 32 = .ok (.invokestatic 53, 3) := by decide +kernel
theorem dX5_isRule_35 : decode cX5_isRule 35 = .ok (.ifCond .eq 19, 3) := by decide +kernel
theorem dX5_isRule_38 : decode cX5_isRule 38 = .ok (.aload 6, 2) := by decide +kernel
theorem dX5_isRule_40 : decode cX5_isRule 40 = .ok (.iload 7, 2) := by decide +kernel
theorem dX5_isRule_42 : decode cX5_isRule 42 = .ok (.iload 5, 2) := by decide +kernel
theorem dX5_isRule_44 : decode cX5_isRule 44 = .ok (.invokevirtual 57, 3) := by decide +kernel
theorem dX5_isRule_47 : decode cX5_isRule 47 = .ok (.ifCond .eq 7, 3) := by decide +kernel
theorem dX5_isRule_50 : decode cX5_isRule 50 = .ok (.iconst 1, 1) := by decide +kernel
theorem dX5_isRule_51 : decode cX5_isRule 51 = .ok (.goto 4, 3) := by decide +kernel
theorem dX5_isRule_54 : decode cX5_isRule 54 = .ok (.iconst 0, 1) := by decide +kernel
theorem dX5_isRule_55 : decode cX5_isRule 55 = .ok (.ireturn, 1) := by decide +kernel
set_option maxRecDepth 20000 in
theorem ggX5_goal_X4_numbered : GoodIn wsX5_goal wsX4_numbered := goodIn_r _ [6, 7, 8, 27, 28] (by decide +kernel) (by decide +kernel)
set_option maxRecDepth 20000 in
theorem gX5_goal_X4_numbered : GoodIn wsX5_goal (wsV RX5 49 RX4 yX4_numbered wsX4_numbered) := goodIn_app (goodIn_of _ (by decide +kernel)) ggX5_goal_X4_numbered
set_option maxRecDepth 20000 in
theorem ggX5_goal_X5_isState : GoodIn wsX5_goal wsX5_isState := goodIn_r _ [12] (by decide +kernel) (by decide +kernel)
set_option maxRecDepth 20000 in
theorem gX5_goal_X5_isState : GoodIn wsX5_goal (va_wsS RX5 53 yX5_isState wsX5_isState) := goodIn_app (goodIn_of _ (by decide +kernel)) ggX5_goal_X5_isState
set_option maxRecDepth 20000 in
theorem ggX5_goal_X3_isGoal : GoodIn wsX5_goal wsX3_isGoal := goodIn_r _ [17, 18, 29, 30, 31] (by decide +kernel) (by decide +kernel)
set_option maxRecDepth 20000 in
theorem gX5_goal_X3_isGoal : GoodIn wsX5_goal (wsV RX5 63 RX3 yX3_isGoal wsX3_isGoal) := goodIn_app (goodIn_of _ (by decide +kernel)) ggX5_goal_X3_isGoal
set_option maxRecDepth 20000 in
theorem ggX5_goal_X3_turnGoal : GoodIn wsX5_goal wsX3_turnGoal := goodIn_r _ [22, 18, 29, 30, 31] (by decide +kernel) (by decide +kernel)
set_option maxRecDepth 20000 in
theorem gX5_goal_X3_turnGoal : GoodIn wsX5_goal (wsV RX5 66 RX3 yX3_turnGoal wsX3_turnGoal) := goodIn_app (goodIn_of _ (by decide +kernel)) ggX5_goal_X3_turnGoal
theorem dX5_goal_0 : decode cX5_goal 0 = .ok (.aload_n 0, 1) := by decide +kernel
theorem dX5_goal_1 : decode cX5_goal 1 = .ok (.getfield 12, 3) := by decide +kernel
theorem dX5_goal_4 : decode cX5_goal 4 = .ok (.iload_n 1, 1) := by decide +kernel
theorem dX5_goal_5 : decode cX5_goal 5 = .ok (.invokevirtual 49, 3) := by decide +kernel
theorem dX5_goal_8 : decode cX5_goal 8 = .ok (.astore 4, 2) := by decide +kernel
theorem dX5_goal_10 : decode cX5_goal 10 = .ok (.aload 4, 2) := by decide +kernel
theorem dX5_goal_12 : decode cX5_goal 12 = .ok (.ifnull 20, 3) := by decide +kernel
theorem dX5_goal_15 : decode cX5_goal 15 = .ok (.iload_n 2, 1) := by decide +kernel
theorem dX5_goal_16 : decode cX5_goal 16 = .ok (.invokestatic 53, 3) := by decide +kernel
theorem dX5_goal_19 : decode cX5_goal 19 = .ok (.ifCond .eq 13, 3) := by decide +kernel
theorem dX5_goal_22 : decode cX5_goal 22 = .ok (.aload 4, 2) := by decide +kernel
theorem dX5_goal_24 : decode cX5_goal 24 = .ok (.iload_n 2, 1) := by decide +kernel
theorem dX5_goal_25 : decode cX5_goal 25 = .ok (.invokevirtual 63, 3) := by decide +kernel
theorem dX5_goal_28 : decode cX5_goal 28 = .ok (.iload_n 3, 1) := by decide +kernel
theorem dX5_goal_29 : decode cX5_goal 29 = .ok (.if_icmp .ne 5, 3) := by decide +kernel
theorem dX5_goal_32 : decode cX5_goal 32 = .ok (.iconst 0, 1) := by decide +kernel
theorem dX5_goal_33 : decode cX5_goal 33 = .ok (.ireturn, 1) := by decide +kernel
theorem dX5_goal_34 : decode cX5_goal 34 = .ok (.aload 4, 2) := by decide +kernel
theorem dX5_goal_36 : decode cX5_goal 36 = .ok (.iload_n 2, 1) := by decide +kernel
theorem dX5_goal_37 : decode cX5_goal 37 = .ok (.invokevirtual 66, 3) := by decide +kernel
theorem dX5_goal_40 : decode cX5_goal 40 = .ok (.iconst 1, 1) := by decide +kernel
theorem dX5_goal_41 : decode cX5_goal 41 = .ok (.ireturn, 1) := by decide +kernel
set_option maxRecDepth 20000 in
theorem ggX5_clear_X4_numbered : GoodIn wsX5_clear wsX4_numbered := goodIn_r _ [6, 7, 8, 44, 45] (by decide +kernel) (by decide +kernel)
set_option maxRecDepth 20000 in
theorem gX5_clear_X4_numbered : GoodIn wsX5_clear (wsV RX5 49 RX4 yX4_numbered wsX4_numbered) := goodIn_app (goodIn_of _ (by decide +kernel)) ggX5_clear_X4_numbered
set_option maxRecDepth 20000 in
theorem ggX5_clear_X3_empty : GoodIn wsX5_clear wsX3_empty := goodIn_r _ [13, 14, 15, 16, 17, 18, 19, 20, 46, 47, 48] (by decide +kernel) (by decide +kernel)
set_option maxRecDepth 20000 in
theorem gX5_clear_X3_empty : GoodIn wsX5_clear (wsV RX5 70 RX3 yX3_empty wsX3_empty) := goodIn_app (goodIn_of _ (by decide +kernel)) ggX5_clear_X3_empty
set_option maxRecDepth 20000 in
theorem ggX5_clear_X5_forgetProfiles : GoodIn wsX5_clear wsX5_forgetProfiles := goodIn_r _ [25, 26, 27, 28, 29, 30, 31, 32, 33, 34, 35, 36, 37, 38, 39, 40, 41, 42, 43, 49, 50, 51, 52, 53, 54, 55, 56, 57, 58, 59, 60, 61, 62, 63, 64, 65] (by decide +kernel) (by decide +kernel)
set_option maxRecDepth 20000 in
theorem gX5_clear_X5_forgetProfiles : GoodIn wsX5_clear (wsV RX5 73 RX5 yX5_forgetProfiles wsX5_forgetProfiles) := goodIn_app (goodIn_of _ (by decide +kernel)) ggX5_clear_X5_forgetProfiles
theorem dX5_clear_0 : decode cX5_clear 0 = .ok (.aload_n 0, 1) := by decide +kernel
theorem dX5_clear_1 : decode cX5_clear 1 = .ok (.getfield 12, 3) := by decide +kernel
theorem dX5_clear_4 : decode cX5_clear 4 = .ok (.iload_n 1, 1) := by decide +kernel
theorem dX5_clear_5 : decode cX5_clear 5 = .ok (.invokevirtual 49, 3) := by decide +kernel
theorem dX5_clear_8 : decode cX5_clear 8 = .ok (.astore_n 2, 1) := by decide +kernel
theorem dX5_clear_9 : decode cX5_clear 9 = .ok (.aload_n 2, 1) := by decide +kernel
theorem dX5_clear_10 : decode cX5_clear 10 = .ok (.ifnonnull 5, 3) := by decide +kernel
theorem dX5_clear_13 : decode cX5_clear 13 = .ok (.iconst 0, 1) := by decide +kernel
theorem dX5_clear_14 : decode cX5_clear 14 = .ok (.ireturn, 1) := by decide +kernel
theorem dX5_clear_15 : decode cX5_clear 15 = .ok (.aload_n 2, 1) := by decide +kernel
theorem dX5_clear_16 : decode cX5_clear 16 = .ok (.invokevirtual 70, 3) := by decide +kernel
theorem dX5_clear_19 : decode cX5_clear 19 = .ok (.aload_n 0, 1) := by decide +kernel
theorem dX5_clear_20 : decode cX5_clear 20 = .ok (.invokevirtual 73, 3) := by decide +kernel
theorem dX5_clear_23 : decode cX5_clear 23 = .ok (.iconst 1, 1) := by decide +kernel
theorem dX5_clear_24 : decode cX5_clear 24 = .ok (.ireturn, 1) := by decide +kernel
set_option maxRecDepth 20000 in
theorem ggX5_node_X5_isSymbol : GoodIn wsX5_node wsX5_isSymbol := goodIn_r _ [5] (by decide +kernel) (by decide +kernel)
set_option maxRecDepth 20000 in
theorem gX5_node_X5_isSymbol : GoodIn wsX5_node (va_wsS RX5 76 yX5_isSymbol wsX5_isSymbol) := goodIn_app (goodIn_of _ (by decide +kernel)) ggX5_node_X5_isSymbol
set_option maxRecDepth 20000 in
theorem ggX5_node_X5_hasLeft : GoodIn wsX5_node wsX5_hasLeft := goodIn_r _ [8] (by decide +kernel) (by decide +kernel)
set_option maxRecDepth 20000 in
theorem gX5_node_X5_hasLeft : GoodIn wsX5_node (va_wsS RX5 79 yX5_hasLeft wsX5_hasLeft) := goodIn_app (goodIn_of _ (by decide +kernel)) ggX5_node_X5_hasLeft
set_option maxRecDepth 20000 in
theorem ggX5_node_X1_holds : GoodIn wsX5_node wsX1_holds := goodIn_r _ [13, 14, 42, 43, 44, 45, 46, 47, 48] (by decide +kernel) (by decide +kernel)
set_option maxRecDepth 20000 in
theorem gX5_node_X1_holds : GoodIn wsX5_node (wsV RX5 82 RX1 yX1_holds wsX1_holds) := goodIn_app (goodIn_of _ (by decide +kernel)) ggX5_node_X1_holds
set_option maxRecDepth 20000 in
theorem ggX5_node_X5_hasRight : GoodIn wsX5_node wsX5_hasRight := goodIn_r _ [17] (by decide +kernel) (by decide +kernel)
set_option maxRecDepth 20000 in
theorem gX5_node_X5_hasRight : GoodIn wsX5_node (va_wsS RX5 85 yX5_hasRight wsX5_hasRight) := goodIn_app (goodIn_of _ (by decide +kernel)) ggX5_node_X5_hasRight
set_option maxRecDepth 20000 in
theorem ggX5_node_X1_room : GoodIn wsX5_node wsX1_room := goodIn_r _ [21, 14, 42, 43, 44, 45, 46, 47, 48] (by decide +kernel) (by decide +kernel)
set_option maxRecDepth 20000 in
theorem gX5_node_X1_room : GoodIn wsX5_node (wsV RX5 88 RX1 yX1_room wsX1_room) := goodIn_app (goodIn_of _ (by decide +kernel)) ggX5_node_X1_room
set_option maxRecDepth 20000 in
theorem ggX5_node_X1_add : GoodIn wsX5_node wsX1_add := goodIn_r _ [25, 14, 26, 27, 28, 29, 30, 31, 32, 33, 7, 4, 8, 16, 17, 34, 35, 36, 12, 37, 42, 43, 44, 45, 46, 47, 48] (by decide +kernel) (by decide +kernel)
set_option maxRecDepth 20000 in
theorem gX5_node_X1_add : GoodIn wsX5_node (wsV RX5 92 RX1 yX1_add wsX1_add) := goodIn_app (goodIn_of _ (by decide +kernel)) ggX5_node_X1_add
theorem dX5_node_0 : decode cX5_node 0 = .ok (.iload_n 1, 1) := by decide +kernel
theorem dX5_node_1 : decode cX5_node 1 = .ok (.invokestatic 76, 3) := by decide +kernel
theorem dX5_node_4 : decode cX5_node 4 = .ok (.ifCond .ne 5, 3) := by decide +kernel
theorem dX5_node_7 : decode cX5_node 7 = .ok (.iconst (-1), 1) := by decide +kernel
theorem dX5_node_8 : decode cX5_node 8 = .ok (.ireturn, 1) := by decide +kernel
theorem dX5_node_9 : decode cX5_node 9 = .ok (.iload_n 1, 1) := by decide +kernel
theorem dX5_node_10 : decode cX5_node 10 = .ok (.invokestatic 79, 3) := by decide +kernel
theorem dX5_node_13 : decode cX5_node 13 = .ok (.ifCond .eq 18, 3) := by decide +kernel
theorem dX5_node_16 : decode cX5_node 16 = .ok (.aload_n 0, 1) := by decide +kernel
theorem dX5_node_17 : decode cX5_node 17 = .ok (.getfield 19, 3) := by decide +kernel
theorem dX5_node_20 : decode cX5_node 20 = .ok (.iload_n 2, 1) := by decide +kernel
theorem dX5_node_21 : decode cX5_node 21 = .ok (.invokevirtual 82, 3) := by decide +kernel
theorem dX5_node_24 : decode cX5_node 24 = .ok (.ifCond .ne 7, 3) := by decide +kernel
theorem dX5_node_27 : decode cX5_node 27 = .ok (.iconst 1, 1) := by decide +kernel
theorem dX5_node_28 : decode cX5_node 28 = .ok (.goto 4, 3) := by decide +kernel
theorem dX5_node_31 : decode cX5_node 31 = .ok (.iconst 0, 1) := by decide +kernel
theorem dX5_node_32 : decode cX5_node 32 = .ok (.istore 4, 2) := by decide +kernel
theorem dX5_node_34 : decode cX5_node 34 = .ok (.iload_n 1, 1) := by decide +kernel
theorem dX5_node_35 : decode cX5_node 35 = .ok (.invokestatic 85, 3) := by decide +kernel
theorem dX5_node_38 : decode cX5_node 38 = .ok (.ifCond .eq 18, 3) := by decide +kernel
theorem dX5_node_41 : decode cX5_node 41 = .ok (.aload_n 0, 1) := by decide +kernel
theorem dX5_node_42 : decode cX5_node 42 = .ok (.getfield 19, 3) := by decide +kernel
theorem dX5_node_45 : decode cX5_node 45 = .ok (.iload_n 3, 1) := by decide +kernel
theorem dX5_node_46 : decode cX5_node 46 = .ok (.invokevirtual 82, 3) := by decide +kernel
theorem dX5_node_49 : decode cX5_node 49 = .ok (.ifCond .ne 7, 3) := by decide +kernel
theorem dX5_node_52 : decode cX5_node 52 = .ok (.iconst 1, 1) := by decide +kernel
theorem dX5_node_53 : decode cX5_node 53 = .ok (.goto 4, 3) := by decide +kernel
theorem dX5_node_56 : decode cX5_node 56 = .ok (.iconst 0, 1) := by decide +kernel
theorem dX5_node_57 : decode cX5_node 57 = .ok (.istore 5, 2) := by decide +kernel
theorem dX5_node_59 : decode cX5_node 59 = .ok (.iload 4, 2) := by decide +kernel
theorem dX5_node_61 : decode cX5_node 61 = .ok (.ifCond .ne 8, 3) := by decide +kernel
theorem dX5_node_64 : decode cX5_node 64 = .ok (.iload 5, 2) := by decide +kernel
theorem dX5_node_66 : decode cX5_node 66 = .ok (.ifCond .eq 6, 3) := by decide +kernel
theorem dX5_node_69 : decode cX5_node 69 = .ok (.bipush (-2), 2) := by decide +kernel
theorem dX5_node_71 : decode cX5_node 71 = .ok (.ireturn, 1) := by decide +kernel
theorem dX5_node_72 : decode cX5_node 72 = .ok (.aload_n 0, 1) := by decide +kernel
theorem dX5_node_73 : decode cX5_node 73 = .ok (.getfield 19, 3) := by decide +kernel
theorem dX5_node_76 : decode cX5_node 76 = .ok (.invokevirtual 88, 3) := by decide +kernel
theorem dX5_node_79 : decode cX5_node 79 = .ok (.iconst 1, 1) := by decide +kernel
theorem dX5_node_80 : decode cX5_node 80 = .ok (.if_icmp .ge 6, 3) := by decide +kernel
theorem dX5_node_83 : decode cX5_node 83 = .ok (.bipush (-3), 2) := by decide +kernel
theorem dX5_node_85 : decode cX5_node 85 = .ok (.ireturn, 1) := by decide +kernel
theorem dX5_node_86 : decode cX5_node 86 = .ok (.aload_n 0, 1) := by decide +kernel
theorem dX5_node_87 : decode cX5_node 87 = .ok (.getfield 19, 3) := by decide +kernel
theorem dX5_node_90 : decode cX5_node 90 = .ok (.iload_n 1, 1) := by decide +kernel
theorem dX5_node_91 : decode cX5_node 91 = .ok (.iload_n 2, 1) := by decide +kernel
theorem dX5_node_92 : decode cX5_node 92 = .ok (.iload_n 3, 1) := by decide +kernel
theorem dX5_node_93 : decode cX5_node 93 = .ok (.invokevirtual 92, 3) := by decide +kernel
theorem dX5_node_96 : decode cX5_node 96 = .ok (.ireturn, 1) := by decide +kernel
set_option maxRecDepth 20000 in
theorem ggX5_nodes_X1_count : GoodIn wsX5_nodes wsX1_count := goodIn_r _ [6, 7, 12, 13, 14, 15, 16, 17, 18] (by decide +kernel) (by decide +kernel)
set_option maxRecDepth 20000 in
theorem gX5_nodes_X1_count : GoodIn wsX5_nodes (wsV RX5 95 RX1 yX1_count wsX1_count) := goodIn_app (goodIn_of _ (by decide +kernel)) ggX5_nodes_X1_count
theorem dX5_nodes_0 : decode cX5_nodes 0 = .ok (.aload_n 0, 1) := by decide +kernel
theorem dX5_nodes_1 : decode cX5_nodes 1 = .ok (.getfield 19, 3) := by decide +kernel
theorem dX5_nodes_4 : decode cX5_nodes 4 = .ok (.invokevirtual 95, 3) := by decide +kernel
theorem dX5_nodes_7 : decode cX5_nodes 7 = .ok (.ireturn, 1) := by decide +kernel
set_option maxRecDepth 20000 in
theorem ggX5_part_X1_holds : GoodIn wsX5_part wsX1_holds := goodIn_r _ [6, 7, 27, 28, 29, 30, 31, 32, 33] (by decide +kernel) (by decide +kernel)
set_option maxRecDepth 20000 in
theorem gX5_part_X1_holds : GoodIn wsX5_part (wsV RX5 82 RX1 yX1_holds wsX1_holds) := goodIn_app (goodIn_of _ (by decide +kernel)) ggX5_part_X1_holds
set_option maxRecDepth 20000 in
theorem ggX5_part_X1_symbolOf : GoodIn wsX5_part wsX1_symbolOf := goodIn_r _ [11, 12, 27, 28, 29, 30, 31, 32, 33] (by decide +kernel) (by decide +kernel)
set_option maxRecDepth 20000 in
theorem gX5_part_X1_symbolOf : GoodIn wsX5_part (wsV RX5 98 RX1 yX1_symbolOf wsX1_symbolOf) := goodIn_app (goodIn_of _ (by decide +kernel)) ggX5_part_X1_symbolOf
set_option maxRecDepth 20000 in
theorem ggX5_part_X1_leftOf : GoodIn wsX5_part wsX1_leftOf := goodIn_r _ [16, 17, 27, 28, 29, 30, 31, 32, 33] (by decide +kernel) (by decide +kernel)
set_option maxRecDepth 20000 in
theorem gX5_part_X1_leftOf : GoodIn wsX5_part (wsV RX5 102 RX1 yX1_leftOf wsX1_leftOf) := goodIn_app (goodIn_of _ (by decide +kernel)) ggX5_part_X1_leftOf
set_option maxRecDepth 20000 in
theorem ggX5_part_X1_rightOf : GoodIn wsX5_part wsX1_rightOf := goodIn_r _ [21, 22, 27, 28, 29, 30, 31, 32, 33] (by decide +kernel) (by decide +kernel)
set_option maxRecDepth 20000 in
theorem gX5_part_X1_rightOf : GoodIn wsX5_part (wsV RX5 105 RX1 yX1_rightOf wsX1_rightOf) := goodIn_app (goodIn_of _ (by decide +kernel)) ggX5_part_X1_rightOf
theorem dX5_part_0 : decode cX5_part 0 = .ok (.aload_n 0, 1) := by decide +kernel
theorem dX5_part_1 : decode cX5_part 1 = .ok (.getfield 19, 3) := by decide +kernel
theorem dX5_part_4 : decode cX5_part 4 = .ok (.iload_n 1, 1) := by decide +kernel
theorem dX5_part_5 : decode cX5_part 5 = .ok (.invokevirtual 82, 3) := by decide +kernel
theorem dX5_part_8 : decode cX5_part 8 = .ok (.ifCond .ne 6, 3) := by decide +kernel
theorem dX5_part_11 : decode cX5_part 11 = .ok (.bipush (-2), 2) := by decide +kernel
theorem dX5_part_13 : decode cX5_part 13 = .ok (.ireturn, 1) := by decide +kernel
theorem dX5_part_14 : decode cX5_part 14 = .ok (.iload_n 2, 1) := by decide +kernel
theorem dX5_part_15 : decode cX5_part 15 = .ok (.tableswitch 52 0 2 #[25, 34, 43], 25) := by decide +kernel
theorem dX5_part_40 : decode cX5_part 40 = .ok (.aload_n 0, 1) := by decide +kernel
theorem dX5_part_41 : decode cX5_part 41 = .ok (.getfield 19, 3) := by decide +kernel
theorem dX5_part_44 : decode cX5_part 44 = .ok (.iload_n 1, 1) := by decide +kernel
theorem dX5_part_45 : decode cX5_part 45 = .ok (.invokevirtual 98, 3) := by decide +kernel
theorem dX5_part_48 : decode cX5_part 48 = .ok (.ireturn, 1) := by decide +kernel
theorem dX5_part_49 : decode cX5_part 49 = .ok (.aload_n 0, 1) := by decide +kernel
theorem dX5_part_50 : decode cX5_part 50 = .ok (.getfield 19, 3) := by decide +kernel
theorem dX5_part_53 : decode cX5_part 53 = .ok (.iload_n 1, 1) := by decide +kernel
theorem dX5_part_54 : decode cX5_part 54 = .ok (.invokevirtual 102, 3) := by decide +kernel
theorem dX5_part_57 : decode cX5_part 57 = .ok (.ireturn, 1) := by decide +kernel
theorem dX5_part_58 : decode cX5_part 58 = .ok (.aload_n 0, 1) := by decide +kernel
theorem dX5_part_59 : decode cX5_part 59 = .ok (.getfield 19, 3) := by decide +kernel
theorem dX5_part_62 : decode cX5_part 62 = .ok (.iload_n 1, 1) := by decide +kernel
theorem dX5_part_63 : decode cX5_part 63 = .ok (.invokevirtual 105, 3) := by decide +kernel
theorem dX5_part_66 : decode cX5_part 66 = .ok (.ireturn, 1) := by decide +kernel
theorem dX5_part_67 : decode cX5_part 67 = .ok (.bipush (-2), 2) := by decide +kernel
theorem dX5_part_69 : decode cX5_part 69 = .ok (.ireturn, 1) := by decide +kernel
set_option maxRecDepth 20000 in
theorem ggX5_reached_X4_numbered : GoodIn wsX5_reached wsX4_numbered := goodIn_r _ [7, 8, 9, 44, 45] (by decide +kernel) (by decide +kernel)
set_option maxRecDepth 20000 in
theorem gX5_reached_X4_numbered : GoodIn wsX5_reached (wsV RX5 49 RX4 yX4_numbered wsX4_numbered) := goodIn_app (goodIn_of _ (by decide +kernel)) ggX5_reached_X4_numbered
set_option maxRecDepth 20000 in
theorem ggX5_reached_X1_holds : GoodIn wsX5_reached wsX1_holds := goodIn_r _ [14, 15, 46, 47, 48, 49, 50, 51, 52] (by decide +kernel) (by decide +kernel)
set_option maxRecDepth 20000 in
theorem gX5_reached_X1_holds : GoodIn wsX5_reached (wsV RX5 82 RX1 yX1_holds wsX1_holds) := goodIn_app (goodIn_of _ (by decide +kernel)) ggX5_reached_X1_holds
set_option maxRecDepth 20000 in
theorem ggX5_reached_X1_profileOf : GoodIn wsX5_reached wsX1_profileOf := goodIn_r _ [19, 20, 21, 22, 23, 24, 25, 26, 13, 27, 28, 29, 30, 6, 31, 8, 32, 9, 46, 47, 48, 49, 50, 51, 52, 44, 45, 53, 54, 55] (by decide +kernel) (by decide +kernel)
set_option maxRecDepth 20000 in
theorem gX5_reached_X1_profileOf : GoodIn wsX5_reached (wsV RX5 108 RX1 yX1_profileOf wsX1_profileOf) := goodIn_app (goodIn_of _ (by decide +kernel)) ggX5_reached_X1_profileOf
set_option maxRecDepth 20000 in
theorem ggX5_reached_X5_firstSet : GoodIn wsX5_reached wsX5_firstSet := goodIn_r _ [36] (by decide +kernel) (by decide +kernel)
set_option maxRecDepth 20000 in
theorem gX5_reached_X5_firstSet : GoodIn wsX5_reached (va_wsS RX5 112 yX5_firstSet wsX5_firstSet) := goodIn_app (goodIn_of _ (by decide +kernel)) ggX5_reached_X5_firstSet
set_option maxRecDepth 20000 in
theorem ggX5_reached_X5_secondSet : GoodIn wsX5_reached wsX5_secondSet := goodIn_r _ [39] (by decide +kernel) (by decide +kernel)
set_option maxRecDepth 20000 in
theorem gX5_reached_X5_secondSet : GoodIn wsX5_reached (va_wsS RX5 115 yX5_secondSet wsX5_secondSet) := goodIn_app (goodIn_of _ (by decide +kernel)) ggX5_reached_X5_secondSet
theorem dX5_reached_0 : decode cX5_reached 0 = .ok (.aload_n 0, 1) := by decide +kernel
theorem dX5_reached_1 : decode cX5_reached 1 = .ok (.getfield 12, 3) := by decide +kernel
theorem dX5_reached_4 : decode cX5_reached 4 = .ok (.iload_n 1, 1) := by decide +kernel
theorem dX5_reached_5 : decode cX5_reached 5 = .ok (.invokevirtual 49, 3) := by decide +kernel
theorem dX5_reached_8 : decode cX5_reached 8 = .ok (.ifnull 14, 3) := by decide +kernel
theorem dX5_reached_11 : decode cX5_reached 11 = .ok (.aload_n 0, 1) := by decide +kernel
theorem dX5_reached_12 : decode cX5_reached 12 = .ok (.getfield 19, 3) := by decide +kernel
theorem dX5_reached_15 : decode cX5_reached 15 = .ok (.iload_n 2, 1) := by decide +kernel
theorem dX5_reached_16 : decode cX5_reached 16 = .ok (.invokevirtual 82, 3) := by decide +kernel
theorem dX5_reached_19 : decode cX5_reached 19 = .ok (.ifCond .ne 5, 3) := by decide +kernel
theorem dX5_reached_22 : decode cX5_reached 22 = .ok (.iconst (-1), 1) := by decide +kernel
theorem dX5_reached_23 : decode cX5_reached 23 = .ok (.ireturn, 1) := by decide +kernel
theorem dX5_reached_24 : decode cX5_reached 24 = .ok (.aload_n 0, 1) := by decide +kernel
theorem dX5_reached_25 : decode cX5_reached 25 = .ok (.getfield 19, 3) := by decide +kernel
theorem dX5_reached_28 : decode cX5_reached 28 = .ok (.iload_n 2, 1) := by decide +kernel
theorem dX5_reached_29 : decode cX5_reached 29 = .ok (.aload_n 0, 1) := by decide +kernel
theorem dX5_reached_30 : decode cX5_reached 30 = .ok (.getfield 12, 3) := by decide +kernel
theorem dX5_reached_33 : decode cX5_reached 33 = .ok (.invokevirtual 108, 3) := by decide +kernel
theorem dX5_reached_36 : decode cX5_reached 36 = .ok (.istore_n 3, 1) := by decide +kernel
theorem dX5_reached_37 : decode cX5_reached 37 = .ok (.iload_n 1, 1) := by decide +kernel
theorem dX5_reached_38 : decode cX5_reached 38 = .ok (.ifCond .ne 10, 3) := by decide +kernel
theorem dX5_reached_41 : decode cX5_reached 41 = .ok (.iload_n 3, 1) := by decide +kernel
theorem dX5_reached_42 : decode cX5_reached 42 = .ok (.invokestatic 112, 3) := by decide +kernel
theorem dX5_reached_45 : decode cX5_reached 45 = .ok (.goto 7, 3) := by decide +kernel
theorem dX5_reached_48 : decode cX5_reached 48 = .ok (.iload_n 3, 1) := by decide +kernel
theorem dX5_reached_49 : decode cX5_reached 49 = .ok (.invokestatic 115, 3) := by decide +kernel
theorem dX5_reached_52 : decode cX5_reached 52 = .ok (.ireturn, 1) := by decide +kernel
set_option maxRecDepth 20000 in
theorem ggX5_place_X1_holds : GoodIn wsX5_place wsX1_holds := goodIn_r _ [7, 8, 48, 49, 50, 51, 52, 53, 54] (by decide +kernel) (by decide +kernel)
set_option maxRecDepth 20000 in
theorem gX5_place_X1_holds : GoodIn wsX5_place (wsV RX5 82 RX1 yX1_holds wsX1_holds) := goodIn_app (goodIn_of _ (by decide +kernel)) ggX5_place_X1_holds
set_option maxRecDepth 20000 in
theorem ggX5_place_X1_profileOf : GoodIn wsX5_place wsX1_profileOf := goodIn_r _ [12, 13, 14, 15, 16, 17, 18, 19, 6, 20, 21, 22, 23, 24, 25, 26, 27, 28, 48, 49, 50, 51, 52, 53, 54, 55, 56, 57, 58, 59] (by decide +kernel) (by decide +kernel)
set_option maxRecDepth 20000 in
theorem gX5_place_X1_profileOf : GoodIn wsX5_place (wsV RX5 108 RX1 yX1_profileOf wsX1_profileOf) := goodIn_app (goodIn_of _ (by decide +kernel)) ggX5_place_X1_profileOf
set_option maxRecDepth 20000 in
theorem ggX5_place_X4_placeOf : GoodIn wsX5_place wsX4_placeOf := goodIn_r _ [32, 26, 28, 33, 34, 35, 36, 37, 38, 39, 40, 41, 42, 43, 55, 56, 57, 58, 59] (by decide +kernel) (by decide +kernel)
set_option maxRecDepth 20000 in
theorem gX5_place_X4_placeOf : GoodIn wsX5_place (wsV RX5 118 RX4 yX4_placeOf wsX4_placeOf) := goodIn_app (goodIn_of _ (by decide +kernel)) ggX5_place_X4_placeOf
theorem dX5_place_0 : decode cX5_place 0 = .ok (.aload_n 0, 1) := by decide +kernel
theorem dX5_place_1 : decode cX5_place 1 = .ok (.getfield 19, 3) := by decide +kernel
theorem dX5_place_4 : decode cX5_place 4 = .ok (.iload_n 1, 1) := by decide +kernel
theorem dX5_place_5 : decode cX5_place 5 = .ok (.invokevirtual 82, 3) := by decide +kernel
theorem dX5_place_8 : decode cX5_place 8 = .ok (.ifCond .ne 5, 3) := by decide +kernel
theorem dX5_place_11 : decode cX5_place 11 = .ok (.iconst (-1), 1) := by decide +kernel
theorem dX5_place_12 : decode cX5_place 12 = .ok (.ireturn, 1) := by decide +kernel
theorem dX5_place_13 : decode cX5_place 13 = .ok (.aload_n 0, 1) := by decide +kernel
theorem dX5_place_14 : decode cX5_place 14 = .ok (.getfield 12, 3) := by decide +kernel
theorem dX5_place_17 : decode cX5_place 17 = .ok (.aload_n 0, 1) := by decide +kernel
theorem dX5_place_18 : decode cX5_place 18 = .ok (.getfield 19, 3) := by decide +kernel
theorem dX5_place_21 : decode cX5_place 21 = .ok (.iload_n 1, 1) := by decide +kernel
theorem dX5_place_22 : decode cX5_place 22 = .ok (.aload_n 0, 1) := by decide +kernel
theorem dX5_place_23 : decode cX5_place 23 = .ok (.getfield 12, 3) := by decide +kernel
theorem dX5_place_26 : decode cX5_place 26 = .ok (.invokevirtual 108, 3) := by decide +kernel
theorem dX5_place_29 : decode cX5_place 29 = .ok (.invokevirtual 118, 3) := by decide +kernel
theorem dX5_place_32 : decode cX5_place 32 = .ok (.ireturn, 1) := by decide +kernel
set_option maxRecDepth 20000 in
theorem ggX5_size_X1_holds : GoodIn wsX5_size wsX1_holds := goodIn_r _ [6, 7, 17, 18, 19, 20, 21, 22, 23] (by decide +kernel) (by decide +kernel)
set_option maxRecDepth 20000 in
theorem gX5_size_X1_holds : GoodIn wsX5_size (wsV RX5 82 RX1 yX1_holds wsX1_holds) := goodIn_app (goodIn_of _ (by decide +kernel)) ggX5_size_X1_holds
set_option maxRecDepth 20000 in
theorem ggX5_size_X1_sizeOf : GoodIn wsX5_size wsX1_sizeOf := goodIn_r _ [11, 12, 17, 18, 19, 20, 21, 22, 23] (by decide +kernel) (by decide +kernel)
set_option maxRecDepth 20000 in
theorem gX5_size_X1_sizeOf : GoodIn wsX5_size (wsV RX5 121 RX1 yX1_sizeOf wsX1_sizeOf) := goodIn_app (goodIn_of _ (by decide +kernel)) ggX5_size_X1_sizeOf
theorem dX5_size_0 : decode cX5_size 0 = .ok (.aload_n 0, 1) := by decide +kernel
theorem dX5_size_1 : decode cX5_size 1 = .ok (.getfield 19, 3) := by decide +kernel
theorem dX5_size_4 : decode cX5_size 4 = .ok (.iload_n 1, 1) := by decide +kernel
theorem dX5_size_5 : decode cX5_size 5 = .ok (.invokevirtual 82, 3) := by decide +kernel
theorem dX5_size_8 : decode cX5_size 8 = .ok (.ifCond .eq 14, 3) := by decide +kernel
theorem dX5_size_11 : decode cX5_size 11 = .ok (.aload_n 0, 1) := by decide +kernel
theorem dX5_size_12 : decode cX5_size 12 = .ok (.getfield 19, 3) := by decide +kernel
theorem dX5_size_15 : decode cX5_size 15 = .ok (.iload_n 1, 1) := by decide +kernel
theorem dX5_size_16 : decode cX5_size 16 = .ok (.invokevirtual 121, 3) := by decide +kernel
theorem dX5_size_19 : decode cX5_size 19 = .ok (.goto 4, 3) := by decide +kernel
theorem dX5_size_22 : decode cX5_size 22 = .ok (.iconst (-1), 1) := by decide +kernel
theorem dX5_size_23 : decode cX5_size 23 = .ok (.ireturn, 1) := by decide +kernel
set_option maxRecDepth 20000 in
theorem ggX5_included_X2_firstOf : GoodIn wsX5_included wsX2_firstOf := goodIn_r _ [6, 7, 8, 9, 10, 11, 12, 5, 13, 14, 15, 16, 17, 18, 19, 20, 21, 22, 23, 24, 25, 26, 27, 28, 29, 30, 31, 32, 33, 34, 35, 36, 37, 38, 39, 40, 41, 42, 43, 44, 45, 46, 47, 48, 49, 50, 51, 52, 53, 54, 55, 56, 57, 58, 59, 60, 61, 62, 63, 64, 65, 66, 67, 68, 69, 70, 71, 72, 73, 74, 75, 76, 77, 78, 79, 80, 81, 82, 83, 84, 85, 86, 87, 92, 93, 94, 95, 96, 97, 98, 99, 100, 101, 102, 103, 104, 105, 106, 107, 108, 109] (by decide +kernel) (by decide +kernel)
set_option maxRecDepth 20000 in
theorem gX5_included_X2_firstOf : GoodIn wsX5_included (wsV RX5 124 RX2 yX2_firstOf wsX2_firstOf) := goodIn_app (goodIn_of _ (by decide +kernel)) ggX5_included_X2_firstOf
theorem dX5_included_0 : decode cX5_included 0 = .ok (.aload_n 0, 1) := by decide +kernel
theorem dX5_included_1 : decode cX5_included 1 = .ok (.getfield 28, 3) := by decide +kernel
theorem dX5_included_4 : decode cX5_included 4 = .ok (.iconst 4, 1) := by decide +kernel
theorem dX5_included_5 : decode cX5_included 5 = .ok (.invokevirtual 124, 3) := by decide +kernel
theorem dX5_included_8 : decode cX5_included 8 = .ok (.iconst (-1), 1) := by decide +kernel
theorem dX5_included_9 : decode cX5_included 9 = .ok (.if_icmp .ne 7, 3) := by decide +kernel
theorem dX5_included_12 : decode cX5_included 12 = .ok (.iconst 1, 1) := by decide +kernel
theorem dX5_included_13 : decode cX5_included 13 = .ok (.goto 4, 3) := by decide +kernel
theorem dX5_included_16 : decode cX5_included 16 = .ok (.iconst 0, 1) := by decide +kernel
theorem dX5_included_17 : decode cX5_included 17 = .ok (.ireturn, 1) := by decide +kernel
set_option maxRecDepth 20000 in
theorem ggX5_least_X5_isSort : GoodIn wsX5_least wsX5_isSort := goodIn_r _ [5] (by decide +kernel) (by decide +kernel)
set_option maxRecDepth 20000 in
theorem gX5_least_X5_isSort : GoodIn wsX5_least (va_wsS RX5 127 yX5_isSort wsX5_isSort) := goodIn_app (goodIn_of _ (by decide +kernel)) ggX5_least_X5_isSort
set_option maxRecDepth 20000 in
theorem ggX5_least_X2_firstOf : GoodIn wsX5_least wsX2_firstOf := goodIn_r _ [10, 11, 12, 13, 14, 15, 16, 9, 17, 18, 19, 20, 21, 22, 23, 24, 25, 26, 27, 28, 29, 30, 31, 32, 4, 33, 34, 35, 36, 37, 38, 39, 40, 41, 42, 43, 44, 45, 46, 47, 48, 49, 50, 51, 52, 53, 54, 55, 56, 57, 58, 59, 60, 61, 62, 63, 64, 65, 66, 67, 68, 69, 70, 71, 72, 73, 74, 75, 76, 77, 78, 79, 80, 81, 82, 83, 84, 85, 86, 87, 88, 89, 90, 99, 100, 101, 102, 103, 104, 105, 106, 107, 108, 109, 110, 111, 112, 113, 114, 115, 116] (by decide +kernel) (by decide +kernel)
set_option maxRecDepth 20000 in
theorem gX5_least_X2_firstOf : GoodIn wsX5_least (wsV RX5 124 RX2 yX2_firstOf wsX2_firstOf) := goodIn_app (goodIn_of _ (by decide +kernel)) ggX5_least_X2_firstOf
set_option maxRecDepth 20000 in
theorem ggX5_least_X2_sizeOf : GoodIn wsX5_least wsX2_sizeOf := goodIn_r _ [94, 19, 99, 100, 101, 102, 103, 104, 105, 106, 107, 108, 109, 110, 111] (by decide +kernel) (by decide +kernel)
set_option maxRecDepth 20000 in
theorem gX5_least_X2_sizeOf : GoodIn wsX5_least (wsV RX5 130 RX2 yX2_sizeOf wsX2_sizeOf) := goodIn_app (goodIn_of _ (by decide +kernel)) ggX5_least_X2_sizeOf
theorem dX5_least_0 : decode cX5_least 0 = .ok (.iload_n 1, 1) := by decide +kernel
theorem dX5_least_1 : decode cX5_least 1 = .ok (.invokestatic 127, 3) := by decide +kernel
theorem dX5_least_4 : decode cX5_least 4 = .ok (.ifCond .ne 5, 3) := by decide +kernel
theorem dX5_least_7 : decode cX5_least 7 = .ok (.iconst (-1), 1) := by decide +kernel
theorem dX5_least_8 : decode cX5_least 8 = .ok (.ireturn, 1) := by decide +kernel
theorem dX5_least_9 : decode cX5_least 9 = .ok (.aload_n 0, 1) := by decide +kernel
theorem dX5_least_10 : decode cX5_least 10 = .ok (.getfield 28, 3) := by decide +kernel
theorem dX5_least_13 : decode cX5_least 13 = .ok (.iload_n 1, 1) := by decide +kernel
theorem dX5_least_14 : decode cX5_least 14 = .ok (.invokevirtual 124, 3) := by decide +kernel
theorem dX5_least_17 : decode cX5_least 17 = .ok (.istore_n 2, 1) := by decide +kernel
theorem dX5_least_18 : decode cX5_least 18 = .ok (.iload_n 2, 1) := by decide +kernel
theorem dX5_least_19 : decode cX5_least 19 = .ok (.iconst (-1), 1) := by decide +kernel
theorem dX5_least_20 : decode cX5_least 20 = .ok (.if_icmp .ne 7, 3) := by decide +kernel
theorem dX5_least_23 : decode cX5_least 23 = .ok (.iconst 0, 1) := by decide +kernel
theorem dX5_least_24 : decode cX5_least 24 = .ok (.goto 11, 3) := by decide +kernel
theorem dX5_least_27 : decode cX5_least 27 = .ok (.aload_n 0, 1) := by decide +kernel
theorem dX5_least_28 : decode cX5_least 28 = .ok (.getfield 28, 3) := by decide +kernel
theorem dX5_least_31 : decode cX5_least 31 = .ok (.iload_n 2, 1) := by decide +kernel
theorem dX5_least_32 : decode cX5_least 32 = .ok (.invokevirtual 130, 3) := by decide +kernel
theorem dX5_least_35 : decode cX5_least 35 = .ok (.ireturn, 1) := by decide +kernel
set_option maxRecDepth 20000 in
theorem ggX5_witness_X5_isSort : GoodIn wsX5_witness wsX5_isSort := goodIn_r _ [6] (by decide +kernel) (by decide +kernel)
set_option maxRecDepth 20000 in
theorem gX5_witness_X5_isSort : GoodIn wsX5_witness (va_wsS RX5 127 yX5_isSort wsX5_isSort) := goodIn_app (goodIn_of _ (by decide +kernel)) ggX5_witness_X5_isSort
set_option maxRecDepth 20000 in
theorem ggX5_witness_X2_firstOf : GoodIn wsX5_witness wsX2_firstOf := goodIn_r _ [11, 12, 13, 14, 15, 16, 17, 10, 18, 19, 20, 21, 22, 23, 24, 25, 26, 27, 28, 29, 30, 31, 32, 33, 5, 34, 35, 36, 37, 38, 39, 40, 41, 42, 43, 44, 45, 46, 47, 48, 49, 50, 51, 52, 53, 54, 55, 56, 57, 58, 59, 60, 61, 62, 63, 64, 65, 66, 67, 68, 69, 70, 71, 72, 73, 74, 75, 76, 77, 78, 79, 80, 81, 82, 83, 84, 85, 86, 87, 88, 89, 90, 91, 133, 134, 135, 136, 137, 138, 139, 140, 141, 142, 143, 144, 145, 146, 147, 148, 149, 150] (by decide +kernel) (by decide +kernel)
set_option maxRecDepth 20000 in
theorem gX5_witness_X2_firstOf : GoodIn wsX5_witness (wsV RX5 124 RX2 yX2_firstOf wsX2_firstOf) := goodIn_app (goodIn_of _ (by decide +kernel)) ggX5_witness_X2_firstOf
set_option maxRecDepth 20000 in
theorem ggX5_witness_X2_sizeOf : GoodIn wsX5_witness wsX2_sizeOf := goodIn_r _ [95, 20, 133, 134, 135, 136, 137, 138, 139, 140, 141, 142, 143, 144, 145] (by decide +kernel) (by decide +kernel)
set_option maxRecDepth 20000 in
theorem gX5_witness_X2_sizeOf : GoodIn wsX5_witness (wsV RX5 130 RX2 yX2_sizeOf wsX2_sizeOf) := goodIn_app (goodIn_of _ (by decide +kernel)) ggX5_witness_X2_sizeOf
set_option maxRecDepth 20000 in
theorem ggX5_witness_X1_room : GoodIn wsX5_witness wsX1_room := goodIn_r _ [100, 101, 151, 152, 153, 154, 155, 156, 157] (by decide +kernel) (by decide +kernel)
set_option maxRecDepth 20000 in
theorem gX5_witness_X1_room : GoodIn wsX5_witness (wsV RX5 88 RX1 yX1_room wsX1_room) := goodIn_app (goodIn_of _ (by decide +kernel)) ggX5_witness_X1_room
set_option maxRecDepth 20000 in
theorem ggX5_witness_X2_writingOf : GoodIn wsX5_witness wsX2_writingOf := goodIn_r _ [105, 106, 107, 44, 46, 45, 33, 5, 34, 55, 56, 133, 134, 135, 136, 137, 138, 139, 140, 141, 142, 143, 144, 145] (by decide +kernel) (by decide +kernel)
set_option maxRecDepth 20000 in
theorem gX5_witness_X2_writingOf : GoodIn wsX5_witness (wsV RX5 131 RX2 yX2_writingOf wsX2_writingOf) := goodIn_app (goodIn_of _ (by decide +kernel)) ggX5_witness_X2_writingOf
set_option maxRecDepth 20000 in
theorem ggX5_witness_X1_plant : GoodIn wsX5_witness wsX1_plant := goodIn_r _ [111, 112, 55, 5, 56, 33, 34, 113, 114, 115, 99, 116, 101, 117, 118, 119, 120, 121, 122, 123, 124, 125, 126, 127, 128, 151, 152, 153, 154, 155, 156, 157] (by decide +kernel) (by decide +kernel)
set_option maxRecDepth 20000 in
theorem gX5_witness_X1_plant : GoodIn wsX5_witness (wsV RX5 135 RX1 yX1_plant wsX1_plant) := goodIn_app (goodIn_of _ (by decide +kernel)) ggX5_witness_X1_plant
theorem dX5_witness_0 : decode cX5_witness 0 = .ok (.iload_n 1, 1) := by decide +kernel
theorem dX5_witness_1 : decode cX5_witness 1 = .ok (.invokestatic 127, 3) := by decide +kernel
theorem dX5_witness_4 : decode cX5_witness 4 = .ok (.ifCond .ne 5, 3) := by decide +kernel
theorem dX5_witness_7 : decode cX5_witness 7 = .ok (.iconst (-1), 1) := by decide +kernel
theorem dX5_witness_8 : decode cX5_witness 8 = .ok (.ireturn, 1) := by decide +kernel
theorem dX5_witness_9 : decode cX5_witness 9 = .ok (.aload_n 0, 1) := by decide +kernel
theorem dX5_witness_10 : decode cX5_witness 10 = .ok (.getfield 28, 3) := by decide +kernel
theorem dX5_witness_13 : decode cX5_witness 13 = .ok (.iload_n 1, 1) := by decide +kernel
theorem dX5_witness_14 : decode cX5_witness 14 = .ok (.invokevirtual 124, 3) := by decide +kernel
theorem dX5_witness_17 : decode cX5_witness 17 = .ok (.istore_n 2, 1) := by decide +kernel
theorem dX5_witness_18 : decode cX5_witness 18 = .ok (.iload_n 2, 1) := by decide +kernel
theorem dX5_witness_19 : decode cX5_witness 19 = .ok (.iconst (-1), 1) := by decide +kernel
theorem dX5_witness_20 : decode cX5_witness 20 = .ok (.if_icmp .ne 6, 3) := by decide +kernel
theorem dX5_witness_23 : decode cX5_witness 23 = .ok (.bipush (-2), 2) := by decide +kernel
theorem dX5_witness_25 : decode cX5_witness 25 = .ok (.ireturn, 1) := by decide +kernel
theorem dX5_witness_26 : decode cX5_witness 26 = .ok (.aload_n 0, 1) := by decide +kernel
theorem dX5_witness_27 : decode cX5_witness 27 = .ok (.getfield 28, 3) := by decide +kernel
theorem dX5_witness_30 : decode cX5_witness 30 = .ok (.iload_n 2, 1) := by decide +kernel
theorem dX5_witness_31 : decode cX5_witness 31 = .ok (.invokevirtual 130, 3) := by decide +kernel
theorem dX5_witness_34 : decode cX5_witness 34 = .ok (.istore_n 3, 1) := by decide +kernel
theorem dX5_witness_35 : decode cX5_witness 35 = .ok (.iload_n 3, 1) := by decide +kernel
theorem dX5_witness_36 : decode cX5_witness 36 = .ok (.bipush 32, 2) := by decide +kernel
theorem dX5_witness_38 : decode cX5_witness 38 = .ok (.if_icmp .le 6, 3) := by decide +kernel
theorem dX5_witness_41 : decode cX5_witness 41 = .ok (.bipush (-3), 2) := by decide +kernel
theorem dX5_witness_43 : decode cX5_witness 43 = .ok (.ireturn, 1) := by decide +kernel
theorem dX5_witness_44 : decode cX5_witness 44 = .ok (.iload_n 3, 1) := by decide +kernel
theorem dX5_witness_45 : decode cX5_witness 45 = .ok (.aload_n 0, 1) := by decide +kernel
theorem dX5_witness_46 : decode cX5_witness 46 = .ok (.getfield 19, 3) := by decide +kernel
theorem dX5_witness_49 : decode cX5_witness 49 = .ok (.invokevirtual 88, 3) := by decide +kernel
theorem dX5_witness_52 : decode cX5_witness 52 = .ok (.if_icmp .le 6, 3) := by decide +kernel
theorem dX5_witness_55 : decode cX5_witness 55 = .ok (.bipush (-4), 2) := by decide +kernel
theorem dX5_witness_57 : decode cX5_witness 57 = .ok (.ireturn, 1) := by decide +kernel
theorem dX5_witness_58 : decode cX5_witness 58 = .ok (.aload_n 0, 1) := by decide +kernel
theorem dX5_witness_59 : decode cX5_witness 59 = .ok (.getfield 19, 3) := by decide +kernel
theorem dX5_witness_62 : decode cX5_witness 62 = .ok (.aload_n 0, 1) := by decide +kernel
theorem dX5_witness_63 : decode cX5_witness 63 = .ok (.getfield 28, 3) := by decide +kernel
theorem dX5_witness_66 : decode cX5_witness 66 = .ok (.iload_n 2, 1) := by decide +kernel
theorem dX5_witness_67 : decode cX5_witness 67 = .ok (.invokevirtual 131, 3) := by decide +kernel
theorem dX5_witness_70 : decode cX5_witness 70 = .ok (.iload_n 3, 1) := by decide +kernel
theorem dX5_witness_71 : decode cX5_witness 71 = .ok (.invokevirtual 135, 3) := by decide +kernel
theorem dX5_witness_74 : decode cX5_witness 74 = .ok (.ireturn, 1) := by decide +kernel
set_option maxRecDepth 20000 in
theorem ggX5_terms_X5_isSort : GoodIn wsX5_terms wsX5_isSort := goodIn_r _ [5] (by decide +kernel) (by decide +kernel)
set_option maxRecDepth 20000 in
theorem gX5_terms_X5_isSort : GoodIn wsX5_terms (va_wsS RX5 127 yX5_isSort wsX5_isSort) := goodIn_app (goodIn_of _ (by decide +kernel)) ggX5_terms_X5_isSort
set_option maxRecDepth 20000 in
theorem ggX5_terms_X0_ofSort : GoodIn wsX5_terms wsX0_ofSort := goodIn_r _ [10, 11, 12, 13, 14, 15, 16, 17, 18, 19, 20, 21, 22, 23, 24, 25, 26, 27, 28, 29, 30, 31, 32, 33, 34, 35, 4, 36, 37, 38, 39, 40, 41, 42, 43, 44, 45, 46, 47, 48, 49, 50, 51, 52, 53, 54, 55, 56, 57, 58, 59, 60, 61, 62, 63, 64, 65, 66, 67, 68, 69, 70, 71, 72, 73, 74, 75, 76, 77, 78, 79, 80, 81, 82, 83, 84, 9, 85, 86, 87, 88, 89, 90, 91, 92, 93, 94, 95, 96, 97, 98, 99, 100, 101, 102, 103, 104, 105, 106, 107, 108, 109, 110, 111, 112, 113, 114, 115, 116, 117, 118, 119, 120, 121, 122, 123, 124, 125, 126, 127, 128, 133, 134, 135, 136, 137, 138, 139, 140, 141, 142, 143, 144, 145, 146, 147, 148, 149, 150, 151, 152, 153, 154] (by decide +kernel) (by decide +kernel)
set_option maxRecDepth 20000 in
theorem gX5_terms_X0_ofSort : GoodIn wsX5_terms (wsV RX5 139 RX0 yX0_ofSort wsX0_ofSort) := goodIn_app (goodIn_of _ (by decide +kernel)) ggX5_terms_X0_ofSort
theorem dX5_terms_0 : decode cX5_terms 0 = .ok (.iload_n 1, 1) := by decide +kernel
theorem dX5_terms_1 : decode cX5_terms 1 = .ok (.invokestatic 127, 3) := by decide +kernel
theorem dX5_terms_4 : decode cX5_terms 4 = .ok (.ifCond .eq 14, 3) := by decide +kernel
theorem dX5_terms_7 : decode cX5_terms 7 = .ok (.iload_n 2, 1) := by decide +kernel
theorem dX5_terms_8 : decode cX5_terms 8 = .ok (.iconst 1, 1) := by decide +kernel
theorem dX5_terms_9 : decode cX5_terms 9 = .ok (.if_icmp .lt 9, 3) := by decide +kernel
theorem dX5_terms_12 : decode cX5_terms 12 = .ok (.iload_n 2, 1) := by decide +kernel
theorem dX5_terms_13 : decode cX5_terms 13 = .ok (.bipush 12, 2) := by decide +kernel
theorem dX5_terms_15 : decode cX5_terms 15 = .ok (.if_icmp .le 5, 3) := by decide +kernel
theorem dX5_terms_18 : decode cX5_terms 18 = .ok (.iconst (-1), 1) := by decide +kernel
theorem dX5_terms_19 : decode cX5_terms 19 = .ok (.ireturn, 1) := by decide +kernel
theorem dX5_terms_20 : decode cX5_terms 20 = .ok (.aload_n 0, 1) := by decide +kernel
theorem dX5_terms_21 : decode cX5_terms 21 = .ok (.getfield 37, 3) := by decide +kernel
theorem dX5_terms_24 : decode cX5_terms 24 = .ok (.iload_n 1, 1) := by decide +kernel
theorem dX5_terms_25 : decode cX5_terms 25 = .ok (.iload_n 2, 1) := by decide +kernel
theorem dX5_terms_26 : decode cX5_terms 26 = .ok (.invokevirtual 139, 3) := by decide +kernel
theorem dX5_terms_29 : decode cX5_terms 29 = .ok (.ireturn, 1) := by decide +kernel
set_option maxRecDepth 20000 in
theorem ggX5_changeRule_X4_numbered : GoodIn wsX5_changeRule wsX4_numbered := goodIn_r _ [6, 7, 8, 57, 58] (by decide +kernel) (by decide +kernel)
set_option maxRecDepth 20000 in
theorem gX5_changeRule_X4_numbered : GoodIn wsX5_changeRule (wsV RX5 49 RX4 yX4_numbered wsX4_numbered) := goodIn_app (goodIn_of _ (by decide +kernel)) ggX5_changeRule_X4_numbered
set_option maxRecDepth 20000 in
theorem ggX5_changeRule_X5_isState : GoodIn wsX5_changeRule wsX5_isState := goodIn_r _ [12] (by decide +kernel) (by decide +kernel)
set_option maxRecDepth 20000 in
theorem gX5_changeRule_X5_isState : GoodIn wsX5_changeRule (va_wsS RX5 53 yX5_isState wsX5_isState) := goodIn_app (goodIn_of _ (by decide +kernel)) ggX5_changeRule_X5_isState
set_option maxRecDepth 20000 in
theorem ggX5_changeRule_X3_leads : GoodIn wsX5_changeRule wsX3_leads := goodIn_r _ [17, 18, 59, 60, 61] (by decide +kernel) (by decide +kernel)
set_option maxRecDepth 20000 in
theorem gX5_changeRule_X3_leads : GoodIn wsX5_changeRule (wsV RX5 57 RX3 yX3_leads wsX3_leads) := goodIn_app (goodIn_of _ (by decide +kernel)) ggX5_changeRule_X3_leads
set_option maxRecDepth 20000 in
theorem ggX5_changeRule_X3_turnRule : GoodIn wsX5_changeRule wsX3_turnRule := goodIn_r _ [22, 18, 23, 24, 25, 16, 26, 27, 28, 11, 29, 30, 31, 32, 33, 34, 59, 60, 61] (by decide +kernel) (by decide +kernel)
set_option maxRecDepth 20000 in
theorem gX5_changeRule_X3_turnRule : GoodIn wsX5_changeRule (wsV RX5 143 RX3 yX3_turnRule wsX3_turnRule) := goodIn_app (goodIn_of _ (by decide +kernel)) ggX5_changeRule_X3_turnRule
set_option maxRecDepth 20000 in
theorem ggX5_changeRule_X5_forgetProfiles : GoodIn wsX5_changeRule wsX5_forgetProfiles := goodIn_r _ [38, 39, 40, 41, 42, 43, 44, 45, 46, 47, 48, 49, 50, 51, 52, 53, 54, 55, 56, 62, 63, 64, 65, 66, 67, 68, 69, 70, 71, 72, 73, 74, 75, 76, 77, 78] (by decide +kernel) (by decide +kernel)
set_option maxRecDepth 20000 in
theorem gX5_changeRule_X5_forgetProfiles : GoodIn wsX5_changeRule (wsV RX5 73 RX5 yX5_forgetProfiles wsX5_forgetProfiles) := goodIn_app (goodIn_of _ (by decide +kernel)) ggX5_changeRule_X5_forgetProfiles
theorem dX5_changeRule_0 : decode cX5_changeRule 0 = .ok (.aload_n 0, 1) := by decide +kernel
theorem dX5_changeRule_1 : decode cX5_changeRule 1 = .ok (.getfield 12, 3) := by decide +kernel
theorem dX5_changeRule_4 : decode cX5_changeRule 4 = .ok (.iload_n 1, 1) := by decide +kernel
theorem dX5_changeRule_5 : decode cX5_changeRule 5 = .ok (.invokevirtual 49, 3) := by decide +kernel
theorem dX5_changeRule_8 : decode cX5_changeRule 8 = .ok (.astore 5, 2) := by decide +kernel
theorem dX5_changeRule_10 : decode cX5_changeRule 10 = .ok (.aload 5, 2) := by decide +kernel
theorem dX5_changeRule_12 : decode cX5_changeRule 12 = .ok (.ifnull 27, 3) := by decide +kernel
theorem dX5_changeRule_15 : decode cX5_changeRule 15 = .ok (.iload_n 2, 1) := by decide +kernel
theorem dX5_changeRule_16 : decode cX5_changeRule 16 = .ok (.iconst (-1), 1) := by decide +kernel
theorem dX5_changeRule_17 : decode cX5_changeRule 17 = .ok (.if_icmp .eq 22, 3) := by decide +kernel
theorem dX5_changeRule_20 : decode cX5_changeRule 20 = .ok (.iload_n 3, 1) := by decide +kernel
theorem dX5_changeRule_21 : decode cX5_changeRule 21 = .ok (.invokestatic 53, 3) := by decide +kernel
theorem dX5_changeRule_24 : decode cX5_changeRule 24 = .ok (.ifCond .eq 15, 3) := by decide +kernel
theorem dX5_changeRule_27 : decode cX5_changeRule 27 = .ok (.aload 5, 2) := by decide +kernel
theorem dX5_changeRule_29 : decode cX5_changeRule 29 = .ok (.iload_n 2, 1) := by decide +kernel
theorem dX5_changeRule_30 : decode cX5_changeRule 30 = .ok (.iload_n 3, 1) := by decide +kernel
theorem dX5_changeRule_31 : decode cX5_changeRule 31 = .ok (.invokevirtual 57, 3) := by decide +kernel
theorem dX5_changeRule_34 : decode cX5_changeRule 34 = .ok (.iload 4, 2) := by decide +kernel
theorem dX5_changeRule_36 : decode cX5_changeRule 36 = .ok (.if_icmp .ne 5, 3) := by decide +kernel
theorem dX5_changeRule_39 : decode cX5_changeRule 39 = .ok (.iconst 0, 1) := by decide +kernel
theorem dX5_changeRule_40 : decode cX5_changeRule 40 = .ok (.ireturn, 1) := by decide +kernel
theorem dX5_changeRule_41 : decode cX5_changeRule 41 = .ok (.aload 5, 2) := by decide +kernel
theorem dX5_changeRule_43 : decode cX5_changeRule 43 = .ok (.iload_n 2, 1) := by decide +kernel
theorem dX5_changeRule_44 : decode cX5_changeRule 44 = .ok (.iload_n 3, 1) := by decide +kernel
theorem dX5_changeRule_45 : decode cX5_changeRule 45 = .ok (.invokevirtual 143, 3) := by decide +kernel
theorem dX5_changeRule_48 : decode cX5_changeRule 48 = .ok (.aload_n 0, 1) := by decide +kernel
theorem dX5_changeRule_49 : decode cX5_changeRule 49 = .ok (.invokevirtual 73, 3) := by decide +kernel
theorem dX5_changeRule_52 : decode cX5_changeRule 52 = .ok (.iconst 1, 1) := by decide +kernel
theorem dX5_changeRule_53 : decode cX5_changeRule 53 = .ok (.ireturn, 1) := by decide +kernel
set_option maxRecDepth 20000 in
theorem ggX5_forgetProfiles_X2_forget : GoodIn wsX5_forgetProfiles wsX2_forget := goodIn_r _ [7, 8, 19, 20, 21, 22, 23, 24, 25, 26, 27, 28, 29, 30, 31] (by decide +kernel) (by decide +kernel)
set_option maxRecDepth 20000 in
theorem gX5_forgetProfiles_X2_forget : GoodIn wsX5_forgetProfiles (wsV RX5 147 RX2 yX2_forget wsX2_forget) := goodIn_app (goodIn_of _ (by decide +kernel)) ggX5_forgetProfiles_X2_forget
set_option maxRecDepth 20000 in
theorem ggX5_forgetProfiles_X0_forget : GoodIn wsX5_forgetProfiles wsX0_forget := goodIn_r _ [13, 14, 32, 33, 34, 35] (by decide +kernel) (by decide +kernel)
set_option maxRecDepth 20000 in
theorem gX5_forgetProfiles_X0_forget : GoodIn wsX5_forgetProfiles (wsV RX5 150 RX0 yX0_forget wsX0_forget) := goodIn_app (goodIn_of _ (by decide +kernel)) ggX5_forgetProfiles_X0_forget
theorem dX5_forgetProfiles_0 : decode cX5_forgetProfiles 0 = .ok (.aload_n 0, 1) := by decide +kernel
theorem dX5_forgetProfiles_1 : decode cX5_forgetProfiles 1 = .ok (.getfield 28, 3) := by decide +kernel
theorem dX5_forgetProfiles_4 : decode cX5_forgetProfiles 4 = .ok (.invokevirtual 147, 3) := by decide +kernel
theorem dX5_forgetProfiles_7 : decode cX5_forgetProfiles 7 = .ok (.aload_n 0, 1) := by decide +kernel
theorem dX5_forgetProfiles_8 : decode cX5_forgetProfiles 8 = .ok (.getfield 37, 3) := by decide +kernel
theorem dX5_forgetProfiles_11 : decode cX5_forgetProfiles 11 = .ok (.invokevirtual 150, 3) := by decide +kernel
theorem dX5_forgetProfiles_14 : decode cX5_forgetProfiles 14 = .ok (.return_, 1) := by decide +kernel
theorem dX5_isSymbol_0 : decode cX5_isSymbol 0 = .ok (.iload_n 0, 1) := by decide +kernel
theorem dX5_isSymbol_1 : decode cX5_isSymbol 1 = .ok (.ifCond .lt 13, 3) := by decide +kernel
theorem dX5_isSymbol_4 : decode cX5_isSymbol 4 = .ok (.iload_n 0, 1) := by decide +kernel
theorem dX5_isSymbol_5 : decode cX5_isSymbol 5 = .ok (.bipush 8, 2) := by decide +kernel
theorem dX5_isSymbol_7 : decode cX5_isSymbol 7 = .ok (.if_icmp .ge 7, 3) := by decide +kernel
theorem dX5_isSymbol_10 : decode cX5_isSymbol 10 = .ok (.iconst 1, 1) := by decide +kernel
theorem dX5_isSymbol_11 : decode cX5_isSymbol 11 = .ok (.goto 4, 3) := by decide +kernel
theorem dX5_isSymbol_14 : decode cX5_isSymbol 14 = .ok (.iconst 0, 1) := by decide +kernel
theorem dX5_isSymbol_15 : decode cX5_isSymbol 15 = .ok (.ireturn, 1) := by decide +kernel
theorem dX5_isState_0 : decode cX5_isState 0 = .ok (.iload_n 0, 1) := by decide +kernel
theorem dX5_isState_1 : decode cX5_isState 1 = .ok (.ifCond .lt 12, 3) := by decide +kernel
theorem dX5_isState_4 : decode cX5_isState 4 = .ok (.iload_n 0, 1) := by decide +kernel
theorem dX5_isState_5 : decode cX5_isState 5 = .ok (.iconst 4, 1) := by decide +kernel
theorem dX5_isState_6 : decode cX5_isState 6 = .ok (.if_icmp .ge 7, 3) := by decide +kernel
theorem dX5_isState_9 : decode cX5_isState 9 = .ok (.iconst 1, 1) := by decide +kernel
theorem dX5_isState_10 : decode cX5_isState 10 = .ok (.goto 4, 3) := by decide +kernel
theorem dX5_isState_13 : decode cX5_isState 13 = .ok (.iconst 0, 1) := by decide +kernel
theorem dX5_isState_14 : decode cX5_isState 14 = .ok (.ireturn, 1) := by decide +kernel
theorem dX5_isSort_0 : decode cX5_isSort 0 = .ok (.iload_n 0, 1) := by decide +kernel
theorem dX5_isSort_1 : decode cX5_isSort 1 = .ok (.ifCond .lt 13, 3) := by decide +kernel
theorem dX5_isSort_4 : decode cX5_isSort 4 = .ok (.iload_n 0, 1) := by decide +kernel
theorem dX5_isSort_5 : decode cX5_isSort 5 = .ok (.bipush 16, 2) := by decide +kernel
theorem dX5_isSort_7 : decode cX5_isSort 7 = .ok (.if_icmp .ge 7, 3) := by decide +kernel
theorem dX5_isSort_10 : decode cX5_isSort 10 = .ok (.iconst 1, 1) := by decide +kernel
theorem dX5_isSort_11 : decode cX5_isSort 11 = .ok (.goto 4, 3) := by decide +kernel
theorem dX5_isSort_14 : decode cX5_isSort 14 = .ok (.iconst 0, 1) := by decide +kernel
theorem dX5_isSort_15 : decode cX5_isSort 15 = .ok (.ireturn, 1) := by decide +kernel
theorem dX5_hasLeft_0 : decode cX5_hasLeft 0 = .ok (.iload_n 0, 1) := by decide +kernel
theorem dX5_hasLeft_1 : decode cX5_hasLeft 1 = .ok (.iconst 3, 1) := by decide +kernel
theorem dX5_hasLeft_2 : decode cX5_hasLeft 2 = .ok (.if_icmp .lt 7, 3) := by decide +kernel
theorem dX5_hasLeft_5 : decode cX5_hasLeft 5 = .ok (.iconst 1, 1) := by decide +kernel
theorem dX5_hasLeft_6 : decode cX5_hasLeft 6 = .ok (.goto 4, 3) := by decide +kernel
theorem dX5_hasLeft_9 : decode cX5_hasLeft 9 = .ok (.iconst 0, 1) := by decide +kernel
theorem dX5_hasLeft_10 : decode cX5_hasLeft 10 = .ok (.ireturn, 1) := by decide +kernel
theorem dX5_hasRight_0 : decode cX5_hasRight 0 = .ok (.iload_n 0, 1) := by decide +kernel
theorem dX5_hasRight_1 : decode cX5_hasRight 1 = .ok (.iconst 5, 1) := by decide +kernel
theorem dX5_hasRight_2 : decode cX5_hasRight 2 = .ok (.if_icmp .lt 7, 3) := by decide +kernel
theorem dX5_hasRight_5 : decode cX5_hasRight 5 = .ok (.iconst 1, 1) := by decide +kernel
theorem dX5_hasRight_6 : decode cX5_hasRight 6 = .ok (.goto 4, 3) := by decide +kernel
theorem dX5_hasRight_9 : decode cX5_hasRight 9 = .ok (.iconst 0, 1) := by decide +kernel
theorem dX5_hasRight_10 : decode cX5_hasRight 10 = .ok (.ireturn, 1) := by decide +kernel
set_option maxRecDepth 20000 in
theorem ggX5_rowOf_X5_isSymbol : GoodIn wsX5_rowOf wsX5_isSymbol := goodIn_r _ [4] (by decide +kernel) (by decide +kernel)
set_option maxRecDepth 20000 in
theorem gX5_rowOf_X5_isSymbol : GoodIn wsX5_rowOf (va_wsS RX5 76 yX5_isSymbol wsX5_isSymbol) := goodIn_app (goodIn_of _ (by decide +kernel)) ggX5_rowOf_X5_isSymbol
set_option maxRecDepth 20000 in
theorem ggX5_rowOf_X5_hasLeft : GoodIn wsX5_rowOf wsX5_hasLeft := goodIn_r _ [7] (by decide +kernel) (by decide +kernel)
set_option maxRecDepth 20000 in
theorem gX5_rowOf_X5_hasLeft : GoodIn wsX5_rowOf (va_wsS RX5 79 yX5_hasLeft wsX5_hasLeft) := goodIn_app (goodIn_of _ (by decide +kernel)) ggX5_rowOf_X5_hasLeft
set_option maxRecDepth 20000 in
theorem ggX5_rowOf_X5_hasRight : GoodIn wsX5_rowOf wsX5_hasRight := goodIn_r _ [10] (by decide +kernel) (by decide +kernel)
set_option maxRecDepth 20000 in
theorem gX5_rowOf_X5_hasRight : GoodIn wsX5_rowOf (va_wsS RX5 85 yX5_hasRight wsX5_hasRight) := goodIn_app (goodIn_of _ (by decide +kernel)) ggX5_rowOf_X5_hasRight
set_option maxRecDepth 20000 in
theorem ggX5_rowOf_X5_isState : GoodIn wsX5_rowOf wsX5_isState := goodIn_r _ [13] (by decide +kernel) (by decide +kernel)
set_option maxRecDepth 20000 in
theorem gX5_rowOf_X5_isState : GoodIn wsX5_rowOf (va_wsS RX5 53 yX5_isState wsX5_isState) := goodIn_app (goodIn_of _ (by decide +kernel)) ggX5_rowOf_X5_isState
theorem dX5_rowOf_0 : decode cX5_rowOf 0 = .ok (.iload_n 0, 1) := by decide +kernel
theorem dX5_rowOf_1 : decode cX5_rowOf 1 = .ok (.invokestatic 76, 3) := by decide +kernel
theorem dX5_rowOf_4 : decode cX5_rowOf 4 = .ok (.ifCond .ne 5, 3) := by decide +kernel
theorem dX5_rowOf_7 : decode cX5_rowOf 7 = .ok (.iconst (-1), 1) := by decide +kernel
theorem dX5_rowOf_8 : decode cX5_rowOf 8 = .ok (.ireturn, 1) := by decide +kernel
theorem dX5_rowOf_9 : decode cX5_rowOf 9 = .ok (.iload_n 0, 1) := by decide +kernel
theorem dX5_rowOf_10 : decode cX5_rowOf 10 = .ok (.invokestatic 79, 3) := by decide +kernel
theorem dX5_rowOf_13 : decode cX5_rowOf 13 = .ok (.ifCond .eq 7, 3) := by decide +kernel
theorem dX5_rowOf_16 : decode cX5_rowOf 16 = .ok (.iload_n 1, 1) := by decide +kernel
theorem dX5_rowOf_17 : decode cX5_rowOf 17 = .ok (.goto 4, 3) := by decide +kernel
theorem dX5_rowOf_20 : decode cX5_rowOf 20 = .ok (.iconst 0, 1) := by decide +kernel
theorem dX5_rowOf_21 : decode cX5_rowOf 21 = .ok (.istore_n 3, 1) := by decide +kernel
theorem dX5_rowOf_22 : decode cX5_rowOf 22 = .ok (.iload_n 0, 1) := by decide +kernel
theorem dX5_rowOf_23 : decode cX5_rowOf 23 = .ok (.invokestatic 85, 3) := by decide +kernel
theorem dX5_rowOf_26 : decode cX5_rowOf 26 = .ok (.ifCond .eq 7, 3) := by decide +kernel
theorem dX5_rowOf_29 : decode cX5_rowOf 29 = .ok (.iload_n 2, 1) := by decide +kernel
theorem dX5_rowOf_30 : decode cX5_rowOf 30 = .ok (.goto 4, 3) := by decide +kernel
theorem dX5_rowOf_33 : decode cX5_rowOf 33 = .ok (.iconst 0, 1) := by decide +kernel
theorem dX5_rowOf_34 : decode cX5_rowOf 34 = .ok (.istore 4, 2) := by decide +kernel
theorem dX5_rowOf_36 : decode cX5_rowOf 36 = .ok (.iload_n 3, 1) := by decide +kernel
theorem dX5_rowOf_37 : decode cX5_rowOf 37 = .ok (.invokestatic 53, 3) := by decide +kernel
theorem dX5_rowOf_40 : decode cX5_rowOf 40 = .ok (.ifCond .eq 11, 3) := by decide +kernel
theorem dX5_rowOf_43 : decode cX5_rowOf 43 = .ok (.iload 4, 2) := by decide +kernel
theorem dX5_rowOf_45 : decode cX5_rowOf 45 = .ok (.invokestatic 53, 3) := by decide +kernel
theorem dX5_rowOf_48 : decode cX5_rowOf 48 = .ok (.ifCond .ne 5, 3) := by decide +kernel
theorem dX5_rowOf_51 : decode cX5_rowOf 51 = .ok (.iconst (-1), 1) := by decide +kernel
theorem dX5_rowOf_52 : decode cX5_rowOf 52 = .ok (.ireturn, 1) := by decide +kernel
theorem dX5_rowOf_53 : decode cX5_rowOf 53 = .ok (.iload_n 0, 1) := by decide +kernel
theorem dX5_rowOf_54 : decode cX5_rowOf 54 = .ok (.iconst 4, 1) := by decide +kernel
theorem dX5_rowOf_55 : decode cX5_rowOf 55 = .ok (.imul, 1) := by decide +kernel
theorem dX5_rowOf_56 : decode cX5_rowOf 56 = .ok (.iload_n 3, 1) := by decide +kernel
theorem dX5_rowOf_57 : decode cX5_rowOf 57 = .ok (.iadd, 1) := by decide +kernel
theorem dX5_rowOf_58 : decode cX5_rowOf 58 = .ok (.iconst 4, 1) := by decide +kernel
theorem dX5_rowOf_59 : decode cX5_rowOf 59 = .ok (.imul, 1) := by decide +kernel
theorem dX5_rowOf_60 : decode cX5_rowOf 60 = .ok (.iload 4, 2) := by decide +kernel
theorem dX5_rowOf_62 : decode cX5_rowOf 62 = .ok (.iadd, 1) := by decide +kernel
theorem dX5_rowOf_63 : decode cX5_rowOf 63 = .ok (.ireturn, 1) := by decide +kernel
theorem dX5_firstSet_0 : decode cX5_firstSet 0 = .ok (.iload_n 0, 1) := by decide +kernel
theorem dX5_firstSet_1 : decode cX5_firstSet 1 = .ok (.bipush 15, 2) := by decide +kernel
theorem dX5_firstSet_3 : decode cX5_firstSet 3 = .ok (.iand, 1) := by decide +kernel
theorem dX5_firstSet_4 : decode cX5_firstSet 4 = .ok (.ireturn, 1) := by decide +kernel
theorem dX5_secondSet_0 : decode cX5_secondSet 0 = .ok (.iload_n 0, 1) := by decide +kernel
theorem dX5_secondSet_1 : decode cX5_secondSet 1 = .ok (.iconst 4, 1) := by decide +kernel
theorem dX5_secondSet_2 : decode cX5_secondSet 2 = .ok (.ishr, 1) := by decide +kernel
theorem dX5_secondSet_3 : decode cX5_secondSet 3 = .ok (.bipush 15, 2) := by decide +kernel
theorem dX5_secondSet_5 : decode cX5_secondSet 5 = .ok (.iand, 1) := by decide +kernel
theorem dX5_secondSet_6 : decode cX5_secondSet 6 = .ok (.ireturn, 1) := by decide +kernel
