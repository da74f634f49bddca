theorem dX0_init_0 : decode cX0_init 0 = .ok (.aload_n 0, 1) := by decide +kernel
theorem dX0_init_1 : decode cX0_init 1 = .ok (.invokespecial 3, 3) := by decide +kernel
theorem dX0_init_4 : decode cX0_init 4 = .ok (.aload_n 0, 1) := by decide +kernel
theorem dX0_init_5 : decode cX0_init 5 = .ok (.bipush 20, 2) := by decide +kernel
theorem dX0_init_7 : decode cX0_init 7 = .ok (.newarray .long, 2) := by decide +kernel
theorem dX0_init_9 : decode cX0_init 9 = .ok (.putfield 9, 3) := by decide +kernel
theorem dX0_init_12 : decode cX0_init 12 = .ok (.aload_n 0, 1) := by decide +kernel
theorem dX0_init_13 : decode cX0_init 13 = .ok (.bipush 20, 2) := by decide +kernel
theorem dX0_init_15 : decode cX0_init 15 = .ok (.newarray .long, 2) := by decide +kernel
theorem dX0_init_17 : decode cX0_init 17 = .ok (.putfield 13, 3) := by decide +kernel
theorem dX0_init_20 : decode cX0_init 20 = .ok (.aload_n 0, 1) := by decide +kernel
theorem dX0_init_21 : decode cX0_init 21 = .ok (.bipush 20, 2) := by decide +kernel
theorem dX0_init_23 : decode cX0_init 23 = .ok (.newarray .int, 2) := by decide +kernel
theorem dX0_init_25 : decode cX0_init 25 = .ok (.putfield 16, 3) := by decide +kernel
theorem dX0_init_28 : decode cX0_init 28 = .ok (.aload_n 0, 1) := by decide +kernel
theorem dX0_init_29 : decode cX0_init 29 = .ok (.bipush 20, 2) := by decide +kernel
theorem dX0_init_31 : decode cX0_init 31 = .ok (.newarray .int, 2) := by decide +kernel
theorem dX0_init_33 : decode cX0_init 33 = .ok (.putfield 20, 3) := by decide +kernel
theorem dX0_init_36 : decode cX0_init 36 = .ok (.aload_n 0, 1) := by decide +kernel
theorem dX0_init_37 : decode cX0_init 37 = .ok (.sipush 1024, 3) := by decide +kernel
theorem dX0_init_40 : decode cX0_init 40 = .ok (.newarray .int, 2) := by decide +kernel
theorem dX0_init_42 : decode cX0_init 42 = .ok (.putfield 23, 3) := by decide +kernel
theorem dX0_init_45 : decode cX0_init 45 = .ok (.aload_n 0, 1) := by decide +kernel
theorem dX0_init_46 : decode cX0_init 46 = .ok (.sipush 1024, 3) := by decide +kernel
theorem dX0_init_49 : decode cX0_init 49 = .ok (.newarray .int, 2) := by decide +kernel
theorem dX0_init_51 : decode cX0_init 51 = .ok (.putfield 26, 3) := by decide +kernel
theorem dX0_init_54 : decode cX0_init 54 = .ok (.aload_n 0, 1) := by decide +kernel
theorem dX0_init_55 : decode cX0_init 55 = .ok (.bipush 32, 2) := by decide +kernel
theorem dX0_init_57 : decode cX0_init 57 = .ok (.newarray .long, 2) := by decide +kernel
theorem dX0_init_59 : decode cX0_init 59 = .ok (.putfield 29, 3) := by decide +kernel
theorem dX0_init_62 : decode cX0_init 62 = .ok (.aload_n 0, 1) := by decide +kernel
theorem dX0_init_63 : decode cX0_init 63 = .ok (.bipush 32, 2) := by decide +kernel
theorem dX0_init_65 : decode cX0_init 65 = .ok (.newarray .int, 2) := by decide +kernel
theorem dX0_init_67 : decode cX0_init 67 = .ok (.putfield 32, 3) := by decide +kernel
theorem dX0_init_70 : decode cX0_init 70 = .ok (.return_, 1) := by decide +kernel
theorem dX0_begin_0 : decode cX0_begin 0 = .ok (.aload_n 0, 1) := by decide +kernel
theorem dX0_begin_1 : decode cX0_begin 1 = .ok (.iconst 0, 1) := by decide +kernel
theorem dX0_begin_2 : decode cX0_begin 2 = .ok (.putfield 35, 3) := by decide +kernel
theorem dX0_begin_5 : decode cX0_begin 5 = .ok (.aload_n 0, 1) := by decide +kernel
theorem dX0_begin_6 : decode cX0_begin 6 = .ok (.getfield 23, 3) := by decide +kernel
theorem dX0_begin_9 : decode cX0_begin 9 = .ok (.iconst 0, 1) := by decide +kernel
theorem dX0_begin_10 : decode cX0_begin 10 = .ok (.iconst 0, 1) := by decide +kernel
theorem dX0_begin_11 : decode cX0_begin 11 = .ok (.iastore, 1) := by decide +kernel
theorem dX0_begin_12 : decode cX0_begin 12 = .ok (.aload_n 0, 1) := by decide +kernel
theorem dX0_begin_13 : decode cX0_begin 13 = .ok (.iconst 1, 1) := by decide +kernel
theorem dX0_begin_14 : decode cX0_begin 14 = .ok (.putfield 39, 3) := by decide +kernel
theorem dX0_begin_17 : decode cX0_begin 17 = .ok (.return_, 1) := by decide +kernel
set_option maxRecDepth 20000 in
theorem ggX0_enter_X1_breaking : GoodIn wsX0_enter wsX1_breaking := goodIn_r _ [11, 12, 13, 14, 15, 49, 50, 51, 52, 53, 54, 55, 56, 57, 58, 59] (by decide +kernel) (by decide +kernel)
set_option maxRecDepth 20000 in
theorem gX0_enter_X1_breaking : GoodIn wsX0_enter (wsV RX0 42 RX1 yX1_breaking wsX1_breaking) := goodIn_app (goodIn_of _ (by decide +kernel)) ggX0_enter_X1_breaking
set_option maxRecDepth 20000 in
theorem ggX0_enter_X1_turning : GoodIn wsX0_enter wsX1_turning := goodIn_r _ [19, 12, 13, 14, 15, 49, 50, 51, 52, 53, 54, 55, 56, 57, 58, 59] (by decide +kernel) (by decide +kernel)
set_option maxRecDepth 20000 in
theorem gX0_enter_X1_turning : GoodIn wsX0_enter (wsV RX0 47 RX1 yX1_turning wsX1_turning) := goodIn_app (goodIn_of _ (by decide +kernel)) ggX0_enter_X1_turning
set_option maxRecDepth 20000 in
theorem ggX0_enter_X1_turned : GoodIn wsX0_enter wsX1_turned := goodIn_r _ [23, 12, 24, 25, 26, 27, 49, 50, 51, 52, 53, 54, 55, 56, 57, 58, 59] (by decide +kernel) (by decide +kernel)
set_option maxRecDepth 20000 in
theorem gX0_enter_X1_turned : GoodIn wsX0_enter (wsV RX0 50 RX1 yX1_turned wsX1_turned) := goodIn_app (goodIn_of _ (by decide +kernel)) ggX0_enter_X1_turned
set_option maxRecDepth 20000 in
theorem ggX0_enter_X1_runOn : GoodIn wsX0_enter wsX1_runOn := goodIn_r _ [31, 12, 24, 25, 26, 27, 49, 50, 51, 52, 53, 54, 55, 56, 57, 58, 59] (by decide +kernel) (by decide +kernel)
set_option maxRecDepth 20000 in
theorem gX0_enter_X1_runOn : GoodIn wsX0_enter (wsV RX0 53 RX1 yX1_runOn wsX1_runOn) := goodIn_app (goodIn_of _ (by decide +kernel)) ggX0_enter_X1_runOn
set_option maxRecDepth 20000 in
theorem ggX0_enter_X0_widen : GoodIn wsX0_enter wsX0_widen := goodIn_r _ [36, 37, 38, 1, 39, 40, 41, 42, 43, 44, 45, 46, 47, 48] (by decide +kernel) (by decide +kernel)
set_option maxRecDepth 20000 in
theorem gX0_enter_X0_widen : GoodIn wsX0_enter (wsV RX0 59 RX0 yX0_widen wsX0_widen) := goodIn_app (goodIn_of _ (by decide +kernel)) ggX0_enter_X0_widen
theorem dX0_enter_0 : decode cX0_enter 0 = .ok (.aload_n 0, 1) := by decide +kernel
theorem dX0_enter_1 : decode cX0_enter 1 = .ok (.getfield 35, 3) := by decide +kernel
theorem dX0_enter_4 : decode cX0_enter 4 = .ok (.iconst 5, 1) := by decide +kernel
theorem dX0_enter_5 : decode cX0_enter 5 = .ok (.if_icmp .lt 4, 3) := by decide +kernel
theorem dX0_enter_8 : decode cX0_enter 8 = .ok (.return_, 1) := by decide +kernel
theorem dX0_enter_9 : decode cX0_enter 9 = .ok (.iconst 0, 1) := by decide +kernel
theorem dX0_enter_10 : decode cX0_enter 10 = .ok (.istore 4, 2) := by decide +kernel
theorem dX0_enter_12 : decode cX0_enter 12 = .ok (.iload 4, 2) := by decide +kernel
theorem dX0_enter_14 : decode cX0_enter 14 = .ok (.iconst 4, 1) := by decide +kernel
theorem dX0_enter_15 : decode cX0_enter 15 = .ok (.if_icmp .ge 88, 3) := by decide +kernel
theorem dX0_enter_18 : decode cX0_enter 18 = .ok (.iconst 4, 1) := by decide +kernel
theorem dX0_enter_19 : decode cX0_enter 19 = .ok (.aload_n 0, 1) := by decide +kernel
theorem dX0_enter_20 : decode cX0_enter 20 = .ok (.getfield 35, 3) := by decide +kernel
theorem dX0_enter_23 : decode cX0_enter 23 = .ok (.imul, 1) := by decide +kernel
theorem dX0_enter_24 : decode cX0_enter 24 = .ok (.iload 4, 2) := by decide +kernel
theorem dX0_enter_26 : decode cX0_enter 26 = .ok (.iadd, 1) := by decide +kernel
theorem dX0_enter_27 : decode cX0_enter 27 = .ok (.istore 5, 2) := by decide +kernel
theorem dX0_enter_29 : decode cX0_enter 29 = .ok (.aload_n 0, 1) := by decide +kernel
theorem dX0_enter_30 : decode cX0_enter 30 = .ok (.getfield 9, 3) := by decide +kernel
theorem dX0_enter_33 : decode cX0_enter 33 = .ok (.iload 5, 2) := by decide +kernel
theorem dX0_enter_35 : decode cX0_enter 35 = .ok (.aload_n 1, 1) := by decide +kernel
theorem dX0_enter_36 : decode cX0_enter 36 = .ok (.iload 4, 2) := by decide +kernel
theorem dX0_enter_38 : decode cX0_enter 38 = .ok (.iload_n 2, 1) := by decide +kernel
theorem dX0_enter_39 : decode cX0_enter 39 = .ok (.invokevirtual 42, 3) := by decide +kernel
theorem dX0_enter_42 : decode cX0_enter 42 = .ok (.lastore, 1) := by decide +kernel
theorem dX0_enter_43 : decode cX0_enter 43 = .ok (.aload_n 0, 1) := by decide +kernel
theorem dX0_enter_44 : decode cX0_enter 44 = .ok (.getfield 13, 3) := by decide +kernel
theorem dX0_enter_47 : decode cX0_enter 47 = .ok (.iload 5, 2) := by decide +kernel
theorem dX0_enter_49 : decode cX0_enter 49 = .ok (.aload_n 1, 1) := by decide +kernel
theorem dX0_enter_50 : decode cX0_enter 50 = .ok (.iload 4, 2) := by decide +kernel
theorem dX0_enter_52 : decode cX0_enter 52 = .ok (.invokevirtual 47, 3) := by decide +kernel
theorem dX0_enter_55 : decode cX0_enter 55 = .ok (.lastore, 1) := by decide +kernel
theorem dX0_enter_56 : decode cX0_enter 56 = .ok (.aload_n 0, 1) := by decide +kernel
theorem dX0_enter_57 : decode cX0_enter 57 = .ok (.getfield 16, 3) := by decide +kernel
theorem dX0_enter_60 : decode cX0_enter 60 = .ok (.iload 5, 2) := by decide +kernel
theorem dX0_enter_62 : decode cX0_enter 62 = .ok (.aload_n 1, 1) := by decide +kernel
theorem dX0_enter_63 : decode cX0_enter 63 = .ok (.iload 4, 2) := by decide +kernel
theorem dX0_enter_65 : decode cX0_enter 65 = .ok (.iload_n 2, 1) := by decide +kernel
theorem dX0_enter_66 : decode cX0_enter 66 = .ok (.invokevirtual 50, 3) := by decide +kernel
theorem dX0_enter_69 : decode cX0_enter 69 = .ok (.iconst 2, 1) := by decide +kernel
theorem dX0_enter_70 : decode cX0_enter 70 = .ok (.aload_n 0, 1) := by decide +kernel
theorem dX0_enter_71 : decode cX0_enter 71 = .ok (.getfield 35, 3) := by decide +kernel
theorem dX0_enter_74 : decode cX0_enter 74 = .ok (.imul, 1) := by decide +kernel
theorem dX0_enter_75 : decode cX0_enter 75 = .ok (.ishl, 1) := by decide +kernel
theorem dX0_enter_76 : decode cX0_enter 76 = .ok (.iastore, 1) := by decide +kernel
theorem dX0_enter_77 : decode cX0_enter 77 = .ok (.aload_n 0, 1) := by decide +kernel
theorem dX0_enter_78 : decode cX0_enter 78 = .ok (.getfield 20, 3) := by decide +kernel
theorem dX0_enter_81 : decode cX0_enter 81 = .ok (.iload 5, 2) := by decide +kernel
theorem dX0_enter_83 : decode cX0_enter 83 = .ok (.aload_n 1, 1) := by decide +kernel
theorem dX0_enter_84 : decode cX0_enter 84 = .ok (.iload 4, 2) := by decide +kernel
theorem dX0_enter_86 : decode cX0_enter 86 = .ok (.invokevirtual 53, 3) := by decide +kernel
theorem dX0_enter_89 : decode cX0_enter 89 = .ok (.iconst 2, 1) := by decide +kernel
theorem dX0_enter_90 : decode cX0_enter 90 = .ok (.aload_n 0, 1) := by decide +kernel
theorem dX0_enter_91 : decode cX0_enter 91 = .ok (.getfield 35, 3) := by decide +kernel
theorem dX0_enter_94 : decode cX0_enter 94 = .ok (.imul, 1) := by decide +kernel
theorem dX0_enter_95 : decode cX0_enter 95 = .ok (.ishl, 1) := by decide +kernel
theorem dX0_enter_96 : decode cX0_enter 96 = .ok (.iastore, 1) := by decide +kernel
theorem dX0_enter_97 : decode cX0_enter 97 = .ok (.iinc 4 1, 3) := by decide +kernel
theorem dX0_enter_100 : decode cX0_enter 100 = .ok (.goto (-88), 3) := by decide +kernel
theorem dX0_enter_103 : decode cX0_enter 103 = .ok (.aload_n 1, 1) := by decide +kernel
theorem dX0_enter_104 : decode cX0_enter 104 = .ok (.getfield 56, 3) := by decide +kernel
theorem dX0_enter_107 : decode cX0_enter 107 = .ok (.ifCond .ne 7, 3) := by decide +kernel
theorem dX0_enter_110 : decode cX0_enter 110 = .ok (.iconst 0, 1) := by decide +kernel
theorem dX0_enter_111 : decode cX0_enter 111 = .ok (.goto 12, 3) := by decide +kernel
theorem dX0_enter_114 : decode cX0_enter 114 = .ok (.iload_n 3, 1) := by decide +kernel
theorem dX0_enter_115 : decode cX0_enter 115 = .ok (.ifCond .eq 7, 3) := by decide +kernel
theorem dX0_enter_118 : decode cX0_enter 118 = .ok (.iconst 3, 1) := by decide +kernel
theorem dX0_enter_119 : decode cX0_enter 119 = .ok (.goto 4, 3) := by decide +kernel
theorem dX0_enter_122 : decode cX0_enter 122 = .ok (.iload_n 2, 1) := by decide +kernel
theorem dX0_enter_123 : decode cX0_enter 123 = .ok (.istore 4, 2) := by decide +kernel
theorem dX0_enter_125 : decode cX0_enter 125 = .ok (.aload_n 0, 1) := by decide +kernel
theorem dX0_enter_126 : decode cX0_enter 126 = .ok (.iload 4, 2) := by decide +kernel
theorem dX0_enter_128 : decode cX0_enter 128 = .ok (.invokevirtual 59, 3) := by decide +kernel
theorem dX0_enter_131 : decode cX0_enter 131 = .ok (.aload_n 0, 1) := by decide +kernel
theorem dX0_enter_132 : decode cX0_enter 132 = .ok (.dup, 1) := by decide +kernel
theorem dX0_enter_133 : decode cX0_enter 133 = .ok (.getfield 35, 3) := by decide +kernel
theorem dX0_enter_136 : decode cX0_enter 136 = .ok (.iconst 1, 1) := by decide +kernel
theorem dX0_enter_137 : decode cX0_enter 137 = .ok (.iadd, 1) := by decide +kernel
theorem dX0_enter_138 : decode cX0_enter 138 = .ok (.putfield 35, 3) := by decide +kernel
theorem dX0_enter_141 : decode cX0_enter 141 = .ok (.return_, 1) := by decide +kernel
theorem dX0_widen_0 : decode cX0_widen 0 = .ok (.aload_n 0, 1) := by decide +kernel
theorem dX0_widen_1 : decode cX0_widen 1 = .ok (.getfield 39, 3) := by decide +kernel
theorem dX0_widen_4 : decode cX0_widen 4 = .ok (.istore_n 2, 1) := by decide +kernel
theorem dX0_widen_5 : decode cX0_widen 5 = .ok (.iconst 1, 1) := by decide +kernel
theorem dX0_widen_6 : decode cX0_widen 6 = .ok (.istore_n 3, 1) := by decide +kernel
theorem dX0_widen_7 : decode cX0_widen 7 = .ok (.iload_n 3, 1) := by decide +kernel
theorem dX0_widen_8 : decode cX0_widen 8 = .ok (.iload_n 1, 1) := by decide +kernel
theorem dX0_widen_9 : decode cX0_widen 9 = .ok (.if_icmp .gt 74, 3) := by decide +kernel
theorem dX0_widen_12 : decode cX0_widen 12 = .ok (.iload_n 3, 1) := by decide +kernel
theorem dX0_widen_13 : decode cX0_widen 13 = .ok (.iconst 4, 1) := by decide +kernel
theorem dX0_widen_14 : decode cX0_widen 14 = .ok (.if_icmp .ge 69, 3) := by decide +kernel
theorem dX0_widen_17 : decode cX0_widen 17 = .ok (.iconst 0, 1) := by decide +kernel
theorem dX0_widen_18 : decode cX0_widen 18 = .ok (.istore 4, 2) := by decide +kernel
theorem dX0_widen_20 : decode cX0_widen 20 = .ok (.iload 4, 2) := by decide +kernel
theorem dX0_widen_22 : decode cX0_widen 22 = .ok (.iload_n 2, 1) := by decide +kernel
theorem dX0_widen_23 : decode cX0_widen 23 = .ok (.if_icmp .ge 54, 3) := by decide +kernel
theorem dX0_widen_26 : decode cX0_widen 26 = .ok (.aload_n 0, 1) := by decide +kernel
theorem dX0_widen_27 : decode cX0_widen 27 = .ok (.getfield 39, 3) := by decide +kernel
theorem dX0_widen_30 : decode cX0_widen 30 = .ok (.sipush 1024, 3) := by decide +kernel
theorem dX0_widen_33 : decode cX0_widen 33 = .ok (.if_icmp .ge 44, 3) := by decide +kernel
theorem dX0_widen_36 : decode cX0_widen 36 = .ok (.aload_n 0, 1) := by decide +kernel
theorem dX0_widen_37 : decode cX0_widen 37 = .ok (.getfield 23, 3) := by decide +kernel
theorem dX0_widen_40 : decode cX0_widen 40 = .ok (.aload_n 0, 1) := by decide +kernel
theorem dX0_widen_41 : decode cX0_widen 41 = .ok (.getfield 39, 3) := by decide +kernel
theorem dX0_widen_44 : decode cX0_widen 44 = .ok (.aload_n 0, 1) := by decide +kernel
theorem dX0_widen_45 : decode cX0_widen 45 = .ok (.getfield 23, 3) := by decide +kernel
theorem dX0_widen_48 : decode cX0_widen 48 = .ok (.iload 4, 2) := by decide +kernel
theorem dX0_widen_50 : decode cX0_widen 50 = .ok (.iaload, 1) := by decide +kernel
theorem dX0_widen_51 : decode cX0_widen 51 = .ok (.iload_n 3, 1) := by decide +kernel
theorem dX0_widen_52 : decode cX0_widen 52 = .ok (.iconst 2, 1) := by decide +kernel
theorem dX0_widen_53 : decode cX0_widen 53 = .ok (.aload_n 0, 1) := by decide +kernel
theorem dX0_widen_54 : decode cX0_widen 54 = .ok (.getfield 35, 3) := by decide +kernel
theorem dX0_widen_57 : decode cX0_widen 57 = .ok (.imul, 1) := by decide +kernel
theorem dX0_widen_58 : decode cX0_widen 58 = .ok (.ishl, 1) := by decide +kernel
theorem dX0_widen_59 : decode cX0_widen 59 = .ok (.ior, 1) := by decide +kernel
theorem dX0_widen_60 : decode cX0_widen 60 = .ok (.iastore, 1) := by decide +kernel
theorem dX0_widen_61 : decode cX0_widen 61 = .ok (.aload_n 0, 1) := by decide +kernel
theorem dX0_widen_62 : decode cX0_widen 62 = .ok (.dup, 1) := by decide +kernel
theorem dX0_widen_63 : decode cX0_widen 63 = .ok (.getfield 39, 3) := by decide +kernel
theorem dX0_widen_66 : decode cX0_widen 66 = .ok (.iconst 1, 1) := by decide +kernel
theorem dX0_widen_67 : decode cX0_widen 67 = .ok (.iadd, 1) := by decide +kernel
theorem dX0_widen_68 : decode cX0_widen 68 = .ok (.putfield 39, 3) := by decide +kernel
theorem dX0_widen_71 : decode cX0_widen 71 = .ok (.iinc 4 1, 3) := by decide +kernel
theorem dX0_widen_74 : decode cX0_widen 74 = .ok (.goto (-54), 3) := by decide +kernel
theorem dX0_widen_77 : decode cX0_widen 77 = .ok (.iinc 3 1, 3) := by decide +kernel
theorem dX0_widen_80 : decode cX0_widen 80 = .ok (.goto (-73), 3) := by decide +kernel
theorem dX0_widen_83 : decode cX0_widen 83 = .ok (.return_, 1) := by decide +kernel
theorem dX0_stateAt_0 : decode cX0_stateAt 0 = .ok (.iload_n 0, 1) := by decide +kernel
theorem dX0_stateAt_1 : decode cX0_stateAt 1 = .ok (.iconst 2, 1) := by decide +kernel
theorem dX0_stateAt_2 : decode cX0_stateAt 2 = .ok (.iload_n 1, 1) := by decide +kernel
theorem dX0_stateAt_3 : decode cX0_stateAt 3 = .ok (.imul, 1) := by decide +kernel
theorem dX0_stateAt_4 : decode cX0_stateAt 4 = .ok (.iushr, 1) := by decide +kernel
theorem dX0_stateAt_5 : decode cX0_stateAt 5 = .ok (.iconst 3, 1) := by decide +kernel
theorem dX0_stateAt_6 : decode cX0_stateAt 6 = .ok (.iand, 1) := by decide +kernel
theorem dX0_stateAt_7 : decode cX0_stateAt 7 = .ok (.ireturn, 1) := by decide +kernel
set_option maxRecDepth 20000 in
theorem ggX0_solve_X0_loseSome : GoodIn wsX0_solve wsX0_loseSome := goodIn_r _ [8, 1, 3, 9, 2, 10, 11, 12, 7, 13, 14, 15, 16, 17, 18, 19, 20, 21, 22, 23, 24, 25, 26, 27, 28, 29, 30, 31, 32, 33, 34, 35, 36, 37, 38, 39, 40, 41, 42] (by decide +kernel) (by decide +kernel)
set_option maxRecDepth 20000 in
theorem gX0_solve_X0_loseSome : GoodIn wsX0_solve (wsV RX0 63 RX0 yX0_loseSome wsX0_loseSome) := goodIn_app (goodIn_of _ (by decide +kernel)) ggX0_solve_X0_loseSome
theorem dX0_solve_0 : decode cX0_solve 0 = .ok (.iconst 0, 1) := by decide +kernel
theorem dX0_solve_1 : decode cX0_solve 1 = .ok (.istore_n 2, 1) := by decide +kernel
theorem dX0_solve_2 : decode cX0_solve 2 = .ok (.iload_n 2, 1) := by decide +kernel
theorem dX0_solve_3 : decode cX0_solve 3 = .ok (.aload_n 0, 1) := by decide +kernel
theorem dX0_solve_4 : decode cX0_solve 4 = .ok (.getfield 39, 3) := by decide +kernel
theorem dX0_solve_7 : decode cX0_solve 7 = .ok (.if_icmp .ge 21, 3) := by decide +kernel
theorem dX0_solve_10 : decode cX0_solve 10 = .ok (.aload_n 0, 1) := by decide +kernel
theorem dX0_solve_11 : decode cX0_solve 11 = .ok (.getfield 26, 3) := by decide +kernel
theorem dX0_solve_14 : decode cX0_solve 14 = .ok (.aload_n 0, 1) := by decide +kernel
theorem dX0_solve_15 : decode cX0_solve 15 = .ok (.getfield 23, 3) := by decide +kernel
theorem dX0_solve_18 : decode cX0_solve 18 = .ok (.iload_n 2, 1) := by decide +kernel
theorem dX0_solve_19 : decode cX0_solve 19 = .ok (.iaload, 1) := by decide +kernel
theorem dX0_solve_20 : decode cX0_solve 20 = .ok (.iconst 0, 1) := by decide +kernel
theorem dX0_solve_21 : decode cX0_solve 21 = .ok (.iastore, 1) := by decide +kernel
theorem dX0_solve_22 : decode cX0_solve 22 = .ok (.iinc 2 1, 3) := by decide +kernel
theorem dX0_solve_25 : decode cX0_solve 25 = .ok (.goto (-23), 3) := by decide +kernel
theorem dX0_solve_28 : decode cX0_solve 28 = .ok (.iconst 1, 1) := by decide +kernel
theorem dX0_solve_29 : decode cX0_solve 29 = .ok (.istore_n 2, 1) := by decide +kernel
theorem dX0_solve_30 : decode cX0_solve 30 = .ok (.iload_n 2, 1) := by decide +kernel
theorem dX0_solve_31 : decode cX0_solve 31 = .ok (.sipush 1024, 3) := by decide +kernel
theorem dX0_solve_34 : decode cX0_solve 34 = .ok (.if_icmp .gt 33, 3) := by decide +kernel
theorem dX0_solve_37 : decode cX0_solve 37 = .ok (.aload_n 0, 1) := by decide +kernel
theorem dX0_solve_38 : decode cX0_solve 38 = .ok (.iload_n 2, 1) := by decide +kernel
theorem dX0_solve_39 : decode cX0_solve 39 = .ok (.invokevirtual 63, 3) := by decide +kernel
theorem dX0_solve_42 : decode cX0_solve 42 = .ok (.istore_n 3, 1) := by decide +kernel
theorem dX0_solve_43 : decode cX0_solve 43 = .ok (.iload_n 3, 1) := by decide +kernel
theorem dX0_solve_44 : decode cX0_solve 44 = .ok (.ifCond .eq 16, 3) := by decide +kernel
theorem dX0_solve_47 : decode cX0_solve 47 = .ok (.iload_n 1, 1) := by decide +kernel
theorem dX0_solve_48 : decode cX0_solve 48 = .ok (.ifCond .ne 13, 3) := by decide +kernel
theorem dX0_solve_51 : decode cX0_solve 51 = .ok (.aload_n 0, 1) := by decide +kernel
theorem dX0_solve_52 : decode cX0_solve 52 = .ok (.getfield 26, 3) := by decide +kernel
theorem dX0_solve_55 : decode cX0_solve 55 = .ok (.iconst 0, 1) := by decide +kernel
theorem dX0_solve_56 : decode cX0_solve 56 = .ok (.iaload, 1) := by decide +kernel
theorem dX0_solve_57 : decode cX0_solve 57 = .ok (.ifCond .eq 4, 3) := by decide +kernel
theorem dX0_solve_60 : decode cX0_solve 60 = .ok (.return_, 1) := by decide +kernel
theorem dX0_solve_61 : decode cX0_solve 61 = .ok (.iinc 2 1, 3) := by decide +kernel
theorem dX0_solve_64 : decode cX0_solve 64 = .ok (.goto (-34), 3) := by decide +kernel
theorem dX0_solve_67 : decode cX0_solve 67 = .ok (.return_, 1) := by decide +kernel
set_option maxRecDepth 20000 in
theorem ggX0_loseSome_X0_unbroken : GoodIn wsX0_loseSome wsX0_unbroken := goodIn_r _ [9, 10, 11, 29, 30, 31, 32, 33, 34, 35, 36, 37, 38] (by decide +kernel) (by decide +kernel)
set_option maxRecDepth 20000 in
theorem gX0_loseSome_X0_unbroken : GoodIn wsX0_loseSome (wsV RX0 67 RX0 yX0_unbroken wsX0_unbroken) := goodIn_app (goodIn_of _ (by decide +kernel)) ggX0_loseSome_X0_unbroken
set_option maxRecDepth 20000 in
theorem ggX0_loseSome_X0_openBefore : GoodIn wsX0_loseSome wsX0_openBefore := goodIn_r _ [15, 3, 4, 16, 17, 5, 6, 7, 8, 9, 10, 11, 18, 19, 20, 21, 22, 23, 24, 29, 30, 31, 32, 33, 34, 35, 36, 37, 38] (by decide +kernel) (by decide +kernel)
set_option maxRecDepth 20000 in
theorem gX0_loseSome_X0_openBefore : GoodIn wsX0_loseSome (wsV RX0 70 RX0 yX0_openBefore wsX0_openBefore) := goodIn_app (goodIn_of _ (by decide +kernel)) ggX0_loseSome_X0_openBefore
set_option maxRecDepth 20000 in
theorem ggX0_loseSome_X0_firstWithoutOut : GoodIn wsX0_loseSome wsX0_firstWithoutOut := goodIn_r _ [27, 28] (by decide +kernel) (by decide +kernel)
set_option maxRecDepth 20000 in
theorem gX0_loseSome_X0_firstWithoutOut : GoodIn wsX0_loseSome (va_wsS RX0 73 yX0_firstWithoutOut wsX0_firstWithoutOut) := goodIn_app (goodIn_of _ (by decide +kernel)) ggX0_loseSome_X0_firstWithoutOut
theorem dX0_loseSome_0 : decode cX0_loseSome 0 = .ok (.iconst 0, 1) := by decide +kernel
theorem dX0_loseSome_1 : decode cX0_loseSome 1 = .ok (.istore_n 2, 1) := by decide +kernel
theorem dX0_loseSome_2 : decode cX0_loseSome 2 = .ok (.iconst 0, 1) := by decide +kernel
theorem dX0_loseSome_3 : decode cX0_loseSome 3 = .ok (.istore_n 3, 1) := by decide +kernel
theorem dX0_loseSome_4 : decode cX0_loseSome 4 = .ok (.iload_n 3, 1) := by decide +kernel
theorem dX0_loseSome_5 : decode cX0_loseSome 5 = .ok (.aload_n 0, 1) := by decide +kernel
theorem dX0_loseSome_6 : decode cX0_loseSome 6 = .ok (.getfield 39, 3) := by decide +kernel
theorem dX0_loseSome_9 : decode cX0_loseSome 9 = .ok (.if_icmp .ge 76, 3) := by decide +kernel
theorem dX0_loseSome_12 : decode cX0_loseSome 12 = .ok (.aload_n 0, 1) := by decide +kernel
theorem dX0_loseSome_13 : decode cX0_loseSome 13 = .ok (.getfield 23, 3) := by decide +kernel
theorem dX0_loseSome_16 : decode cX0_loseSome 16 = .ok (.iload_n 3, 1) := by decide +kernel
theorem dX0_loseSome_17 : decode cX0_loseSome 17 = .ok (.iaload, 1) := by decide +kernel
theorem dX0_loseSome_18 : decode cX0_loseSome 18 = .ok (.istore 4, 2) := by decide +kernel
theorem dX0_loseSome_20 : decode cX0_loseSome 20 = .ok (.iload_n 1, 1) := by decide +kernel
theorem dX0_loseSome_21 : decode cX0_loseSome 21 = .ok (.iconst 1, 1) := by decide +kernel
theorem dX0_loseSome_22 : decode cX0_loseSome 22 = .ok (.if_icmp .ne 16, 3) := by decide +kernel
theorem dX0_loseSome_25 : decode cX0_loseSome 25 = .ok (.aload_n 0, 1) := by decide +kernel
theorem dX0_loseSome_26 : decode cX0_loseSome 26 = .ok (.iload 4, 2) := by decide +kernel
theorem dX0_loseSome_28 : decode cX0_loseSome 28 = .ok (.aload_n 0, 1) := by decide +kernel
theorem dX0_loseSome_29 : decode cX0_loseSome 29 = .ok (.getfield 35, 3) := by decide +kernel
theorem dX0_loseSome_32 : decode cX0_loseSome 32 = .ok (.invokevirtual 67, 3) := by decide +kernel
theorem dX0_loseSome_35 : decode cX0_loseSome 35 = .ok (.goto 10, 3) := by decide +kernel
theorem dX0_loseSome_38 : decode cX0_loseSome 38 = .ok (.aload_n 0, 1) := by decide +kernel
theorem dX0_loseSome_39 : decode cX0_loseSome 39 = .ok (.iload 4, 2) := by decide +kernel
theorem dX0_loseSome_41 : decode cX0_loseSome 41 = .ok (.iload_n 1, 1) := by decide +kernel
theorem dX0_loseSome_42 : decode cX0_loseSome 42 = .ok (.invokevirtual 70, 3) := by decide +kernel
theorem dX0_loseSome_45 : decode cX0_loseSome 45 = .ok (.lstore 5, 2) := by decide +kernel
theorem dX0_loseSome_47 : decode cX0_loseSome 47 = .ok (.lload 5, 2) := by decide +kernel
theorem dX0_loseSome_49 : decode cX0_loseSome 49 = .ok (.invokestatic 73, 3) := by decide +kernel
theorem dX0_loseSome_52 : decode cX0_loseSome 52 = .ok (.bipush 8, 2) := by decide +kernel
theorem dX0_loseSome_54 : decode cX0_loseSome 54 = .ok (.if_icmp .ge 14, 3) := by decide +kernel
theorem dX0_loseSome_57 : decode cX0_loseSome 57 = .ok (.aload_n 0, 1) := by decide +kernel
theorem dX0_loseSome_58 : decode cX0_loseSome 58 = .ok (.getfield 26, 3) := by decide +kernel
theorem dX0_loseSome_61 : decode cX0_loseSome 61 = .ok (.iload 4, 2) := by decide +kernel
theorem dX0_loseSome_63 : decode cX0_loseSome 63 = .ok (.iload_n 1, 1) := by decide +kernel
theorem dX0_loseSome_64 : decode cX0_loseSome 64 = .ok (.iastore, 1) := by decide +kernel
theorem dX0_loseSome_65 : decode cX0_loseSome 65 = .ok (.goto 14, 3) := by decide +kernel
theorem dX0_loseSome_68 : decode cX0_loseSome 68 = .ok (.aload_n 0, 1) := by decide +kernel
theorem dX0_loseSome_69 : decode cX0_loseSome 69 = .ok (.getfield 23, 3) := by decide +kernel
theorem dX0_loseSome_72 : decode cX0_loseSome 72 = .ok (.iload_n 2, 1) := by decide +kernel
theorem dX0_loseSome_73 : decode cX0_loseSome 73 = .ok (.iload 4, 2) := by decide +kernel
theorem dX0_loseSome_75 : decode cX0_loseSome 75 = .ok (.iastore, 1) := by decide +kernel
theorem dX0_loseSome_76 : decode cX0_loseSome 76 = .ok (.iinc 2 1, 3) := by decide +kernel
theorem dX0_loseSome_79 : decode cX0_loseSome 79 = .ok (.iinc 3 1, 3) := by decide +kernel
theorem dX0_loseSome_82 : decode cX0_loseSome 82 = .ok (.goto (-78), 3) := by decide +kernel
theorem dX0_loseSome_85 : decode cX0_loseSome 85 = .ok (.iload_n 2, 1) := by decide +kernel
theorem dX0_loseSome_86 : decode cX0_loseSome 86 = .ok (.aload_n 0, 1) := by decide +kernel
theorem dX0_loseSome_87 : decode cX0_loseSome 87 = .ok (.getfield 39, 3) := by decide +kernel
theorem dX0_loseSome_90 : decode cX0_loseSome 90 = .ok (.if_icmp .ge 7, 3) := by decide +kernel
theorem dX0_loseSome_93 : decode cX0_loseSome 93 = .ok (.iconst 1, 1) := by decide +kernel
theorem dX0_loseSome_94 : decode cX0_loseSome 94 = .ok (.goto 4, 3) := by decide +kernel
theorem dX0_loseSome_97 : decode cX0_loseSome 97 = .ok (.iconst 0, 1) := by decide +kernel
theorem dX0_loseSome_98 : decode cX0_loseSome 98 = .ok (.istore_n 3, 1) := by decide +kernel
theorem dX0_loseSome_99 : decode cX0_loseSome 99 = .ok (.aload_n 0, 1) := by decide +kernel
theorem dX0_loseSome_100 : decode cX0_loseSome 100 = .ok (.iload_n 2, 1) := by decide +kernel
theorem dX0_loseSome_101 : decode cX0_loseSome 101 = .ok (.putfield 39, 3) := by decide +kernel
theorem dX0_loseSome_104 : decode cX0_loseSome 104 = .ok (.iload_n 3, 1) := by decide +kernel
theorem dX0_loseSome_105 : decode cX0_loseSome 105 = .ok (.ireturn, 1) := by decide +kernel
theorem dX0_safePlaces_0 : decode cX0_safePlaces 0 = .ok (.aload_n 0, 1) := by decide +kernel
theorem dX0_safePlaces_1 : decode cX0_safePlaces 1 = .ok (.getfield 39, 3) := by decide +kernel
theorem dX0_safePlaces_4 : decode cX0_safePlaces 4 = .ok (.ireturn, 1) := by decide +kernel
set_option maxRecDepth 20000 in
theorem ggX0_lostIn_X0_isPlace : GoodIn wsX0_lostIn wsX0_isPlace := goodIn_r _ [5] (by decide +kernel) (by decide +kernel)
set_option maxRecDepth 20000 in
theorem gX0_lostIn_X0_isPlace : GoodIn wsX0_lostIn (va_wsS RX0 77 yX0_isPlace wsX0_isPlace) := goodIn_app (goodIn_of _ (by decide +kernel)) ggX0_lostIn_X0_isPlace
theorem dX0_lostIn_0 : decode cX0_lostIn 0 = .ok (.iload_n 1, 1) := by decide +kernel
theorem dX0_lostIn_1 : decode cX0_lostIn 1 = .ok (.invokestatic 77, 3) := by decide +kernel
theorem dX0_lostIn_4 : decode cX0_lostIn 4 = .ok (.ifCond .eq 12, 3) := by decide +kernel
theorem dX0_lostIn_7 : decode cX0_lostIn 7 = .ok (.aload_n 0, 1) := by decide +kernel
theorem dX0_lostIn_8 : decode cX0_lostIn 8 = .ok (.getfield 26, 3) := by decide +kernel
theorem dX0_lostIn_11 : decode cX0_lostIn 11 = .ok (.iload_n 1, 1) := by decide +kernel
theorem dX0_lostIn_12 : decode cX0_lostIn 12 = .ok (.iaload, 1) := by decide +kernel
theorem dX0_lostIn_13 : decode cX0_lostIn 13 = .ok (.goto 4, 3) := by decide +kernel
theorem dX0_lostIn_16 : decode cX0_lostIn 16 = .ok (.iconst 0, 1) := by decide +kernel
theorem dX0_lostIn_17 : decode cX0_lostIn 17 = .ok (.ireturn, 1) := by decide +kernel
set_option maxRecDepth 20000 in
theorem ggX0_winningIn_X0_isPlace : GoodIn wsX0_winningIn wsX0_isPlace := goodIn_r _ [5] (by decide +kernel) (by decide +kernel)
set_option maxRecDepth 20000 in
theorem gX0_winningIn_X0_isPlace : GoodIn wsX0_winningIn (va_wsS RX0 77 yX0_isPlace wsX0_isPlace) := goodIn_app (goodIn_of _ (by decide +kernel)) ggX0_winningIn_X0_isPlace
set_option maxRecDepth 20000 in
theorem ggX0_winningIn_X0_openBefore : GoodIn wsX0_winningIn wsX0_openBefore := goodIn_r _ [9, 10, 1, 11, 12, 13, 14, 15, 4, 16, 17, 18, 19, 20, 21, 22, 23, 24, 25, 30, 31, 32, 33, 34, 35, 36, 37, 38, 39] (by decide +kernel) (by decide +kernel)
set_option maxRecDepth 20000 in
theorem gX0_winningIn_X0_openBefore : GoodIn wsX0_winningIn (wsV RX0 70 RX0 yX0_openBefore wsX0_openBefore) := goodIn_app (goodIn_of _ (by decide +kernel)) ggX0_winningIn_X0_openBefore
set_option maxRecDepth 20000 in
theorem ggX0_winningIn_X0_firstWithoutOut : GoodIn wsX0_winningIn wsX0_firstWithoutOut := goodIn_r _ [28, 29] (by decide +kernel) (by decide +kernel)
set_option maxRecDepth 20000 in
theorem gX0_winningIn_X0_firstWithoutOut : GoodIn wsX0_winningIn (va_wsS RX0 73 yX0_firstWithoutOut wsX0_firstWithoutOut) := goodIn_app (goodIn_of _ (by decide +kernel)) ggX0_winningIn_X0_firstWithoutOut
theorem dX0_winningIn_0 : decode cX0_winningIn 0 = .ok (.iload_n 1, 1) := by decide +kernel
theorem dX0_winningIn_1 : decode cX0_winningIn 1 = .ok (.invokestatic 77, 3) := by decide +kernel
theorem dX0_winningIn_4 : decode cX0_winningIn 4 = .ok (.ifCond .eq 20, 3) := by decide +kernel
theorem dX0_winningIn_7 : decode cX0_winningIn 7 = .ok (.aload_n 0, 1) := by decide +kernel
theorem dX0_winningIn_8 : decode cX0_winningIn 8 = .ok (.iload_n 1, 1) := by decide +kernel
theorem dX0_winningIn_9 : decode cX0_winningIn 9 = .ok (.aload_n 0, 1) := by decide +kernel
theorem dX0_winningIn_10 : decode cX0_winningIn 10 = .ok (.getfield 26, 3) := by decide +kernel
theorem dX0_winningIn_13 : decode cX0_winningIn 13 = .ok (.iload_n 1, 1) := by decide +kernel
theorem dX0_winningIn_14 : decode cX0_winningIn 14 = .ok (.iaload, 1) := by decide +kernel
theorem dX0_winningIn_15 : decode cX0_winningIn 15 = .ok (.invokevirtual 70, 3) := by decide +kernel
theorem dX0_winningIn_18 : decode cX0_winningIn 18 = .ok (.invokestatic 73, 3) := by decide +kernel
theorem dX0_winningIn_21 : decode cX0_winningIn 21 = .ok (.goto 5, 3) := by decide +kernel
theorem dX0_winningIn_24 : decode cX0_winningIn 24 = .ok (.bipush 8, 2) := by decide +kernel
theorem dX0_winningIn_26 : decode cX0_winningIn 26 = .ok (.ireturn, 1) := by decide +kernel
set_option maxRecDepth 20000 in
theorem ggX0_openTolds_X0_isPlace : GoodIn wsX0_openTolds wsX0_isPlace := goodIn_r _ [4] (by decide +kernel) (by decide +kernel)
set_option maxRecDepth 20000 in
theorem gX0_openTolds_X0_isPlace : GoodIn wsX0_openTolds (va_wsS RX0 77 yX0_isPlace wsX0_isPlace) := goodIn_app (goodIn_of _ (by decide +kernel)) ggX0_openTolds_X0_isPlace
set_option maxRecDepth 20000 in
theorem ggX0_openTolds_X0_openBefore : GoodIn wsX0_openTolds wsX0_openBefore := goodIn_r _ [8, 9, 10, 11, 12, 13, 14, 15, 3, 16, 17, 18, 19, 20, 21, 22, 23, 24, 25, 26, 27, 28, 29, 30, 31, 32, 33, 34, 35] (by decide +kernel) (by decide +kernel)
set_option maxRecDepth 20000 in
theorem gX0_openTolds_X0_openBefore : GoodIn wsX0_openTolds (wsV RX0 70 RX0 yX0_openBefore wsX0_openBefore) := goodIn_app (goodIn_of _ (by decide +kernel)) ggX0_openTolds_X0_openBefore
theorem dX0_openTolds_0 : decode cX0_openTolds 0 = .ok (.iload_n 1, 1) := by decide +kernel
theorem dX0_openTolds_1 : decode cX0_openTolds 1 = .ok (.invokestatic 77, 3) := by decide +kernel
theorem dX0_openTolds_4 : decode cX0_openTolds 4 = .ok (.ifCond .eq 14, 3) := by decide +kernel
theorem dX0_openTolds_7 : decode cX0_openTolds 7 = .ok (.aload_n 0, 1) := by decide +kernel
theorem dX0_openTolds_8 : decode cX0_openTolds 8 = .ok (.iload_n 1, 1) := by decide +kernel
theorem dX0_openTolds_9 : decode cX0_openTolds 9 = .ok (.sipush 1026, 3) := by decide +kernel
theorem dX0_openTolds_12 : decode cX0_openTolds 12 = .ok (.invokevirtual 70, 3) := by decide +kernel
theorem dX0_openTolds_15 : decode cX0_openTolds 15 = .ok (.goto 4, 3) := by decide +kernel
theorem dX0_openTolds_18 : decode cX0_openTolds 18 = .ok (.lconst 0, 1) := by decide +kernel
theorem dX0_openTolds_19 : decode cX0_openTolds 19 = .ok (.lreturn, 1) := by decide +kernel
set_option maxRecDepth 20000 in
theorem ggX0_placeAfter_X1_has : GoodIn wsX0_placeAfter wsX1_has := goodIn_r _ [8] (by decide +kernel) (by decide +kernel)
set_option maxRecDepth 20000 in
theorem gX0_placeAfter_X1_has : GoodIn wsX0_placeAfter (va_wsS RX0 80 yX1_has wsX1_has) := goodIn_app (goodIn_of _ (by decide +kernel)) ggX0_placeAfter_X1_has
theorem dX0_placeAfter_0 : decode cX0_placeAfter 0 = .ok (.iconst 0, 1) := by decide +kernel
theorem dX0_placeAfter_1 : decode cX0_placeAfter 1 = .ok (.istore_n 3, 1) := by decide +kernel
theorem dX0_placeAfter_2 : decode cX0_placeAfter 2 = .ok (.iconst 0, 1) := by decide +kernel
theorem dX0_placeAfter_3 : decode cX0_placeAfter 3 = .ok (.istore 4, 2) := by decide +kernel
theorem dX0_placeAfter_5 : decode cX0_placeAfter 5 = .ok (.iload 4, 2) := by decide +kernel
theorem dX0_placeAfter_7 : decode cX0_placeAfter 7 = .ok (.aload_n 0, 1) := by decide +kernel
theorem dX0_placeAfter_8 : decode cX0_placeAfter 8 = .ok (.getfield 35, 3) := by decide +kernel
theorem dX0_placeAfter_11 : decode cX0_placeAfter 11 = .ok (.if_icmp .ge 58, 3) := by decide +kernel
theorem dX0_placeAfter_14 : decode cX0_placeAfter 14 = .ok (.iconst 4, 1) := by decide +kernel
theorem dX0_placeAfter_15 : decode cX0_placeAfter 15 = .ok (.iload 4, 2) := by decide +kernel
theorem dX0_placeAfter_17 : decode cX0_placeAfter 17 = .ok (.imul, 1) := by decide +kernel
theorem dX0_placeAfter_18 : decode cX0_placeAfter 18 = .ok (.iload_n 1, 1) := by decide +kernel
theorem dX0_placeAfter_19 : decode cX0_placeAfter 19 = .ok (.iconst 2, 1) := by decide +kernel
theorem dX0_placeAfter_20 : decode cX0_placeAfter 20 = .ok (.iload 4, 2) := by decide +kernel
theorem dX0_placeAfter_22 : decode cX0_placeAfter 22 = .ok (.imul, 1) := by decide +kernel
theorem dX0_placeAfter_23 : decode cX0_placeAfter 23 = .ok (.iushr, 1) := by decide +kernel
theorem dX0_placeAfter_24 : decode cX0_placeAfter 24 = .ok (.iconst 3, 1) := by decide +kernel
theorem dX0_placeAfter_25 : decode cX0_placeAfter 25 = .ok (.iand, 1) := by decide +kernel
theorem dX0_placeAfter_26 : decode cX0_placeAfter 26 = .ok (.iadd, 1) := by decide +kernel
theorem dX0_placeAfter_27 : decode cX0_placeAfter 27 = .ok (.istore 5, 2) := by decide +kernel
theorem dX0_placeAfter_29 : decode cX0_placeAfter 29 = .ok (.iload_n 3, 1) := by decide +kernel
theorem dX0_placeAfter_30 : decode cX0_placeAfter 30 = .ok (.aload_n 0, 1) := by decide +kernel
theorem dX0_placeAfter_31 : decode cX0_placeAfter 31 = .ok (.getfield 13, 3) := by decide +kernel
theorem dX0_placeAfter_34 : decode cX0_placeAfter 34 = .ok (.iload 5, 2) := by decide +kernel
theorem dX0_placeAfter_36 : decode cX0_placeAfter 36 = .ok (.laload, 1) := by decide +kernel
theorem dX0_placeAfter_37 : decode cX0_placeAfter 37 = .ok (.iload_n 2, 1) := by decide +kernel
theorem dX0_placeAfter_38 : decode cX0_placeAfter 38 = .ok (.invokestatic 80, 3) := by decide +kernel
theorem dX0_placeAfter_41 : decode cX0_placeAfter 41 = .ok (.ifCond .eq 13, 3) := by decide +kernel
theorem dX0_placeAfter_44 : decode cX0_placeAfter 44 = .ok (.aload_n 0, 1) := by decide +kernel
theorem dX0_placeAfter_45 : decode cX0_placeAfter 45 = .ok (.getfield 16, 3) := by decide +kernel
theorem dX0_placeAfter_48 : decode cX0_placeAfter 48 = .ok (.iload 5, 2) := by decide +kernel
theorem dX0_placeAfter_50 : decode cX0_placeAfter 50 = .ok (.iaload, 1) := by decide +kernel
theorem dX0_placeAfter_51 : decode cX0_placeAfter 51 = .ok (.goto 10, 3) := by decide +kernel
theorem dX0_placeAfter_54 : decode cX0_placeAfter 54 = .ok (.aload_n 0, 1) := by decide +kernel
theorem dX0_placeAfter_55 : decode cX0_placeAfter 55 = .ok (.getfield 20, 3) := by decide +kernel
theorem dX0_placeAfter_58 : decode cX0_placeAfter 58 = .ok (.iload 5, 2) := by decide +kernel
theorem dX0_placeAfter_60 : decode cX0_placeAfter 60 = .ok (.iaload, 1) := by decide +kernel
theorem dX0_placeAfter_61 : decode cX0_placeAfter 61 = .ok (.ior, 1) := by decide +kernel
theorem dX0_placeAfter_62 : decode cX0_placeAfter 62 = .ok (.istore_n 3, 1) := by decide +kernel
theorem dX0_placeAfter_63 : decode cX0_placeAfter 63 = .ok (.iinc 4 1, 3) := by decide +kernel
theorem dX0_placeAfter_66 : decode cX0_placeAfter 66 = .ok (.goto (-61), 3) := by decide +kernel
theorem dX0_placeAfter_69 : decode cX0_placeAfter 69 = .ok (.iload_n 3, 1) := by decide +kernel
theorem dX0_placeAfter_70 : decode cX0_placeAfter 70 = .ok (.ireturn, 1) := by decide +kernel
set_option maxRecDepth 20000 in
theorem ggX0_lastMayBreakAlone_X0_lastBreaksAlone : GoodIn wsX0_lastMayBreakAlone wsX0_lastBreaksAlone := goodIn_r _ [8, 9, 10, 11, 12, 7, 13, 14, 15, 16, 17, 18, 32, 33, 34, 35, 36, 37, 38, 39, 40, 41] (by decide +kernel) (by decide +kernel)
set_option maxRecDepth 20000 in
theorem gX0_lastMayBreakAlone_X0_lastBreaksAlone : GoodIn wsX0_lastMayBreakAlone (wsV RX0 84 RX0 yX0_lastBreaksAlone wsX0_lastBreaksAlone) := goodIn_app (goodIn_of _ (by decide +kernel)) ggX0_lastMayBreakAlone_X0_lastBreaksAlone
set_option maxRecDepth 20000 in
theorem ggX0_lastMayBreakAlone_X0_reachFrom : GoodIn wsX0_lastMayBreakAlone wsX0_reachFrom := goodIn_r _ [22, 9, 23, 24, 2, 1, 3, 14, 15, 16, 7, 17, 18, 10, 25, 26, 27, 28, 29, 30, 31, 32, 33, 34, 35, 36, 37, 38, 39, 40, 41] (by decide +kernel) (by decide +kernel)
set_option maxRecDepth 20000 in
theorem gX0_lastMayBreakAlone_X0_reachFrom : GoodIn wsX0_lastMayBreakAlone (wsV RX0 87 RX0 yX0_reachFrom wsX0_reachFrom) := goodIn_app (goodIn_of _ (by decide +kernel)) ggX0_lastMayBreakAlone_X0_reachFrom
theorem dX0_lastMayBreakAlone_0 : decode cX0_lastMayBreakAlone 0 = .ok (.iconst 0, 1) := by decide +kernel
theorem dX0_lastMayBreakAlone_1 : decode cX0_lastMayBreakAlone 1 = .ok (.istore_n 1, 1) := by decide +kernel
theorem dX0_lastMayBreakAlone_2 : decode cX0_lastMayBreakAlone 2 = .ok (.iload_n 1, 1) := by decide +kernel
theorem dX0_lastMayBreakAlone_3 : decode cX0_lastMayBreakAlone 3 = .ok (.aload_n 0, 1) := by decide +kernel
theorem dX0_lastMayBreakAlone_4 : decode cX0_lastMayBreakAlone 4 = .ok (.getfield 39, 3) := by decide +kernel
theorem dX0_lastMayBreakAlone_7 : decode cX0_lastMayBreakAlone 7 = .ok (.if_icmp .ge 21, 3) := by decide +kernel
theorem dX0_lastMayBreakAlone_10 : decode cX0_lastMayBreakAlone 10 = .ok (.aload_n 0, 1) := by decide +kernel
theorem dX0_lastMayBreakAlone_11 : decode cX0_lastMayBreakAlone 11 = .ok (.getfield 26, 3) := by decide +kernel
theorem dX0_lastMayBreakAlone_14 : decode cX0_lastMayBreakAlone 14 = .ok (.aload_n 0, 1) := by decide +kernel
theorem dX0_lastMayBreakAlone_15 : decode cX0_lastMayBreakAlone 15 = .ok (.getfield 23, 3) := by decide +kernel
theorem dX0_lastMayBreakAlone_18 : decode cX0_lastMayBreakAlone 18 = .ok (.iload_n 1, 1) := by decide +kernel
theorem dX0_lastMayBreakAlone_19 : decode cX0_lastMayBreakAlone 19 = .ok (.iaload, 1) := by decide +kernel
theorem dX0_lastMayBreakAlone_20 : decode cX0_lastMayBreakAlone 20 = .ok (.iconst 0, 1) := by decide +kernel
theorem dX0_lastMayBreakAlone_21 : decode cX0_lastMayBreakAlone 21 = .ok (.iastore, 1) := by decide +kernel
theorem dX0_lastMayBreakAlone_22 : decode cX0_lastMayBreakAlone 22 = .ok (.iinc 1 1, 3) := by decide +kernel
theorem dX0_lastMayBreakAlone_25 : decode cX0_lastMayBreakAlone 25 = .ok (.goto (-23), 3) := by decide +kernel
theorem dX0_lastMayBreakAlone_28 : decode cX0_lastMayBreakAlone 28 = .ok (.aload_n 0, 1) := by decide +kernel
theorem dX0_lastMayBreakAlone_29 : decode cX0_lastMayBreakAlone 29 = .ok (.getfield 23, 3) := by decide +kernel
theorem dX0_lastMayBreakAlone_32 : decode cX0_lastMayBreakAlone 32 = .ok (.iconst 0, 1) := by decide +kernel
theorem dX0_lastMayBreakAlone_33 : decode cX0_lastMayBreakAlone 33 = .ok (.iconst 0, 1) := by decide +kernel
theorem dX0_lastMayBreakAlone_34 : decode cX0_lastMayBreakAlone 34 = .ok (.iastore, 1) := by decide +kernel
theorem dX0_lastMayBreakAlone_35 : decode cX0_lastMayBreakAlone 35 = .ok (.aload_n 0, 1) := by decide +kernel
theorem dX0_lastMayBreakAlone_36 : decode cX0_lastMayBreakAlone 36 = .ok (.iconst 1, 1) := by decide +kernel
theorem dX0_lastMayBreakAlone_37 : decode cX0_lastMayBreakAlone 37 = .ok (.putfield 39, 3) := by decide +kernel
theorem dX0_lastMayBreakAlone_40 : decode cX0_lastMayBreakAlone 40 = .ok (.aload_n 0, 1) := by decide +kernel
theorem dX0_lastMayBreakAlone_41 : decode cX0_lastMayBreakAlone 41 = .ok (.getfield 26, 3) := by decide +kernel
theorem dX0_lastMayBreakAlone_44 : decode cX0_lastMayBreakAlone 44 = .ok (.iconst 0, 1) := by decide +kernel
theorem dX0_lastMayBreakAlone_45 : decode cX0_lastMayBreakAlone 45 = .ok (.iconst 1, 1) := by decide +kernel
theorem dX0_lastMayBreakAlone_46 : decode cX0_lastMayBreakAlone 46 = .ok (.iastore, 1) := by decide +kernel
theorem dX0_lastMayBreakAlone_47 : decode cX0_lastMayBreakAlone 47 = .ok (.iconst 0, 1) := by decide +kernel
theorem dX0_lastMayBreakAlone_48 : decode cX0_lastMayBreakAlone 48 = .ok (.istore_n 1, 1) := by decide +kernel
theorem dX0_lastMayBreakAlone_49 : decode cX0_lastMayBreakAlone 49 = .ok (.iload_n 1, 1) := by decide +kernel
theorem dX0_lastMayBreakAlone_50 : decode cX0_lastMayBreakAlone 50 = .ok (.aload_n 0, 1) := by decide +kernel
theorem dX0_lastMayBreakAlone_51 : decode cX0_lastMayBreakAlone 51 = .ok (.getfield 39, 3) := by decide +kernel
theorem dX0_lastMayBreakAlone_54 : decode cX0_lastMayBreakAlone 54 = .ok (.if_icmp .ge 41, 3) := by decide +kernel
theorem dX0_lastMayBreakAlone_57 : decode cX0_lastMayBreakAlone 57 = .ok (.iload_n 1, 1) := by decide +kernel
theorem dX0_lastMayBreakAlone_58 : decode cX0_lastMayBreakAlone 58 = .ok (.sipush 1024, 3) := by decide +kernel
theorem dX0_lastMayBreakAlone_61 : decode cX0_lastMayBreakAlone 61 = .ok (.if_icmp .ge 34, 3) := by decide +kernel
theorem dX0_lastMayBreakAlone_64 : decode cX0_lastMayBreakAlone 64 = .ok (.aload_n 0, 1) := by decide +kernel
theorem dX0_lastMayBreakAlone_65 : decode cX0_lastMayBreakAlone 65 = .ok (.aload_n 0, 1) := by decide +kernel
theorem dX0_lastMayBreakAlone_66 : decode cX0_lastMayBreakAlone 66 = .ok (.getfield 23, 3) := by decide +kernel
theorem dX0_lastMayBreakAlone_69 : decode cX0_lastMayBreakAlone 69 = .ok (.iload_n 1, 1) := by decide +kernel
theorem dX0_lastMayBreakAlone_70 : decode cX0_lastMayBreakAlone 70 = .ok (.iaload, 1) := by decide +kernel
theorem dX0_lastMayBreakAlone_71 : decode cX0_lastMayBreakAlone 71 = .ok (.invokevirtual 84, 3) := by decide +kernel
theorem dX0_lastMayBreakAlone_74 : decode cX0_lastMayBreakAlone 74 = .ok (.ifCond .eq 5, 3) := by decide +kernel
theorem dX0_lastMayBreakAlone_77 : decode cX0_lastMayBreakAlone 77 = .ok (.iconst 1, 1) := by decide +kernel
theorem dX0_lastMayBreakAlone_78 : decode cX0_lastMayBreakAlone 78 = .ok (.ireturn, 1) := by decide +kernel
theorem dX0_lastMayBreakAlone_79 : decode cX0_lastMayBreakAlone 79 = .ok (.aload_n 0, 1) := by decide +kernel
theorem dX0_lastMayBreakAlone_80 : decode cX0_lastMayBreakAlone 80 = .ok (.aload_n 0, 1) := by decide +kernel
theorem dX0_lastMayBreakAlone_81 : decode cX0_lastMayBreakAlone 81 = .ok (.getfield 23, 3) := by decide +kernel
theorem dX0_lastMayBreakAlone_84 : decode cX0_lastMayBreakAlone 84 = .ok (.iload_n 1, 1) := by decide +kernel
theorem dX0_lastMayBreakAlone_85 : decode cX0_lastMayBreakAlone 85 = .ok (.iaload, 1) := by decide +kernel
theorem dX0_lastMayBreakAlone_86 : decode cX0_lastMayBreakAlone 86 = .ok (.invokevirtual 87, 3) := by decide +kernel
theorem dX0_lastMayBreakAlone_89 : decode cX0_lastMayBreakAlone 89 = .ok (.iinc 1 1, 3) := by decide +kernel
theorem dX0_lastMayBreakAlone_92 : decode cX0_lastMayBreakAlone 92 = .ok (.goto (-43), 3) := by decide +kernel
theorem dX0_lastMayBreakAlone_95 : decode cX0_lastMayBreakAlone 95 = .ok (.iconst 0, 1) := by decide +kernel
theorem dX0_lastMayBreakAlone_96 : decode cX0_lastMayBreakAlone 96 = .ok (.ireturn, 1) := by decide +kernel
set_option maxRecDepth 20000 in
theorem ggX0_lastBreaksAlone_X0_stateAt : GoodIn wsX0_lastBreaksAlone wsX0_stateAt := goodIn_r _ [6] (by decide +kernel) (by decide +kernel)
set_option maxRecDepth 20000 in
theorem gX0_lastBreaksAlone_X0_stateAt : GoodIn wsX0_lastBreaksAlone (va_wsS RX0 90 yX0_stateAt wsX0_stateAt) := goodIn_app (goodIn_of _ (by decide +kernel)) ggX0_lastBreaksAlone_X0_stateAt
set_option maxRecDepth 20000 in
theorem ggX0_lastBreaksAlone_X0_unbroken : GoodIn wsX0_lastBreaksAlone wsX0_unbroken := goodIn_r _ [10, 11, 2, 12, 13, 14, 15, 16, 17, 18, 19, 20, 21] (by decide +kernel) (by decide +kernel)
set_option maxRecDepth 20000 in
theorem gX0_lastBreaksAlone_X0_unbroken : GoodIn wsX0_lastBreaksAlone (wsV RX0 67 RX0 yX0_unbroken wsX0_unbroken) := goodIn_app (goodIn_of _ (by decide +kernel)) ggX0_lastBreaksAlone_X0_unbroken
theorem dX0_lastBreaksAlone_0 : decode cX0_lastBreaksAlone 0 = .ok (.aload_n 0, 1) := by decide +kernel
theorem dX0_lastBreaksAlone_1 : decode cX0_lastBreaksAlone 1 = .ok (.getfield 35, 3) := by decide +kernel
theorem dX0_lastBreaksAlone_4 : decode cX0_lastBreaksAlone 4 = .ok (.ifCond .ne 5, 3) := by decide +kernel
theorem dX0_lastBreaksAlone_7 : decode cX0_lastBreaksAlone 7 = .ok (.iconst 0, 1) := by decide +kernel
theorem dX0_lastBreaksAlone_8 : decode cX0_lastBreaksAlone 8 = .ok (.ireturn, 1) := by decide +kernel
theorem dX0_lastBreaksAlone_9 : decode cX0_lastBreaksAlone 9 = .ok (.aload_n 0, 1) := by decide +kernel
theorem dX0_lastBreaksAlone_10 : decode cX0_lastBreaksAlone 10 = .ok (.getfield 35, 3) := by decide +kernel
theorem dX0_lastBreaksAlone_13 : decode cX0_lastBreaksAlone 13 = .ok (.iconst 1, 1) := by decide +kernel
theorem dX0_lastBreaksAlone_14 : decode cX0_lastBreaksAlone 14 = .ok (.isub, 1) := by decide +kernel
theorem dX0_lastBreaksAlone_15 : decode cX0_lastBreaksAlone 15 = .ok (.istore_n 2, 1) := by decide +kernel
theorem dX0_lastBreaksAlone_16 : decode cX0_lastBreaksAlone 16 = .ok (.aload_n 0, 1) := by decide +kernel
theorem dX0_lastBreaksAlone_17 : decode cX0_lastBreaksAlone 17 = .ok (.getfield 9, 3) := by decide +kernel
theorem dX0_lastBreaksAlone_20 : decode cX0_lastBreaksAlone 20 = .ok (.iconst 4, 1) := by decide +kernel
theorem dX0_lastBreaksAlone_21 : decode cX0_lastBreaksAlone 21 = .ok (.iload_n 2, 1) := by decide +kernel
theorem dX0_lastBreaksAlone_22 : decode cX0_lastBreaksAlone 22 = .ok (.imul, 1) := by decide +kernel
theorem dX0_lastBreaksAlone_23 : decode cX0_lastBreaksAlone 23 = .ok (.iload_n 1, 1) := by decide +kernel
theorem dX0_lastBreaksAlone_24 : decode cX0_lastBreaksAlone 24 = .ok (.iload_n 2, 1) := by decide +kernel
theorem dX0_lastBreaksAlone_25 : decode cX0_lastBreaksAlone 25 = .ok (.invokestatic 90, 3) := by decide +kernel
theorem dX0_lastBreaksAlone_28 : decode cX0_lastBreaksAlone 28 = .ok (.iadd, 1) := by decide +kernel
theorem dX0_lastBreaksAlone_29 : decode cX0_lastBreaksAlone 29 = .ok (.laload, 1) := by decide +kernel
theorem dX0_lastBreaksAlone_30 : decode cX0_lastBreaksAlone 30 = .ok (.aload_n 0, 1) := by decide +kernel
theorem dX0_lastBreaksAlone_31 : decode cX0_lastBreaksAlone 31 = .ok (.iload_n 1, 1) := by decide +kernel
theorem dX0_lastBreaksAlone_32 : decode cX0_lastBreaksAlone 32 = .ok (.iload_n 2, 1) := by decide +kernel
theorem dX0_lastBreaksAlone_33 : decode cX0_lastBreaksAlone 33 = .ok (.invokevirtual 67, 3) := by decide +kernel
theorem dX0_lastBreaksAlone_36 : decode cX0_lastBreaksAlone 36 = .ok (.land, 1) := by decide +kernel
theorem dX0_lastBreaksAlone_37 : decode cX0_lastBreaksAlone 37 = .ok (.lconst 0, 1) := by decide +kernel
theorem dX0_lastBreaksAlone_38 : decode cX0_lastBreaksAlone 38 = .ok (.lcmp, 1) := by decide +kernel
theorem dX0_lastBreaksAlone_39 : decode cX0_lastBreaksAlone 39 = .ok (.ifCond .eq 7, 3) := by decide +kernel
theorem dX0_lastBreaksAlone_42 : decode cX0_lastBreaksAlone 42 = .ok (.iconst 1, 1) := by decide +kernel
theorem dX0_lastBreaksAlone_43 : decode cX0_lastBreaksAlone 43 = .ok (.goto 4, 3) := by decide +kernel
theorem dX0_lastBreaksAlone_46 : decode cX0_lastBreaksAlone 46 = .ok (.iconst 0, 1) := by decide +kernel
theorem dX0_lastBreaksAlone_47 : decode cX0_lastBreaksAlone 47 = .ok (.ireturn, 1) := by decide +kernel
set_option maxRecDepth 20000 in
theorem ggX0_reachFrom_X0_unbroken : GoodIn wsX0_reachFrom wsX0_unbroken := goodIn_r _ [11, 12, 13, 21, 22, 23, 24, 25, 26, 27, 28, 29, 30] (by decide +kernel) (by decide +kernel)
set_option maxRecDepth 20000 in
theorem gX0_reachFrom_X0_unbroken : GoodIn wsX0_reachFrom (wsV RX0 67 RX0 yX0_unbroken wsX0_unbroken) := goodIn_app (goodIn_of _ (by decide +kernel)) ggX0_reachFrom_X0_unbroken
set_option maxRecDepth 20000 in
theorem ggX0_reachFrom_X0_split : GoodIn wsX0_reachFrom wsX0_split := goodIn_r _ [17, 3, 2, 1, 18, 12, 19, 20, 21, 22, 23, 24, 25, 26, 27, 28, 29, 30] (by decide +kernel) (by decide +kernel)
set_option maxRecDepth 20000 in
theorem gX0_reachFrom_X0_split : GoodIn wsX0_reachFrom (wsV RX0 93 RX0 yX0_split wsX0_split) := goodIn_app (goodIn_of _ (by decide +kernel)) ggX0_reachFrom_X0_split
theorem dX0_reachFrom_0 : decode cX0_reachFrom 0 = .ok (.aload_n 0, 1) := by decide +kernel
theorem dX0_reachFrom_1 : decode cX0_reachFrom 1 = .ok (.iload_n 1, 1) := by decide +kernel
theorem dX0_reachFrom_2 : decode cX0_reachFrom 2 = .ok (.aload_n 0, 1) := by decide +kernel
theorem dX0_reachFrom_3 : decode cX0_reachFrom 3 = .ok (.iload_n 1, 1) := by decide +kernel
theorem dX0_reachFrom_4 : decode cX0_reachFrom 4 = .ok (.aload_n 0, 1) := by decide +kernel
theorem dX0_reachFrom_5 : decode cX0_reachFrom 5 = .ok (.getfield 35, 3) := by decide +kernel
theorem dX0_reachFrom_8 : decode cX0_reachFrom 8 = .ok (.invokevirtual 67, 3) := by decide +kernel
theorem dX0_reachFrom_11 : decode cX0_reachFrom 11 = .ok (.invokevirtual 93, 3) := by decide +kernel
theorem dX0_reachFrom_14 : decode cX0_reachFrom 14 = .ok (.istore_n 2, 1) := by decide +kernel
theorem dX0_reachFrom_15 : decode cX0_reachFrom 15 = .ok (.iconst 0, 1) := by decide +kernel
theorem dX0_reachFrom_16 : decode cX0_reachFrom 16 = .ok (.istore_n 3, 1) := by decide +kernel
theorem dX0_reachFrom_17 : decode cX0_reachFrom 17 = .ok (.iload_n 3, 1) := by decide +kernel
theorem dX0_reachFrom_18 : decode cX0_reachFrom 18 = .ok (.iload_n 2, 1) := by decide +kernel
theorem dX0_reachFrom_19 : decode cX0_reachFrom 19 = .ok (.if_icmp .ge 77, 3) := by decide +kernel
theorem dX0_reachFrom_22 : decode cX0_reachFrom 22 = .ok (.aload_n 0, 1) := by decide +kernel
theorem dX0_reachFrom_23 : decode cX0_reachFrom 23 = .ok (.getfield 32, 3) := by decide +kernel
theorem dX0_reachFrom_26 : decode cX0_reachFrom 26 = .ok (.iload_n 3, 1) := by decide +kernel
theorem dX0_reachFrom_27 : decode cX0_reachFrom 27 = .ok (.iaload, 1) := by decide +kernel
theorem dX0_reachFrom_28 : decode cX0_reachFrom 28 = .ok (.istore 4, 2) := by decide +kernel
theorem dX0_reachFrom_30 : decode cX0_reachFrom 30 = .ok (.aload_n 0, 1) := by decide +kernel
theorem dX0_reachFrom_31 : decode cX0_reachFrom 31 = .ok (.getfield 29, 3) := by decide +kernel
theorem dX0_reachFrom_34 : decode cX0_reachFrom 34 = .ok (.iload_n 3, 1) := by decide +kernel
theorem dX0_reachFrom_35 : decode cX0_reachFrom 35 = .ok (.laload, 1) := by decide +kernel
theorem dX0_reachFrom_36 : decode cX0_reachFrom 36 = .ok (.lconst 0, 1) := by decide +kernel
theorem dX0_reachFrom_37 : decode cX0_reachFrom 37 = .ok (.lcmp, 1) := by decide +kernel
theorem dX0_reachFrom_38 : decode cX0_reachFrom 38 = .ok (.ifCond .eq 52, 3) := by decide +kernel
theorem dX0_reachFrom_41 : decode cX0_reachFrom 41 = .ok (.aload_n 0, 1) := by decide +kernel
theorem dX0_reachFrom_42 : decode cX0_reachFrom 42 = .ok (.getfield 26, 3) := by decide +kernel
theorem dX0_reachFrom_45 : decode cX0_reachFrom 45 = .ok (.iload 4, 2) := by decide +kernel
theorem dX0_reachFrom_47 : decode cX0_reachFrom 47 = .ok (.iaload, 1) := by decide +kernel
theorem dX0_reachFrom_48 : decode cX0_reachFrom 48 = .ok (.ifCond .ne 42, 3) := by decide +kernel
theorem dX0_reachFrom_51 : decode cX0_reachFrom 51 = .ok (.aload_n 0, 1) := by decide +kernel
theorem dX0_reachFrom_52 : decode cX0_reachFrom 52 = .ok (.getfield 39, 3) := by decide +kernel
theorem dX0_reachFrom_55 : decode cX0_reachFrom 55 = .ok (.sipush 1024, 3) := by decide +kernel
theorem dX0_reachFrom_58 : decode cX0_reachFrom 58 = .ok (.if_icmp .ge 32, 3) := by decide +kernel
theorem dX0_reachFrom_61 : decode cX0_reachFrom 61 = .ok (.aload_n 0, 1) := by decide +kernel
theorem dX0_reachFrom_62 : decode cX0_reachFrom 62 = .ok (.getfield 26, 3) := by decide +kernel
theorem dX0_reachFrom_65 : decode cX0_reachFrom 65 = .ok (.iload 4, 2) := by decide +kernel
theorem dX0_reachFrom_67 : decode cX0_reachFrom 67 = .ok (.iconst 1, 1) := by decide +kernel
theorem dX0_reachFrom_68 : decode cX0_reachFrom 68 = .ok (.iastore, 1) := by decide +kernel
theorem dX0_reachFrom_69 : decode cX0_reachFrom 69 = .ok (.aload_n 0, 1) := by decide +kernel
theorem dX0_reachFrom_70 : decode cX0_reachFrom 70 = .ok (.getfield 23, 3) := by decide +kernel
theorem dX0_reachFrom_73 : decode cX0_reachFrom 73 = .ok (.aload_n 0, 1) := by decide +kernel
theorem dX0_reachFrom_74 : decode cX0_reachFrom 74 = .ok (.getfield 39, 3) := by decide +kernel
theorem dX0_reachFrom_77 : decode cX0_reachFrom 77 = .ok (.iload 4, 2) := by decide +kernel
theorem dX0_reachFrom_79 : decode cX0_reachFrom 79 = .ok (.iastore, 1) := by decide +kernel
theorem dX0_reachFrom_80 : decode cX0_reachFrom 80 = .ok (.aload_n 0, 1) := by decide +kernel
theorem dX0_reachFrom_81 : decode cX0_reachFrom 81 = .ok (.dup, 1) := by decide +kernel
theorem dX0_reachFrom_82 : decode cX0_reachFrom 82 = .ok (.getfield 39, 3) := by decide +kernel
theorem dX0_reachFrom_85 : decode cX0_reachFrom 85 = .ok (.iconst 1, 1) := by decide +kernel
theorem dX0_reachFrom_86 : decode cX0_reachFrom 86 = .ok (.iadd, 1) := by decide +kernel
theorem dX0_reachFrom_87 : decode cX0_reachFrom 87 = .ok (.putfield 39, 3) := by decide +kernel
theorem dX0_reachFrom_90 : decode cX0_reachFrom 90 = .ok (.iinc 3 1, 3) := by decide +kernel
theorem dX0_reachFrom_93 : decode cX0_reachFrom 93 = .ok (.goto (-76), 3) := by decide +kernel
theorem dX0_reachFrom_96 : decode cX0_reachFrom 96 = .ok (.return_, 1) := by decide +kernel
theorem dX0_isPlace_0 : decode cX0_isPlace 0 = .ok (.iload_n 0, 1) := by decide +kernel
theorem dX0_isPlace_1 : decode cX0_isPlace 1 = .ok (.ifCond .lt 14, 3) := by decide +kernel
theorem dX0_isPlace_4 : decode cX0_isPlace 4 = .ok (.iload_n 0, 1) := by decide +kernel
theorem dX0_isPlace_5 : decode cX0_isPlace 5 = .ok (.sipush 1024, 3) := by decide +kernel
theorem dX0_isPlace_8 : decode cX0_isPlace 8 = .ok (.if_icmp .ge 7, 3) := by decide +kernel
theorem dX0_isPlace_11 : decode cX0_isPlace 11 = .ok (.iconst 1, 1) := by decide +kernel
theorem dX0_isPlace_12 : decode cX0_isPlace 12 = .ok (.goto 4, 3) := by decide +kernel
theorem dX0_isPlace_15 : decode cX0_isPlace 15 = .ok (.iconst 0, 1) := by decide +kernel
theorem dX0_isPlace_16 : decode cX0_isPlace 16 = .ok (.ireturn, 1) := by decide +kernel
theorem dX0_firstWithoutOut_0 : decode cX0_firstWithoutOut 0 = .ok (.iconst 0, 1) := by decide +kernel
theorem dX0_firstWithoutOut_1 : decode cX0_firstWithoutOut 1 = .ok (.istore_n 2, 1) := by decide +kernel
theorem dX0_firstWithoutOut_2 : decode cX0_firstWithoutOut 2 = .ok (.iload_n 2, 1) := by decide +kernel
theorem dX0_firstWithoutOut_3 : decode cX0_firstWithoutOut 3 = .ok (.bipush 8, 2) := by decide +kernel
theorem dX0_firstWithoutOut_5 : decode cX0_firstWithoutOut 5 = .ok (.if_icmp .ge 26, 3) := by decide +kernel
theorem dX0_firstWithoutOut_8 : decode cX0_firstWithoutOut 8 = .ok (.lload_n 0, 1) := by decide +kernel
theorem dX0_firstWithoutOut_9 : decode cX0_firstWithoutOut 9 = .ok (.bipush 8, 2) := by decide +kernel
theorem dX0_firstWithoutOut_11 : decode cX0_firstWithoutOut 11 = .ok (.iload_n 2, 1) := by decide +kernel
theorem dX0_firstWithoutOut_12 : decode cX0_firstWithoutOut 12 = .ok (.imul, 1) := by decide +kernel
theorem dX0_firstWithoutOut_13 : decode cX0_firstWithoutOut 13 = .ok (.lushr, 1) := by decide +kernel
theorem dX0_firstWithoutOut_14 : decode cX0_firstWithoutOut 14 = .ok (.ldc2_w 97, 3) := by decide +kernel
theorem dX0_firstWithoutOut_17 : decode cX0_firstWithoutOut 17 = .ok (.land, 1) := by decide +kernel
theorem dX0_firstWithoutOut_18 : decode cX0_firstWithoutOut 18 = .ok (.lconst 0, 1) := by decide +kernel
theorem dX0_firstWithoutOut_19 : decode cX0_firstWithoutOut 19 = .ok (.lcmp, 1) := by decide +kernel
theorem dX0_firstWithoutOut_20 : decode cX0_firstWithoutOut 20 = .ok (.ifCond .ne 5, 3) := by decide +kernel
theorem dX0_firstWithoutOut_23 : decode cX0_firstWithoutOut 23 = .ok (.iload_n 2, 1) := by decide +kernel
theorem dX0_firstWithoutOut_24 : decode cX0_firstWithoutOut 24 = .ok (.ireturn, 1) := by decide +kernel
theorem dX0_firstWithoutOut_25 : decode cX0_firstWithoutOut 25 = .ok (.iinc 2 1, 3) := by decide +kernel
theorem dX0_firstWithoutOut_28 : decode cX0_firstWithoutOut 28 = .ok (.goto (-26), 3) := by decide +kernel
theorem dX0_firstWithoutOut_31 : decode cX0_firstWithoutOut 31 = .ok (.bipush 8, 2) := by decide +kernel
theorem dX0_firstWithoutOut_33 : decode cX0_firstWithoutOut 33 = .ok (.ireturn, 1) := by decide +kernel
theorem dX0_unbroken_0 : decode cX0_unbroken 0 = .ok (.ldc2_w 99, 3) := by decide +kernel
theorem dX0_unbroken_3 : decode cX0_unbroken 3 = .ok (.lstore_n 3, 1) := by decide +kernel
theorem dX0_unbroken_4 : decode cX0_unbroken 4 = .ok (.iconst 0, 1) := by decide +kernel
theorem dX0_unbroken_5 : decode cX0_unbroken 5 = .ok (.istore 5, 2) := by decide +kernel
theorem dX0_unbroken_7 : decode cX0_unbroken 7 = .ok (.iload 5, 2) := by decide +kernel
theorem dX0_unbroken_9 : decode cX0_unbroken 9 = .ok (.iload_n 2, 1) := by decide +kernel
theorem dX0_unbroken_10 : decode cX0_unbroken 10 = .ok (.if_icmp .ge 40, 3) := by decide +kernel
theorem dX0_unbroken_13 : decode cX0_unbroken 13 = .ok (.iload 5, 2) := by decide +kernel
theorem dX0_unbroken_15 : decode cX0_unbroken 15 = .ok (.iconst 5, 1) := by decide +kernel
theorem dX0_unbroken_16 : decode cX0_unbroken 16 = .ok (.if_icmp .ge 34, 3) := by decide +kernel
theorem dX0_unbroken_19 : decode cX0_unbroken 19 = .ok (.lload_n 3, 1) := by decide +kernel
theorem dX0_unbroken_20 : decode cX0_unbroken 20 = .ok (.aload_n 0, 1) := by decide +kernel
theorem dX0_unbroken_21 : decode cX0_unbroken 21 = .ok (.getfield 9, 3) := by decide +kernel
theorem dX0_unbroken_24 : decode cX0_unbroken 24 = .ok (.iconst 4, 1) := by decide +kernel
theorem dX0_unbroken_25 : decode cX0_unbroken 25 = .ok (.iload 5, 2) := by decide +kernel
theorem dX0_unbroken_27 : decode cX0_unbroken 27 = .ok (.imul, 1) := by decide +kernel
theorem dX0_unbroken_28 : decode cX0_unbroken 28 = .ok (.iload_n 1, 1) := by decide +kernel
theorem dX0_unbroken_29 : decode cX0_unbroken 29 = .ok (.iconst 2, 1) := by decide +kernel
theorem dX0_unbroken_30 : decode cX0_unbroken 30 = .ok (.iload 5, 2) := by decide +kernel
theorem dX0_unbroken_32 : decode cX0_unbroken 32 = .ok (.imul, 1) := by decide +kernel
theorem dX0_unbroken_33 : decode cX0_unbroken 33 = .ok (.iushr, 1) := by decide +kernel
theorem dX0_unbroken_34 : decode cX0_unbroken 34 = .ok (.iconst 3, 1) := by decide +kernel
theorem dX0_unbroken_35 : decode cX0_unbroken 35 = .ok (.iand, 1) := by decide +kernel
theorem dX0_unbroken_36 : decode cX0_unbroken 36 = .ok (.iadd, 1) := by decide +kernel
theorem dX0_unbroken_37 : decode cX0_unbroken 37 = .ok (.laload, 1) := by decide +kernel
theorem dX0_unbroken_38 : decode cX0_unbroken 38 = .ok (.ldc2_w 99, 3) := by decide +kernel
theorem dX0_unbroken_41 : decode cX0_unbroken 41 = .ok (.lxor, 1) := by decide +kernel
theorem dX0_unbroken_42 : decode cX0_unbroken 42 = .ok (.land, 1) := by decide +kernel
theorem dX0_unbroken_43 : decode cX0_unbroken 43 = .ok (.lstore_n 3, 1) := by decide +kernel
theorem dX0_unbroken_44 : decode cX0_unbroken 44 = .ok (.iinc 5 1, 3) := by decide +kernel
theorem dX0_unbroken_47 : decode cX0_unbroken 47 = .ok (.goto (-40), 3) := by decide +kernel
theorem dX0_unbroken_50 : decode cX0_unbroken 50 = .ok (.lload_n 3, 1) := by decide +kernel
theorem dX0_unbroken_51 : decode cX0_unbroken 51 = .ok (.lreturn, 1) := by decide +kernel
set_option maxRecDepth 20000 in
theorem ggX0_openBefore_X0_unbroken : GoodIn wsX0_openBefore wsX0_unbroken := goodIn_r _ [9, 10, 11, 19, 20, 21, 22, 23, 24, 25, 26, 27, 28] (by decide +kernel) (by decide +kernel)
set_option maxRecDepth 20000 in
theorem gX0_openBefore_X0_unbroken : GoodIn wsX0_openBefore (wsV RX0 67 RX0 yX0_unbroken wsX0_unbroken) := goodIn_app (goodIn_of _ (by decide +kernel)) ggX0_openBefore_X0_unbroken
set_option maxRecDepth 20000 in
theorem ggX0_openBefore_X0_split : GoodIn wsX0_openBefore wsX0_split := goodIn_r _ [15, 4, 3, 1, 16, 10, 17, 18, 19, 20, 21, 22, 23, 24, 25, 26, 27, 28] (by decide +kernel) (by decide +kernel)
set_option maxRecDepth 20000 in
theorem gX0_openBefore_X0_split : GoodIn wsX0_openBefore (wsV RX0 93 RX0 yX0_split wsX0_split) := goodIn_app (goodIn_of _ (by decide +kernel)) ggX0_openBefore_X0_split
theorem dX0_openBefore_0 : decode cX0_openBefore 0 = .ok (.aload_n 0, 1) := by decide +kernel
theorem dX0_openBefore_1 : decode cX0_openBefore 1 = .ok (.iload_n 1, 1) := by decide +kernel
theorem dX0_openBefore_2 : decode cX0_openBefore 2 = .ok (.aload_n 0, 1) := by decide +kernel
theorem dX0_openBefore_3 : decode cX0_openBefore 3 = .ok (.iload_n 1, 1) := by decide +kernel
theorem dX0_openBefore_4 : decode cX0_openBefore 4 = .ok (.aload_n 0, 1) := by decide +kernel
theorem dX0_openBefore_5 : decode cX0_openBefore 5 = .ok (.getfield 35, 3) := by decide +kernel
theorem dX0_openBefore_8 : decode cX0_openBefore 8 = .ok (.invokevirtual 67, 3) := by decide +kernel
theorem dX0_openBefore_11 : decode cX0_openBefore 11 = .ok (.invokevirtual 93, 3) := by decide +kernel
theorem dX0_openBefore_14 : decode cX0_openBefore 14 = .ok (.istore_n 3, 1) := by decide +kernel
theorem dX0_openBefore_15 : decode cX0_openBefore 15 = .ok (.lconst 0, 1) := by decide +kernel
theorem dX0_openBefore_16 : decode cX0_openBefore 16 = .ok (.lstore 4, 2) := by decide +kernel
theorem dX0_openBefore_18 : decode cX0_openBefore 18 = .ok (.iconst 0, 1) := by decide +kernel
theorem dX0_openBefore_19 : decode cX0_openBefore 19 = .ok (.istore 6, 2) := by decide +kernel
theorem dX0_openBefore_21 : decode cX0_openBefore 21 = .ok (.iload 6, 2) := by decide +kernel
theorem dX0_openBefore_23 : decode cX0_openBefore 23 = .ok (.iload_n 3, 1) := by decide +kernel
theorem dX0_openBefore_24 : decode cX0_openBefore 24 = .ok (.if_icmp .ge 46, 3) := by decide +kernel
theorem dX0_openBefore_27 : decode cX0_openBefore 27 = .ok (.aload_n 0, 1) := by decide +kernel
theorem dX0_openBefore_28 : decode cX0_openBefore 28 = .ok (.getfield 26, 3) := by decide +kernel
theorem dX0_openBefore_31 : decode cX0_openBefore 31 = .ok (.aload_n 0, 1) := by decide +kernel
theorem dX0_openBefore_32 : decode cX0_openBefore 32 = .ok (.getfield 32, 3) := by decide +kernel
theorem dX0_openBefore_35 : decode cX0_openBefore 35 = .ok (.iload 6, 2) := by decide +kernel
theorem dX0_openBefore_37 : decode cX0_openBefore 37 = .ok (.iaload, 1) := by decide +kernel
theorem dX0_openBefore_38 : decode cX0_openBefore 38 = .ok (.iaload, 1) := by decide +kernel
theorem dX0_openBefore_39 : decode cX0_openBefore 39 = .ok (.istore 7, 2) := by decide +kernel
theorem dX0_openBefore_41 : decode cX0_openBefore 41 = .ok (.iload 7, 2) := by decide +kernel
theorem dX0_openBefore_43 : decode cX0_openBefore 43 = .ok (.ifCond .eq 9, 3) := by decide +kernel
theorem dX0_openBefore_46 : decode cX0_openBefore 46 = .ok (.iload 7, 2) := by decide +kernel
theorem dX0_openBefore_48 : decode cX0_openBefore 48 = .ok (.iload_n 2, 1) := by decide +kernel
theorem dX0_openBefore_49 : decode cX0_openBefore 49 = .ok (.if_icmp .lt 15, 3) := by decide +kernel
theorem dX0_openBefore_52 : decode cX0_openBefore 52 = .ok (.lload 4, 2) := by decide +kernel
theorem dX0_openBefore_54 : decode cX0_openBefore 54 = .ok (.aload_n 0, 1) := by decide +kernel
theorem dX0_openBefore_55 : decode cX0_openBefore 55 = .ok (.getfield 29, 3) := by decide +kernel
theorem dX0_openBefore_58 : decode cX0_openBefore 58 = .ok (.iload 6, 2) := by decide +kernel
theorem dX0_openBefore_60 : decode cX0_openBefore 60 = .ok (.laload, 1) := by decide +kernel
theorem dX0_openBefore_61 : decode cX0_openBefore 61 = .ok (.lor, 1) := by decide +kernel
theorem dX0_openBefore_62 : decode cX0_openBefore 62 = .ok (.lstore 4, 2) := by decide +kernel
theorem dX0_openBefore_64 : decode cX0_openBefore 64 = .ok (.iinc 6 1, 3) := by decide +kernel
theorem dX0_openBefore_67 : decode cX0_openBefore 67 = .ok (.goto (-46), 3) := by decide +kernel
theorem dX0_openBefore_70 : decode cX0_openBefore 70 = .ok (.lload 4, 2) := by decide +kernel
theorem dX0_openBefore_72 : decode cX0_openBefore 72 = .ok (.lreturn, 1) := by decide +kernel
theorem dX0_split_0 : decode cX0_split 0 = .ok (.aload_n 0, 1) := by decide +kernel
theorem dX0_split_1 : decode cX0_split 1 = .ok (.getfield 29, 3) := by decide +kernel
theorem dX0_split_4 : decode cX0_split 4 = .ok (.iconst 0, 1) := by decide +kernel
theorem dX0_split_5 : decode cX0_split 5 = .ok (.lload_n 2, 1) := by decide +kernel
theorem dX0_split_6 : decode cX0_split 6 = .ok (.lastore, 1) := by decide +kernel
theorem dX0_split_7 : decode cX0_split 7 = .ok (.aload_n 0, 1) := by decide +kernel
theorem dX0_split_8 : decode cX0_split 8 = .ok (.getfield 32, 3) := by decide +kernel
theorem dX0_split_11 : decode cX0_split 11 = .ok (.iconst 0, 1) := by decide +kernel
theorem dX0_split_12 : decode cX0_split 12 = .ok (.iconst 0, 1) := by decide +kernel
theorem dX0_split_13 : decode cX0_split 13 = .ok (.iastore, 1) := by decide +kernel
theorem dX0_split_14 : decode cX0_split 14 = .ok (.iconst 1, 1) := by decide +kernel
theorem dX0_split_15 : decode cX0_split 15 = .ok (.istore 4, 2) := by decide +kernel
theorem dX0_split_17 : decode cX0_split 17 = .ok (.iconst 0, 1) := by decide +kernel
theorem dX0_split_18 : decode cX0_split 18 = .ok (.istore 5, 2) := by decide +kernel
theorem dX0_split_20 : decode cX0_split 20 = .ok (.iload 5, 2) := by decide +kernel
theorem dX0_split_22 : decode cX0_split 22 = .ok (.aload_n 0, 1) := by decide +kernel
theorem dX0_split_23 : decode cX0_split 23 = .ok (.getfield 35, 3) := by decide +kernel
theorem dX0_split_26 : decode cX0_split 26 = .ok (.if_icmp .ge 192, 3) := by decide +kernel
theorem dX0_split_29 : decode cX0_split 29 = .ok (.iconst 4, 1) := by decide +kernel
theorem dX0_split_30 : decode cX0_split 30 = .ok (.iload 5, 2) := by decide +kernel
theorem dX0_split_32 : decode cX0_split 32 = .ok (.imul, 1) := by decide +kernel
theorem dX0_split_33 : decode cX0_split 33 = .ok (.iload_n 1, 1) := by decide +kernel
theorem dX0_split_34 : decode cX0_split 34 = .ok (.iconst 2, 1) := by decide +kernel
theorem dX0_split_35 : decode cX0_split 35 = .ok (.iload 5, 2) := by decide +kernel
theorem dX0_split_37 : decode cX0_split 37 = .ok (.imul, 1) := by decide +kernel
theorem dX0_split_38 : decode cX0_split 38 = .ok (.iushr, 1) := by decide +kernel
theorem dX0_split_39 : decode cX0_split 39 = .ok (.iconst 3, 1) := by decide +kernel
theorem dX0_split_40 : decode cX0_split 40 = .ok (.iand, 1) := by decide +kernel
theorem dX0_split_41 : decode cX0_split 41 = .ok (.iadd, 1) := by decide +kernel
theorem dX0_split_42 : decode cX0_split 42 = .ok (.istore 6, 2) := by decide +kernel
theorem dX0_split_44 : decode cX0_split 44 = .ok (.iload 4, 2) := by decide +kernel
theorem dX0_split_46 : decode cX0_split 46 = .ok (.istore 7, 2) := by decide +kernel
theorem dX0_split_48 : decode cX0_split 48 = .ok (.iconst 0, 1) := by decide +kernel
theorem dX0_split_49 : decode cX0_split 49 = .ok (.istore 8, 2) := by decide +kernel
theorem dX0_split_51 : decode cX0_split 51 = .ok (.iload 8, 2) := by decide +kernel
theorem dX0_split_53 : decode cX0_split 53 = .ok (.iload 7, 2) := by decide +kernel
theorem dX0_split_55 : decode cX0_split 55 = .ok (.if_icmp .ge 157, 3) := by decide +kernel
theorem dX0_split_58 : decode cX0_split 58 = .ok (.aload_n 0, 1) := by decide +kernel
theorem dX0_split_59 : decode cX0_split 59 = .ok (.getfield 29, 3) := by decide +kernel
theorem dX0_split_62 : decode cX0_split 62 = .ok (.iload 8, 2) := by decide +kernel
theorem dX0_split_64 : decode cX0_split 64 = .ok (.laload, 1) := by decide +kernel
theorem dX0_split_65 : decode cX0_split 65 = .ok (.aload_n 0, 1) := by decide +kernel
theorem dX0_split_66 : decode cX0_split 66 = .ok (.getfield 13, 3) := by decide +kernel
theorem dX0_split_69 : decode cX0_split 69 = .ok (.iload 6, 2) := by decide +kernel
theorem dX0_split_71 : decode cX0_split 71 = .ok (.laload, 1) := by decide +kernel
theorem dX0_split_72 : decode cX0_split 72 = .ok (.land, 1) := by decide +kernel
theorem dX0_split_73 : decode cX0_split 73 = .ok (.lstore 9, 2) := by decide +kernel
theorem dX0_split_75 : decode cX0_split 75 = .ok (.aload_n 0, 1) := by decide +kernel
theorem dX0_split_76 : decode cX0_split 76 = .ok (.getfield 29, 3) := by decide +kernel
theorem dX0_split_79 : decode cX0_split 79 = .ok (.iload 8, 2) := by decide +kernel
theorem dX0_split_81 : decode cX0_split 81 = .ok (.laload, 1) := by decide +kernel
theorem dX0_split_82 : decode cX0_split 82 = .ok (.aload_n 0, 1) := by decide +kernel
theorem dX0_split_83 : decode cX0_split 83 = .ok (.getfield 13, 3) := by decide +kernel
theorem dX0_split_86 : decode cX0_split 86 = .ok (.iload 6, 2) := by decide +kernel
theorem dX0_split_88 : decode cX0_split 88 = .ok (.laload, 1) := by decide +kernel
theorem dX0_split_89 : decode cX0_split 89 = .ok (.ldc2_w 99, 3) := by decide +kernel
theorem dX0_split_92 : decode cX0_split 92 = .ok (.lxor, 1) := by decide +kernel
theorem dX0_split_93 : decode cX0_split 93 = .ok (.land, 1) := by decide +kernel
theorem dX0_split_94 : decode cX0_split 94 = .ok (.lstore 11, 2) := by decide +kernel
theorem dX0_split_96 : decode cX0_split 96 = .ok (.lload 9, 2) := by decide +kernel
theorem dX0_split_98 : decode cX0_split 98 = .ok (.lconst 0, 1) := by decide +kernel
theorem dX0_split_99 : decode cX0_split 99 = .ok (.lcmp, 1) := by decide +kernel
theorem dX0_split_100 : decode cX0_split 100 = .ok (.ifCond .eq 51, 3) := by decide +kernel
theorem dX0_split_103 : decode cX0_split 103 = .ok (.lload 11, 2) := by decide +kernel
theorem dX0_split_105 : decode cX0_split 105 = .ok (.lconst 0, 1) := by decide +kernel
theorem dX0_split_106 : decode cX0_split 106 = .ok (.lcmp, 1) := by decide +kernel
theorem dX0_split_107 : decode cX0_split 107 = .ok (.ifCond .eq 44, 3) := by decide +kernel
theorem dX0_split_110 : decode cX0_split 110 = .ok (.iload 4, 2) := by decide +kernel
theorem dX0_split_112 : decode cX0_split 112 = .ok (.bipush 32, 2) := by decide +kernel
theorem dX0_split_114 : decode cX0_split 114 = .ok (.if_icmp .ge 37, 3) := by decide +kernel
theorem dX0_split_117 : decode cX0_split 117 = .ok (.aload_n 0, 1) := by decide +kernel
theorem dX0_split_118 : decode cX0_split 118 = .ok (.getfield 29, 3) := by decide +kernel
theorem dX0_split_121 : decode cX0_split 121 = .ok (.iload 4, 2) := by decide +kernel
theorem dX0_split_123 : decode cX0_split 123 = .ok (.lload 9, 2) := by decide +kernel
theorem dX0_split_125 : decode cX0_split 125 = .ok (.lastore, 1) := by decide +kernel
theorem dX0_split_126 : decode cX0_split 126 = .ok (.aload_n 0, 1) := by decide +kernel
theorem dX0_split_127 : decode cX0_split 127 = .ok (.getfield 32, 3) := by decide +kernel
theorem dX0_split_130 : decode cX0_split 130 = .ok (.iload 4, 2) := by decide +kernel
theorem dX0_split_132 : decode cX0_split 132 = .ok (.aload_n 0, 1) := by decide +kernel
theorem dX0_split_133 : decode cX0_split 133 = .ok (.getfield 32, 3) := by decide +kernel
theorem dX0_split_136 : decode cX0_split 136 = .ok (.iload 8, 2) := by decide +kernel
theorem dX0_split_138 : decode cX0_split 138 = .ok (.iaload, 1) := by decide +kernel
theorem dX0_split_139 : decode cX0_split 139 = .ok (.aload_n 0, 1) := by decide +kernel
theorem dX0_split_140 : decode cX0_split 140 = .ok (.getfield 16, 3) := by decide +kernel
theorem dX0_split_143 : decode cX0_split 143 = .ok (.iload 6, 2) := by decide +kernel
theorem dX0_split_145 : decode cX0_split 145 = .ok (.iaload, 1) := by decide +kernel
theorem dX0_split_146 : decode cX0_split 146 = .ok (.ior, 1) := by decide +kernel
theorem dX0_split_147 : decode cX0_split 147 = .ok (.iastore, 1) := by decide +kernel
theorem dX0_split_148 : decode cX0_split 148 = .ok (.iinc 4 1, 3) := by decide +kernel
theorem dX0_split_151 : decode cX0_split 151 = .ok (.aload_n 0, 1) := by decide +kernel
theorem dX0_split_152 : decode cX0_split 152 = .ok (.getfield 29, 3) := by decide +kernel
theorem dX0_split_155 : decode cX0_split 155 = .ok (.iload 8, 2) := by decide +kernel
theorem dX0_split_157 : decode cX0_split 157 = .ok (.lload 11, 2) := by decide +kernel
theorem dX0_split_159 : decode cX0_split 159 = .ok (.lconst 0, 1) := by decide +kernel
theorem dX0_split_160 : decode cX0_split 160 = .ok (.lcmp, 1) := by decide +kernel
theorem dX0_split_161 : decode cX0_split 161 = .ok (.ifCond .eq 8, 3) := by decide +kernel
theorem dX0_split_164 : decode cX0_split 164 = .ok (.lload 11, 2) := by decide +kernel
theorem dX0_split_166 : decode cX0_split 166 = .ok (.goto 5, 3) := by decide +kernel
theorem dX0_split_169 : decode cX0_split 169 = .ok (.lload 9, 2) := by decide +kernel
