theorem dX0_split_171 : decode cX0_split 171 = .ok (.lastore, 1) := by decide +kernel
theorem dX0_split_172 : decode cX0_split 172 = .ok (.aload_n 0, 1) := by decide +kernel
theorem dX0_split_173 : decode cX0_split 173 = .ok (.getfield 32, 3) := by decide +kernel
theorem dX0_split_176 : decode cX0_split 176 = .ok (.iload 8, 2) := by decide +kernel
theorem dX0_split_178 : decode cX0_split 178 = .ok (.dup2, 1) := by decide +kernel
theorem dX0_split_179 : decode cX0_split 179 = .ok (.iaload, 1) := by decide +kernel
theorem dX0_split_180 : decode cX0_split 180 = .ok (.lload 11, 2) := by decide +kernel
theorem dX0_split_182 : decode cX0_split 182 = .ok (.lconst 0, 1) := by decide +kernel
theorem dX0_split_183 : decode cX0_split 183 = .ok (.lcmp, 1) := by decide +kernel
theorem dX0_split_184 : decode cX0_split 184 = .ok (.ifCond .eq 13, 3) := by decide +kernel
theorem dX0_split_187 : decode cX0_split 187 = .ok (.aload_n 0, 1) := by decide +kernel
theorem dX0_split_188 : decode cX0_split 188 = .ok (.getfield 20, 3) := by decide +kernel
theorem dX0_split_191 : decode cX0_split 191 = .ok (.iload 6, 2) := by decide +kernel
theorem dX0_split_193 : decode cX0_split 193 = .ok (.iaload, 1) := by decide +kernel
theorem dX0_split_194 : decode cX0_split 194 = .ok (.goto 10, 3) := by decide +kernel
theorem dX0_split_197 : decode cX0_split 197 = .ok (.aload_n 0, 1) := by decide +kernel
theorem dX0_split_198 : decode cX0_split 198 = .ok (.getfield 16, 3) := by decide +kernel
theorem dX0_split_201 : decode cX0_split 201 = .ok (.iload 6, 2) := by decide +kernel
theorem dX0_split_203 : decode cX0_split 203 = .ok (.iaload, 1) := by decide +kernel
theorem dX0_split_204 : decode cX0_split 204 = .ok (.ior, 1) := by decide +kernel
theorem dX0_split_205 : decode cX0_split 205 = .ok (.iastore, 1) := by decide +kernel
theorem dX0_split_206 : decode cX0_split 206 = .ok (.iinc 8 1, 3) := by decide +kernel
theorem dX0_split_209 : decode cX0_split 209 = .ok (.goto (-158), 3) := by decide +kernel
theorem dX0_split_212 : decode cX0_split 212 = .ok (.iinc 5 1, 3) := by decide +kernel
theorem dX0_split_215 : decode cX0_split 215 = .ok (.goto (-195), 3) := by decide +kernel
theorem dX0_split_218 : decode cX0_split 218 = .ok (.iload 4, 2) := by decide +kernel
theorem dX0_split_220 : decode cX0_split 220 = .ok (.ireturn, 1) := by decide +kernel
theorem dX1_init_0 : decode cX1_init 0 = .ok (.aload_n 0, 1) := by decide +kernel
theorem dX1_init_1 : decode cX1_init 1 = .ok (.invokespecial 3, 3) := by decide +kernel
theorem dX1_init_4 : decode cX1_init 4 = .ok (.aload_n 0, 1) := by decide +kernel
theorem dX1_init_5 : decode cX1_init 5 = .ok (.iconst (-1), 1) := by decide +kernel
theorem dX1_init_6 : decode cX1_init 6 = .ok (.putfield 9, 3) := by decide +kernel
theorem dX1_init_9 : decode cX1_init 9 = .ok (.aload_n 0, 1) := by decide +kernel
theorem dX1_init_10 : decode cX1_init 10 = .ok (.aload_n 1, 1) := by decide +kernel
theorem dX1_init_11 : decode cX1_init 11 = .ok (.getfield 15, 3) := by decide +kernel
theorem dX1_init_14 : decode cX1_init 14 = .ok (.putfield 20, 3) := by decide +kernel
theorem dX1_init_17 : decode cX1_init 17 = .ok (.aload_n 0, 1) := by decide +kernel
theorem dX1_init_18 : decode cX1_init 18 = .ok (.aload_n 1, 1) := by decide +kernel
theorem dX1_init_19 : decode cX1_init 19 = .ok (.getfield 21, 3) := by decide +kernel
theorem dX1_init_22 : decode cX1_init 22 = .ok (.putfield 24, 3) := by decide +kernel
theorem dX1_init_25 : decode cX1_init 25 = .ok (.aload_n 0, 1) := by decide +kernel
theorem dX1_init_26 : decode cX1_init 26 = .ok (.aload_n 1, 1) := by decide +kernel
theorem dX1_init_27 : decode cX1_init 27 = .ok (.getfield 25, 3) := by decide +kernel
theorem dX1_init_30 : decode cX1_init 30 = .ok (.putfield 29, 3) := by decide +kernel
theorem dX1_init_33 : decode cX1_init 33 = .ok (.aload_n 0, 1) := by decide +kernel
theorem dX1_init_34 : decode cX1_init 34 = .ok (.aload_n 1, 1) := by decide +kernel
theorem dX1_init_35 : decode cX1_init 35 = .ok (.getfield 30, 3) := by decide +kernel
theorem dX1_init_38 : decode cX1_init 38 = .ok (.putfield 33, 3) := by decide +kernel
theorem dX1_init_41 : decode cX1_init 41 = .ok (.aload_n 0, 1) := by decide +kernel
theorem dX1_init_42 : decode cX1_init 42 = .ok (.aload_n 1, 1) := by decide +kernel
theorem dX1_init_43 : decode cX1_init 43 = .ok (.getfield 34, 3) := by decide +kernel
theorem dX1_init_46 : decode cX1_init 46 = .ok (.putfield 37, 3) := by decide +kernel
theorem dX1_init_49 : decode cX1_init 49 = .ok (.aload_n 0, 1) := by decide +kernel
theorem dX1_init_50 : decode cX1_init 50 = .ok (.iload_n 2, 1) := by decide +kernel
theorem dX1_init_51 : decode cX1_init 51 = .ok (.putfield 40, 3) := by decide +kernel
theorem dX1_init_54 : decode cX1_init 54 = .ok (.aload_n 0, 1) := by decide +kernel
theorem dX1_init_55 : decode cX1_init 55 = .ok (.iload_n 3, 1) := by decide +kernel
theorem dX1_init_56 : decode cX1_init 56 = .ok (.putfield 43, 3) := by decide +kernel
theorem dX1_init_59 : decode cX1_init 59 = .ok (.aload_n 0, 1) := by decide +kernel
theorem dX1_init_60 : decode cX1_init 60 = .ok (.iload 4, 2) := by decide +kernel
theorem dX1_init_62 : decode cX1_init 62 = .ok (.putfield 46, 3) := by decide +kernel
theorem dX1_init_65 : decode cX1_init 65 = .ok (.aload_n 0, 1) := by decide +kernel
theorem dX1_init_66 : decode cX1_init 66 = .ok (.iload 5, 2) := by decide +kernel
theorem dX1_init_68 : decode cX1_init 68 = .ok (.putfield 49, 3) := by decide +kernel
theorem dX1_init_71 : decode cX1_init 71 = .ok (.return_, 1) := by decide +kernel
theorem dX1_has_0 : decode cX1_has 0 = .ok (.lload_n 0, 1) := by decide +kernel
theorem dX1_has_1 : decode cX1_has 1 = .ok (.iload_n 2, 1) := by decide +kernel
theorem dX1_has_2 : decode cX1_has 2 = .ok (.lushr, 1) := by decide +kernel
theorem dX1_has_3 : decode cX1_has 3 = .ok (.lconst 1, 1) := by decide +kernel
theorem dX1_has_4 : decode cX1_has 4 = .ok (.land, 1) := by decide +kernel
theorem dX1_has_5 : decode cX1_has 5 = .ok (.lconst 1, 1) := by decide +kernel
theorem dX1_has_6 : decode cX1_has 6 = .ok (.lcmp, 1) := by decide +kernel
theorem dX1_has_7 : decode cX1_has 7 = .ok (.ifCond .ne 7, 3) := by decide +kernel
theorem dX1_has_10 : decode cX1_has 10 = .ok (.iconst 1, 1) := by decide +kernel
theorem dX1_has_11 : decode cX1_has 11 = .ok (.goto 4, 3) := by decide +kernel
theorem dX1_has_14 : decode cX1_has 14 = .ok (.iconst 0, 1) := by decide +kernel
theorem dX1_has_15 : decode cX1_has 15 = .ok (.ireturn, 1) := by decide +kernel
theorem dX1_isKnown_0 : decode cX1_isKnown 0 = .ok (.aload_n 0, 1) := by decide +kernel
theorem dX1_isKnown_1 : decode cX1_isKnown 1 = .ok (.getfield 49, 3) := by decide +kernel
theorem dX1_isKnown_4 : decode cX1_isKnown 4 = .ok (.iload_n 1, 1) := by decide +kernel
theorem dX1_isKnown_5 : decode cX1_isKnown 5 = .ok (.if_icmp .gt 22, 3) := by decide +kernel
theorem dX1_isKnown_8 : decode cX1_isKnown 8 = .ok (.aload_n 0, 1) := by decide +kernel
theorem dX1_isKnown_9 : decode cX1_isKnown 9 = .ok (.getfield 9, 3) := by decide +kernel
theorem dX1_isKnown_12 : decode cX1_isKnown 12 = .ok (.ifCond .lt 11, 3) := by decide +kernel
theorem dX1_isKnown_15 : decode cX1_isKnown 15 = .ok (.aload_n 0, 1) := by decide +kernel
theorem dX1_isKnown_16 : decode cX1_isKnown 16 = .ok (.getfield 9, 3) := by decide +kernel
theorem dX1_isKnown_19 : decode cX1_isKnown 19 = .ok (.iload_n 1, 1) := by decide +kernel
theorem dX1_isKnown_20 : decode cX1_isKnown 20 = .ok (.if_icmp .le 7, 3) := by decide +kernel
theorem dX1_isKnown_23 : decode cX1_isKnown 23 = .ok (.iconst 1, 1) := by decide +kernel
theorem dX1_isKnown_24 : decode cX1_isKnown 24 = .ok (.goto 4, 3) := by decide +kernel
theorem dX1_isKnown_27 : decode cX1_isKnown 27 = .ok (.iconst 0, 1) := by decide +kernel
theorem dX1_isKnown_28 : decode cX1_isKnown 28 = .ok (.ireturn, 1) := by decide +kernel
theorem dX1_breaking_0 : decode cX1_breaking 0 = .ok (.aload_n 0, 1) := by decide +kernel
theorem dX1_breaking_1 : decode cX1_breaking 1 = .ok (.getfield 20, 3) := by decide +kernel
theorem dX1_breaking_4 : decode cX1_breaking 4 = .ok (.ifCond .ne 8, 3) := by decide +kernel
theorem dX1_breaking_7 : decode cX1_breaking 7 = .ok (.aload_n 0, 1) := by decide +kernel
theorem dX1_breaking_8 : decode cX1_breaking 8 = .ok (.getfield 29, 3) := by decide +kernel
theorem dX1_breaking_11 : decode cX1_breaking 11 = .ok (.lreturn, 1) := by decide +kernel
theorem dX1_breaking_12 : decode cX1_breaking 12 = .ok (.aload_n 0, 1) := by decide +kernel
theorem dX1_breaking_13 : decode cX1_breaking 13 = .ok (.getfield 20, 3) := by decide +kernel
theorem dX1_breaking_16 : decode cX1_breaking 16 = .ok (.iconst 2, 1) := by decide +kernel
theorem dX1_breaking_17 : decode cX1_breaking 17 = .ok (.if_icmp .ne 20, 3) := by decide +kernel
theorem dX1_breaking_20 : decode cX1_breaking 20 = .ok (.iload_n 1, 1) := by decide +kernel
theorem dX1_breaking_21 : decode cX1_breaking 21 = .ok (.ifCond .le 14, 3) := by decide +kernel
theorem dX1_breaking_24 : decode cX1_breaking 24 = .ok (.aload_n 0, 1) := by decide +kernel
theorem dX1_breaking_25 : decode cX1_breaking 25 = .ok (.getfield 33, 3) := by decide +kernel
theorem dX1_breaking_28 : decode cX1_breaking 28 = .ok (.ldc2_w 52, 3) := by decide +kernel
theorem dX1_breaking_31 : decode cX1_breaking 31 = .ok (.lxor, 1) := by decide +kernel
theorem dX1_breaking_32 : decode cX1_breaking 32 = .ok (.goto 4, 3) := by decide +kernel
theorem dX1_breaking_35 : decode cX1_breaking 35 = .ok (.lconst 0, 1) := by decide +kernel
theorem dX1_breaking_36 : decode cX1_breaking 36 = .ok (.lreturn, 1) := by decide +kernel
theorem dX1_breaking_37 : decode cX1_breaking 37 = .ok (.iload_n 1, 1) := by decide +kernel
theorem dX1_breaking_38 : decode cX1_breaking 38 = .ok (.ifCond .ne 25, 3) := by decide +kernel
theorem dX1_breaking_41 : decode cX1_breaking 41 = .ok (.iload_n 2, 1) := by decide +kernel
theorem dX1_breaking_42 : decode cX1_breaking 42 = .ok (.ifCond .ne 19, 3) := by decide +kernel
theorem dX1_breaking_45 : decode cX1_breaking 45 = .ok (.aload_n 0, 1) := by decide +kernel
theorem dX1_breaking_46 : decode cX1_breaking 46 = .ok (.getfield 29, 3) := by decide +kernel
theorem dX1_breaking_49 : decode cX1_breaking 49 = .ok (.aload_n 0, 1) := by decide +kernel
theorem dX1_breaking_50 : decode cX1_breaking 50 = .ok (.getfield 33, 3) := by decide +kernel
theorem dX1_breaking_53 : decode cX1_breaking 53 = .ok (.ldc2_w 52, 3) := by decide +kernel
theorem dX1_breaking_56 : decode cX1_breaking 56 = .ok (.lxor, 1) := by decide +kernel
theorem dX1_breaking_57 : decode cX1_breaking 57 = .ok (.land, 1) := by decide +kernel
theorem dX1_breaking_58 : decode cX1_breaking 58 = .ok (.goto 4, 3) := by decide +kernel
theorem dX1_breaking_61 : decode cX1_breaking 61 = .ok (.lconst 0, 1) := by decide +kernel
theorem dX1_breaking_62 : decode cX1_breaking 62 = .ok (.lreturn, 1) := by decide +kernel
theorem dX1_breaking_63 : decode cX1_breaking 63 = .ok (.iload_n 1, 1) := by decide +kernel
theorem dX1_breaking_64 : decode cX1_breaking 64 = .ok (.iconst 1, 1) := by decide +kernel
theorem dX1_breaking_65 : decode cX1_breaking 65 = .ok (.if_icmp .ne 14, 3) := by decide +kernel
theorem dX1_breaking_68 : decode cX1_breaking 68 = .ok (.aload_n 0, 1) := by decide +kernel
theorem dX1_breaking_69 : decode cX1_breaking 69 = .ok (.getfield 33, 3) := by decide +kernel
theorem dX1_breaking_72 : decode cX1_breaking 72 = .ok (.ldc2_w 52, 3) := by decide +kernel
theorem dX1_breaking_75 : decode cX1_breaking 75 = .ok (.lxor, 1) := by decide +kernel
theorem dX1_breaking_76 : decode cX1_breaking 76 = .ok (.goto 4, 3) := by decide +kernel
theorem dX1_breaking_79 : decode cX1_breaking 79 = .ok (.lconst 0, 1) := by decide +kernel
theorem dX1_breaking_80 : decode cX1_breaking 80 = .ok (.lreturn, 1) := by decide +kernel
theorem dX1_turning_0 : decode cX1_turning 0 = .ok (.aload_n 0, 1) := by decide +kernel
theorem dX1_turning_1 : decode cX1_turning 1 = .ok (.getfield 20, 3) := by decide +kernel
theorem dX1_turning_4 : decode cX1_turning 4 = .ok (.ifCond .ne 5, 3) := by decide +kernel
theorem dX1_turning_7 : decode cX1_turning 7 = .ok (.lconst 0, 1) := by decide +kernel
theorem dX1_turning_8 : decode cX1_turning 8 = .ok (.lreturn, 1) := by decide +kernel
theorem dX1_turning_9 : decode cX1_turning 9 = .ok (.aload_n 0, 1) := by decide +kernel
theorem dX1_turning_10 : decode cX1_turning 10 = .ok (.getfield 20, 3) := by decide +kernel
theorem dX1_turning_13 : decode cX1_turning 13 = .ok (.iconst 2, 1) := by decide +kernel
theorem dX1_turning_14 : decode cX1_turning 14 = .ok (.if_icmp .ne 8, 3) := by decide +kernel
theorem dX1_turning_17 : decode cX1_turning 17 = .ok (.aload_n 0, 1) := by decide +kernel
theorem dX1_turning_18 : decode cX1_turning 18 = .ok (.getfield 29, 3) := by decide +kernel
theorem dX1_turning_21 : decode cX1_turning 21 = .ok (.lreturn, 1) := by decide +kernel
theorem dX1_turning_22 : decode cX1_turning 22 = .ok (.iload_n 1, 1) := by decide +kernel
theorem dX1_turning_23 : decode cX1_turning 23 = .ok (.ifCond .ne 19, 3) := by decide +kernel
theorem dX1_turning_26 : decode cX1_turning 26 = .ok (.aload_n 0, 1) := by decide +kernel
theorem dX1_turning_27 : decode cX1_turning 27 = .ok (.getfield 29, 3) := by decide +kernel
theorem dX1_turning_30 : decode cX1_turning 30 = .ok (.aload_n 0, 1) := by decide +kernel
theorem dX1_turning_31 : decode cX1_turning 31 = .ok (.getfield 33, 3) := by decide +kernel
theorem dX1_turning_34 : decode cX1_turning 34 = .ok (.ldc2_w 52, 3) := by decide +kernel
theorem dX1_turning_37 : decode cX1_turning 37 = .ok (.lxor, 1) := by decide +kernel
theorem dX1_turning_38 : decode cX1_turning 38 = .ok (.land, 1) := by decide +kernel
theorem dX1_turning_39 : decode cX1_turning 39 = .ok (.goto 7, 3) := by decide +kernel
theorem dX1_turning_42 : decode cX1_turning 42 = .ok (.aload_n 0, 1) := by decide +kernel
theorem dX1_turning_43 : decode cX1_turning 43 = .ok (.getfield 33, 3) := by decide +kernel
theorem dX1_turning_46 : decode cX1_turning 46 = .ok (.lreturn, 1) := by decide +kernel
theorem dX1_turned_0 : decode cX1_turned 0 = .ok (.aload_n 0, 1) := by decide +kernel
theorem dX1_turned_1 : decode cX1_turned 1 = .ok (.getfield 20, 3) := by decide +kernel
theorem dX1_turned_4 : decode cX1_turned 4 = .ok (.ifCond .ne 5, 3) := by decide +kernel
theorem dX1_turned_7 : decode cX1_turned 7 = .ok (.iload_n 1, 1) := by decide +kernel
theorem dX1_turned_8 : decode cX1_turned 8 = .ok (.ireturn, 1) := by decide +kernel
theorem dX1_turned_9 : decode cX1_turned 9 = .ok (.aload_n 0, 1) := by decide +kernel
theorem dX1_turned_10 : decode cX1_turned 10 = .ok (.getfield 20, 3) := by decide +kernel
theorem dX1_turned_13 : decode cX1_turned 13 = .ok (.iconst 2, 1) := by decide +kernel
theorem dX1_turned_14 : decode cX1_turned 14 = .ok (.if_icmp .ne 11, 3) := by decide +kernel
theorem dX1_turned_17 : decode cX1_turned 17 = .ok (.iload_n 1, 1) := by decide +kernel
theorem dX1_turned_18 : decode cX1_turned 18 = .ok (.iconst 1, 1) := by decide +kernel
theorem dX1_turned_19 : decode cX1_turned 19 = .ok (.isub, 1) := by decide +kernel
theorem dX1_turned_20 : decode cX1_turned 20 = .ok (.iload_n 2, 1) := by decide +kernel
theorem dX1_turned_21 : decode cX1_turned 21 = .ok (.invokestatic 54, 3) := by decide +kernel
theorem dX1_turned_24 : decode cX1_turned 24 = .ok (.ireturn, 1) := by decide +kernel
theorem dX1_turned_25 : decode cX1_turned 25 = .ok (.iload_n 1, 1) := by decide +kernel
theorem dX1_turned_26 : decode cX1_turned 26 = .ok (.ifCond .ne 7, 3) := by decide +kernel
theorem dX1_turned_29 : decode cX1_turned 29 = .ok (.iload_n 2, 1) := by decide +kernel
theorem dX1_turned_30 : decode cX1_turned 30 = .ok (.goto 4, 3) := by decide +kernel
theorem dX1_turned_33 : decode cX1_turned 33 = .ok (.iconst 0, 1) := by decide +kernel
theorem dX1_turned_34 : decode cX1_turned 34 = .ok (.ireturn, 1) := by decide +kernel
theorem dX1_runOn_0 : decode cX1_runOn 0 = .ok (.aload_n 0, 1) := by decide +kernel
theorem dX1_runOn_1 : decode cX1_runOn 1 = .ok (.getfield 20, 3) := by decide +kernel
theorem dX1_runOn_4 : decode cX1_runOn 4 = .ok (.ifCond .ne 7, 3) := by decide +kernel
theorem dX1_runOn_7 : decode cX1_runOn 7 = .ok (.iload_n 1, 1) := by decide +kernel
theorem dX1_runOn_8 : decode cX1_runOn 8 = .ok (.goto 10, 3) := by decide +kernel
theorem dX1_runOn_11 : decode cX1_runOn 11 = .ok (.iload_n 1, 1) := by decide +kernel
theorem dX1_runOn_12 : decode cX1_runOn 12 = .ok (.iconst 1, 1) := by decide +kernel
theorem dX1_runOn_13 : decode cX1_runOn 13 = .ok (.isub, 1) := by decide +kernel
theorem dX1_runOn_14 : decode cX1_runOn 14 = .ok (.iconst 0, 1) := by decide +kernel
theorem dX1_runOn_15 : decode cX1_runOn 15 = .ok (.invokestatic 54, 3) := by decide +kernel
theorem dX1_runOn_18 : decode cX1_runOn 18 = .ok (.ireturn, 1) := by decide +kernel
set_option maxRecDepth 20000 in
theorem ggX1_after_X1_breaking : GoodIn wsX1_after wsX1_breaking := goodIn_r _ [6, 7, 8, 9, 10, 30, 31, 32, 33, 34, 35, 36, 37, 38, 39, 40] (by decide +kernel) (by decide +kernel)
set_option maxRecDepth 20000 in
theorem gX1_after_X1_breaking : GoodIn wsX1_after (wsV RX1 60 RX1 yX1_breaking wsX1_breaking) := goodIn_app (goodIn_of _ (by decide +kernel)) ggX1_after_X1_breaking
set_option maxRecDepth 20000 in
theorem ggX1_after_X1_has : GoodIn wsX1_after wsX1_has := goodIn_r _ [13] (by decide +kernel) (by decide +kernel)
set_option maxRecDepth 20000 in
theorem gX1_after_X1_has : GoodIn wsX1_after (va_wsS RX1 64 yX1_has wsX1_has) := goodIn_app (goodIn_of _ (by decide +kernel)) ggX1_after_X1_has
set_option maxRecDepth 20000 in
theorem ggX1_after_X1_turning : GoodIn wsX1_after wsX1_turning := goodIn_r _ [17, 7, 8, 9, 10, 30, 31, 32, 33, 34, 35, 36, 37, 38, 39, 40] (by decide +kernel) (by decide +kernel)
set_option maxRecDepth 20000 in
theorem gX1_after_X1_turning : GoodIn wsX1_after (wsV RX1 68 RX1 yX1_turning wsX1_turning) := goodIn_app (goodIn_of _ (by decide +kernel)) ggX1_after_X1_turning
set_option maxRecDepth 20000 in
theorem ggX1_after_X1_turned : GoodIn wsX1_after wsX1_turned := goodIn_r _ [21, 7, 22, 23, 24, 25, 30, 31, 32, 33, 34, 35, 36, 37, 38, 39, 40] (by decide +kernel) (by decide +kernel)
set_option maxRecDepth 20000 in
theorem gX1_after_X1_turned : GoodIn wsX1_after (wsV RX1 72 RX1 yX1_turned wsX1_turned) := goodIn_app (goodIn_of _ (by decide +kernel)) ggX1_after_X1_turned
set_option maxRecDepth 20000 in
theorem ggX1_after_X1_runOn : GoodIn wsX1_after wsX1_runOn := goodIn_r _ [29, 7, 22, 23, 24, 25, 30, 31, 32, 33, 34, 35, 36, 37, 38, 39, 40] (by decide +kernel) (by decide +kernel)
set_option maxRecDepth 20000 in
theorem gX1_after_X1_runOn : GoodIn wsX1_after (wsV RX1 75 RX1 yX1_runOn wsX1_runOn) := goodIn_app (goodIn_of _ (by decide +kernel)) ggX1_after_X1_runOn
theorem dX1_after_0 : decode cX1_after 0 = .ok (.aload_n 0, 1) := by decide +kernel
theorem dX1_after_1 : decode cX1_after 1 = .ok (.iload_n 1, 1) := by decide +kernel
theorem dX1_after_2 : decode cX1_after 2 = .ok (.aload_n 0, 1) := by decide +kernel
theorem dX1_after_3 : decode cX1_after 3 = .ok (.getfield 24, 3) := by decide +kernel
theorem dX1_after_6 : decode cX1_after 6 = .ok (.invokevirtual 60, 3) := by decide +kernel
theorem dX1_after_9 : decode cX1_after 9 = .ok (.iload_n 2, 1) := by decide +kernel
theorem dX1_after_10 : decode cX1_after 10 = .ok (.invokestatic 64, 3) := by decide +kernel
theorem dX1_after_13 : decode cX1_after 13 = .ok (.ifCond .eq 5, 3) := by decide +kernel
theorem dX1_after_16 : decode cX1_after 16 = .ok (.iconst (-1), 1) := by decide +kernel
theorem dX1_after_17 : decode cX1_after 17 = .ok (.ireturn, 1) := by decide +kernel
theorem dX1_after_18 : decode cX1_after 18 = .ok (.aload_n 0, 1) := by decide +kernel
theorem dX1_after_19 : decode cX1_after 19 = .ok (.iload_n 1, 1) := by decide +kernel
theorem dX1_after_20 : decode cX1_after 20 = .ok (.invokevirtual 68, 3) := by decide +kernel
theorem dX1_after_23 : decode cX1_after 23 = .ok (.iload_n 2, 1) := by decide +kernel
theorem dX1_after_24 : decode cX1_after 24 = .ok (.invokestatic 64, 3) := by decide +kernel
theorem dX1_after_27 : decode cX1_after 27 = .ok (.ifCond .eq 15, 3) := by decide +kernel
theorem dX1_after_30 : decode cX1_after 30 = .ok (.aload_n 0, 1) := by decide +kernel
theorem dX1_after_31 : decode cX1_after 31 = .ok (.iload_n 1, 1) := by decide +kernel
theorem dX1_after_32 : decode cX1_after 32 = .ok (.aload_n 0, 1) := by decide +kernel
theorem dX1_after_33 : decode cX1_after 33 = .ok (.getfield 24, 3) := by decide +kernel
theorem dX1_after_36 : decode cX1_after 36 = .ok (.invokevirtual 72, 3) := by decide +kernel
theorem dX1_after_39 : decode cX1_after 39 = .ok (.goto 8, 3) := by decide +kernel
theorem dX1_after_42 : decode cX1_after 42 = .ok (.aload_n 0, 1) := by decide +kernel
theorem dX1_after_43 : decode cX1_after 43 = .ok (.iload_n 1, 1) := by decide +kernel
theorem dX1_after_44 : decode cX1_after 44 = .ok (.invokevirtual 75, 3) := by decide +kernel
theorem dX1_after_47 : decode cX1_after 47 = .ok (.ireturn, 1) := by decide +kernel
set_option maxRecDepth 20000 in
theorem ggX1_firstBroken_X1_after : GoodIn wsX1_firstBroken wsX1_after := goodIn_r _ [5, 6, 7, 8, 9, 4, 10, 11, 12, 13, 14, 15, 16, 17, 18, 19, 20, 21, 22, 23, 24, 25, 26, 27, 28, 29, 30, 31, 32, 33, 34, 35, 36, 37, 38, 39, 40, 41, 42, 43, 44] (by decide +kernel) (by decide +kernel)
set_option maxRecDepth 20000 in
theorem gX1_firstBroken_X1_after : GoodIn wsX1_firstBroken (wsV RX1 79 RX1 yX1_after wsX1_after) := goodIn_app (goodIn_of _ (by decide +kernel)) ggX1_firstBroken_X1_after
theorem dX1_firstBroken_0 : decode cX1_firstBroken 0 = .ok (.iconst 0, 1) := by decide +kernel
theorem dX1_firstBroken_1 : decode cX1_firstBroken 1 = .ok (.istore_n 3, 1) := by decide +kernel
theorem dX1_firstBroken_2 : decode cX1_firstBroken 2 = .ok (.iconst 0, 1) := by decide +kernel
theorem dX1_firstBroken_3 : decode cX1_firstBroken 3 = .ok (.istore 4, 2) := by decide +kernel
theorem dX1_firstBroken_5 : decode cX1_firstBroken 5 = .ok (.iload 4, 2) := by decide +kernel
theorem dX1_firstBroken_7 : decode cX1_firstBroken 7 = .ok (.iload_n 2, 1) := by decide +kernel
theorem dX1_firstBroken_8 : decode cX1_firstBroken 8 = .ok (.if_icmp .ge 34, 3) := by decide +kernel
theorem dX1_firstBroken_11 : decode cX1_firstBroken 11 = .ok (.iload 4, 2) := by decide +kernel
theorem dX1_firstBroken_13 : decode cX1_firstBroken 13 = .ok (.aload_n 1, 1) := by decide +kernel
theorem dX1_firstBroken_14 : decode cX1_firstBroken 14 = .ok (.arraylength, 1) := by decide +kernel
theorem dX1_firstBroken_15 : decode cX1_firstBroken 15 = .ok (.if_icmp .ge 27, 3) := by decide +kernel
theorem dX1_firstBroken_18 : decode cX1_firstBroken 18 = .ok (.aload_n 0, 1) := by decide +kernel
theorem dX1_firstBroken_19 : decode cX1_firstBroken 19 = .ok (.iload_n 3, 1) := by decide +kernel
theorem dX1_firstBroken_20 : decode cX1_firstBroken 20 = .ok (.aload_n 1, 1) := by decide +kernel
theorem dX1_firstBroken_21 : decode cX1_firstBroken 21 = .ok (.iload 4, 2) := by decide +kernel
theorem dX1_firstBroken_23 : decode cX1_firstBroken 23 = .ok (.baload, 1) := by decide +kernel
theorem dX1_firstBroken_24 : decode cX1_firstBroken 24 = .ok (.invokevirtual 79, 3) := by decide +kernel
theorem dX1_firstBroken_27 : decode cX1_firstBroken 27 = .ok (.istore_n 3, 1) := by decide +kernel
theorem dX1_firstBroken_28 : decode cX1_firstBroken 28 = .ok (.iload_n 3, 1) := by decide +kernel
theorem dX1_firstBroken_29 : decode cX1_firstBroken 29 = .ok (.iconst (-1), 1) := by decide +kernel
theorem dX1_firstBroken_30 : decode cX1_firstBroken 30 = .ok (.if_icmp .ne 6, 3) := by decide +kernel
theorem dX1_firstBroken_33 : decode cX1_firstBroken 33 = .ok (.iload 4, 2) := by decide +kernel
theorem dX1_firstBroken_35 : decode cX1_firstBroken 35 = .ok (.ireturn, 1) := by decide +kernel
theorem dX1_firstBroken_36 : decode cX1_firstBroken 36 = .ok (.iinc 4 1, 3) := by decide +kernel
theorem dX1_firstBroken_39 : decode cX1_firstBroken 39 = .ok (.goto (-34), 3) := by decide +kernel
theorem dX1_firstBroken_42 : decode cX1_firstBroken 42 = .ok (.bipush (-4), 2) := by decide +kernel
theorem dX1_firstBroken_44 : decode cX1_firstBroken 44 = .ok (.ireturn, 1) := by decide +kernel
set_option maxRecDepth 20000 in
theorem ggX1_allows_X1_eased : GoodIn wsX1_allows wsX1_eased := goodIn_r _ [6, 1, 7, 8, 9, 10, 11, 12, 13, 14, 15, 16, 17, 18] (by decide +kernel) (by decide +kernel)
set_option maxRecDepth 20000 in
theorem gX1_allows_X1_eased : GoodIn wsX1_allows (wsV RX1 82 RX1 yX1_eased wsX1_eased) := goodIn_app (goodIn_of _ (by decide +kernel)) ggX1_allows_X1_eased
theorem dX1_allows_0 : decode cX1_allows 0 = .ok (.iload_n 1, 1) := by decide +kernel
theorem dX1_allows_1 : decode cX1_allows 1 = .ok (.ifCond .eq 8, 3) := by decide +kernel
theorem dX1_allows_4 : decode cX1_allows 4 = .ok (.iload_n 1, 1) := by decide +kernel
theorem dX1_allows_5 : decode cX1_allows 5 = .ok (.iconst 4, 1) := by decide +kernel
theorem dX1_allows_6 : decode cX1_allows 6 = .ok (.if_icmp .ne 5, 3) := by decide +kernel
theorem dX1_allows_9 : decode cX1_allows 9 = .ok (.iconst 1, 1) := by decide +kernel
theorem dX1_allows_10 : decode cX1_allows 10 = .ok (.ireturn, 1) := by decide +kernel
theorem dX1_allows_11 : decode cX1_allows 11 = .ok (.aload_n 0, 1) := by decide +kernel
theorem dX1_allows_12 : decode cX1_allows 12 = .ok (.getfield 20, 3) := by decide +kernel
theorem dX1_allows_15 : decode cX1_allows 15 = .ok (.ifCond .eq 24, 3) := by decide +kernel
theorem dX1_allows_18 : decode cX1_allows 18 = .ok (.aload_n 0, 1) := by decide +kernel
theorem dX1_allows_19 : decode cX1_allows 19 = .ok (.iload_n 1, 1) := by decide +kernel
theorem dX1_allows_20 : decode cX1_allows 20 = .ok (.invokevirtual 82, 3) := by decide +kernel
theorem dX1_allows_23 : decode cX1_allows 23 = .ok (.ifCond .lt 16, 3) := by decide +kernel
theorem dX1_allows_26 : decode cX1_allows 26 = .ok (.aload_n 0, 1) := by decide +kernel
theorem dX1_allows_27 : decode cX1_allows 27 = .ok (.iload_n 1, 1) := by decide +kernel
theorem dX1_allows_28 : decode cX1_allows 28 = .ok (.invokevirtual 82, 3) := by decide +kernel
theorem dX1_allows_31 : decode cX1_allows 31 = .ok (.iconst 3, 1) := by decide +kernel
theorem dX1_allows_32 : decode cX1_allows 32 = .ok (.if_icmp .gt 7, 3) := by decide +kernel
theorem dX1_allows_35 : decode cX1_allows 35 = .ok (.iconst 1, 1) := by decide +kernel
theorem dX1_allows_36 : decode cX1_allows 36 = .ok (.goto 4, 3) := by decide +kernel
theorem dX1_allows_39 : decode cX1_allows 39 = .ok (.iconst 0, 1) := by decide +kernel
theorem dX1_allows_40 : decode cX1_allows 40 = .ok (.ireturn, 1) := by decide +kernel
theorem dX1_eased_0 : decode cX1_eased 0 = .ok (.aload_n 0, 1) := by decide +kernel
theorem dX1_eased_1 : decode cX1_eased 1 = .ok (.getfield 20, 3) := by decide +kernel
theorem dX1_eased_4 : decode cX1_eased 4 = .ok (.iconst 1, 1) := by decide +kernel
theorem dX1_eased_5 : decode cX1_eased 5 = .ok (.if_icmp .ne 12, 3) := by decide +kernel
theorem dX1_eased_8 : decode cX1_eased 8 = .ok (.aload_n 0, 1) := by decide +kernel
theorem dX1_eased_9 : decode cX1_eased 9 = .ok (.getfield 24, 3) := by decide +kernel
theorem dX1_eased_12 : decode cX1_eased 12 = .ok (.iload_n 1, 1) := by decide +kernel
theorem dX1_eased_13 : decode cX1_eased 13 = .ok (.iadd, 1) := by decide +kernel
theorem dX1_eased_14 : decode cX1_eased 14 = .ok (.goto 9, 3) := by decide +kernel
theorem dX1_eased_17 : decode cX1_eased 17 = .ok (.aload_n 0, 1) := by decide +kernel
theorem dX1_eased_18 : decode cX1_eased 18 = .ok (.getfield 24, 3) := by decide +kernel
theorem dX1_eased_21 : decode cX1_eased 21 = .ok (.iload_n 1, 1) := by decide +kernel
theorem dX1_eased_22 : decode cX1_eased 22 = .ok (.isub, 1) := by decide +kernel
theorem dX1_eased_23 : decode cX1_eased 23 = .ok (.ireturn, 1) := by decide +kernel
theorem dX1_priceOf_0 : decode cX1_priceOf 0 = .ok (.iload_n 1, 1) := by decide +kernel
theorem dX1_priceOf_1 : decode cX1_priceOf 1 = .ok (.iconst 4, 1) := by decide +kernel
theorem dX1_priceOf_2 : decode cX1_priceOf 2 = .ok (.if_icmp .ne 10, 3) := by decide +kernel
theorem dX1_priceOf_5 : decode cX1_priceOf 5 = .ok (.aload_n 0, 1) := by decide +kernel
theorem dX1_priceOf_6 : decode cX1_priceOf 6 = .ok (.getfield 43, 3) := by decide +kernel
theorem dX1_priceOf_9 : decode cX1_priceOf 9 = .ok (.goto 9, 3) := by decide +kernel
theorem dX1_priceOf_12 : decode cX1_priceOf 12 = .ok (.aload_n 0, 1) := by decide +kernel
theorem dX1_priceOf_13 : decode cX1_priceOf 13 = .ok (.getfield 46, 3) := by decide +kernel
theorem dX1_priceOf_16 : decode cX1_priceOf 16 = .ok (.iload_n 1, 1) := by decide +kernel
theorem dX1_priceOf_17 : decode cX1_priceOf 17 = .ok (.imul, 1) := by decide +kernel
theorem dX1_priceOf_18 : decode cX1_priceOf 18 = .ok (.ireturn, 1) := by decide +kernel
theorem dX2_init_0 : decode cX2_init 0 = .ok (.aload_n 0, 1) := by decide +kernel
theorem dX2_init_1 : decode cX2_init 1 = .ok (.invokespecial 3, 3) := by decide +kernel
theorem dX2_init_4 : decode cX2_init 4 = .ok (.aload_n 0, 1) := by decide +kernel
theorem dX2_init_5 : decode cX2_init 5 = .ok (.bipush 20, 2) := by decide +kernel
theorem dX2_init_7 : decode cX2_init 7 = .ok (.newarray .int, 2) := by decide +kernel
theorem dX2_init_9 : decode cX2_init 9 = .ok (.putfield 11, 3) := by decide +kernel
theorem dX2_init_12 : decode cX2_init 12 = .ok (.return_, 1) := by decide +kernel
theorem dX2_add_0 : decode cX2_add 0 = .ok (.aload_n 0, 1) := by decide +kernel
theorem dX2_add_1 : decode cX2_add 1 = .ok (.getfield 15, 3) := by decide +kernel
theorem dX2_add_4 : decode cX2_add 4 = .ok (.bipush 20, 2) := by decide +kernel
theorem dX2_add_6 : decode cX2_add 6 = .ok (.if_icmp .lt 6, 3) := by decide +kernel
theorem dX2_add_9 : decode cX2_add 9 = .ok (.bipush (-2), 2) := by decide +kernel
theorem dX2_add_11 : decode cX2_add 11 = .ok (.ireturn, 1) := by decide +kernel
theorem dX2_add_12 : decode cX2_add 12 = .ok (.aload_n 0, 1) := by decide +kernel
theorem dX2_add_13 : decode cX2_add 13 = .ok (.dup, 1) := by decide +kernel
theorem dX2_add_14 : decode cX2_add 14 = .ok (.getfield 15, 3) := by decide +kernel
theorem dX2_add_17 : decode cX2_add 17 = .ok (.iconst 1, 1) := by decide +kernel
theorem dX2_add_18 : decode cX2_add 18 = .ok (.iadd, 1) := by decide +kernel
theorem dX2_add_19 : decode cX2_add 19 = .ok (.putfield 15, 3) := by decide +kernel
theorem dX2_add_22 : decode cX2_add 22 = .ok (.aload_n 0, 1) := by decide +kernel
theorem dX2_add_23 : decode cX2_add 23 = .ok (.getfield 15, 3) := by decide +kernel
theorem dX2_add_26 : decode cX2_add 26 = .ok (.iconst 1, 1) := by decide +kernel
theorem dX2_add_27 : decode cX2_add 27 = .ok (.isub, 1) := by decide +kernel
theorem dX2_add_28 : decode cX2_add 28 = .ok (.ireturn, 1) := by decide +kernel
theorem dX2_has_0 : decode cX2_has 0 = .ok (.iload_n 1, 1) := by decide +kernel
theorem dX2_has_1 : decode cX2_has 1 = .ok (.ifCond .lt 15, 3) := by decide +kernel
theorem dX2_has_4 : decode cX2_has 4 = .ok (.iload_n 1, 1) := by decide +kernel
theorem dX2_has_5 : decode cX2_has 5 = .ok (.aload_n 0, 1) := by decide +kernel
theorem dX2_has_6 : decode cX2_has 6 = .ok (.getfield 15, 3) := by decide +kernel
theorem dX2_has_9 : decode cX2_has 9 = .ok (.if_icmp .ge 7, 3) := by decide +kernel
theorem dX2_has_12 : decode cX2_has 12 = .ok (.iconst 1, 1) := by decide +kernel
theorem dX2_has_13 : decode cX2_has 13 = .ok (.goto 4, 3) := by decide +kernel
theorem dX2_has_16 : decode cX2_has 16 = .ok (.iconst 0, 1) := by decide +kernel
theorem dX2_has_17 : decode cX2_has 17 = .ok (.ireturn, 1) := by decide +kernel
theorem dX2_all_0 : decode cX2_all 0 = .ok (.iconst 1, 1) := by decide +kernel
theorem dX2_all_1 : decode cX2_all 1 = .ok (.aload_n 0, 1) := by decide +kernel
theorem dX2_all_2 : decode cX2_all 2 = .ok (.getfield 15, 3) := by decide +kernel
theorem dX2_all_5 : decode cX2_all 5 = .ok (.ishl, 1) := by decide +kernel
theorem dX2_all_6 : decode cX2_all 6 = .ok (.iconst 1, 1) := by decide +kernel
theorem dX2_all_7 : decode cX2_all 7 = .ok (.isub, 1) := by decide +kernel
theorem dX2_all_8 : decode cX2_all 8 = .ok (.ireturn, 1) := by decide +kernel
set_option maxRecDepth 20000 in
theorem ggX2_link_X2_has : GoodIn wsX2_link wsX2_has := goodIn_r _ [6, 7, 15, 16] (by decide +kernel) (by decide +kernel)
set_option maxRecDepth 20000 in
theorem gX2_link_X2_has : GoodIn wsX2_link (wsV RX2 19 RX2 yX2_has wsX2_has) := goodIn_app (goodIn_of _ (by decide +kernel)) ggX2_link_X2_has
set_option maxRecDepth 20000 in
theorem ggX2_link_X5_isIn : GoodIn wsX2_link wsX5_isIn := goodIn_r _ [10] (by decide +kernel) (by decide +kernel)
set_option maxRecDepth 20000 in
theorem gX2_link_X5_isIn_n23 : GoodIn wsX2_link (wsX5_isIn) := ggX2_link_X5_isIn
set_option maxRecDepth 20000 in
theorem ggX2_link_X5_bit : GoodIn wsX2_link wsX5_bit := goodIn_r _ [12] (by decide +kernel) (by decide +kernel)
set_option maxRecDepth 20000 in
theorem gX2_link_X5_bit_n27 : GoodIn wsX2_link (wsX5_bit) := ggX2_link_X5_bit
set_option maxRecDepth 20000 in
theorem ggX2_link_X5_withBit : GoodIn wsX2_link wsX5_withBit := goodIn_r _ [14] (by decide +kernel) (by decide +kernel)
set_option maxRecDepth 20000 in
theorem gX2_link_X5_withBit_n31 : GoodIn wsX2_link (wsX5_withBit) := ggX2_link_X5_withBit
theorem dX2_link_0 : decode cX2_link 0 = .ok (.aload_n 0, 1) := by decide +kernel
theorem dX2_link_1 : decode cX2_link 1 = .ok (.iload_n 1, 1) := by decide +kernel
theorem dX2_link_2 : decode cX2_link 2 = .ok (.invokevirtual 19, 3) := by decide +kernel
theorem dX2_link_5 : decode cX2_link 5 = .ok (.ifCond .eq 16, 3) := by decide +kernel
theorem dX2_link_8 : decode cX2_link 8 = .ok (.aload_n 0, 1) := by decide +kernel
theorem dX2_link_9 : decode cX2_link 9 = .ok (.iload_n 2, 1) := by decide +kernel
theorem dX2_link_10 : decode cX2_link 10 = .ok (.invokevirtual 19, 3) := by decide +kernel
theorem dX2_link_13 : decode cX2_link 13 = .ok (.ifCond .eq 8, 3) := by decide +kernel
theorem dX2_link_16 : decode cX2_link 16 = .ok (.iload_n 2, 1) := by decide +kernel
theorem dX2_link_17 : decode cX2_link 17 = .ok (.iload_n 1, 1) := by decide +kernel
theorem dX2_link_18 : decode cX2_link 18 = .ok (.if_icmp .lt 5, 3) := by decide +kernel
theorem dX2_link_21 : decode cX2_link 21 = .ok (.iconst (-1), 1) := by decide +kernel
theorem dX2_link_22 : decode cX2_link 22 = .ok (.ireturn, 1) := by decide +kernel
theorem dX2_link_23 : decode cX2_link 23 = .ok (.aload_n 0, 1) := by decide +kernel
theorem dX2_link_24 : decode cX2_link 24 = .ok (.getfield 11, 3) := by decide +kernel
theorem dX2_link_27 : decode cX2_link 27 = .ok (.iload_n 1, 1) := by decide +kernel
theorem dX2_link_28 : decode cX2_link 28 = .ok (.iaload, 1) := by decide +kernel
theorem dX2_link_29 : decode cX2_link 29 = .ok (.iload_n 2, 1) := by decide +kernel
theorem dX2_link_30 : decode cX2_link 30 = .ok (.invokestatic 23, 3) := by decide +kernel
theorem dX2_link_33 : decode cX2_link 33 = .ok (.invokestatic 27, 3) := by decide +kernel
theorem dX2_link_36 : decode cX2_link 36 = .ok (.istore 4, 2) := by decide +kernel
theorem dX2_link_38 : decode cX2_link 38 = .ok (.aload_n 0, 1) := by decide +kernel
theorem dX2_link_39 : decode cX2_link 39 = .ok (.getfield 11, 3) := by decide +kernel
theorem dX2_link_42 : decode cX2_link 42 = .ok (.iload_n 1, 1) := by decide +kernel
theorem dX2_link_43 : decode cX2_link 43 = .ok (.aload_n 0, 1) := by decide +kernel
theorem dX2_link_44 : decode cX2_link 44 = .ok (.getfield 11, 3) := by decide +kernel
theorem dX2_link_47 : decode cX2_link 47 = .ok (.iload_n 1, 1) := by decide +kernel
theorem dX2_link_48 : decode cX2_link 48 = .ok (.iaload, 1) := by decide +kernel
theorem dX2_link_49 : decode cX2_link 49 = .ok (.iload_n 2, 1) := by decide +kernel
theorem dX2_link_50 : decode cX2_link 50 = .ok (.iload_n 3, 1) := by decide +kernel
theorem dX2_link_51 : decode cX2_link 51 = .ok (.invokestatic 31, 3) := by decide +kernel
theorem dX2_link_54 : decode cX2_link 54 = .ok (.iastore, 1) := by decide +kernel
theorem dX2_link_55 : decode cX2_link 55 = .ok (.iload 4, 2) := by decide +kernel
theorem dX2_link_57 : decode cX2_link 57 = .ok (.ireturn, 1) := by decide +kernel
theorem dX2_withUsers_0 : decode cX2_withUsers 0 = .ok (.iload_n 1, 1) := by decide +kernel
theorem dX2_withUsers_1 : decode cX2_withUsers 1 = .ok (.istore_n 2, 1) := by decide +kernel
theorem dX2_withUsers_2 : decode cX2_withUsers 2 = .ok (.iconst 0, 1) := by decide +kernel
theorem dX2_withUsers_3 : decode cX2_withUsers 3 = .ok (.istore_n 3, 1) := by decide +kernel
theorem dX2_withUsers_4 : decode cX2_withUsers 4 = .ok (.iload_n 3, 1) := by decide +kernel
theorem dX2_withUsers_5 : decode cX2_withUsers 5 = .ok (.aload_n 0, 1) := by decide +kernel
theorem dX2_withUsers_6 : decode cX2_withUsers 6 = .ok (.getfield 15, 3) := by decide +kernel
theorem dX2_withUsers_9 : decode cX2_withUsers 9 = .ok (.if_icmp .ge 26, 3) := by decide +kernel
theorem dX2_withUsers_12 : decode cX2_withUsers 12 = .ok (.aload_n 0, 1) := by decide +kernel
theorem dX2_withUsers_13 : decode cX2_withUsers 13 = .ok (.getfield 11, 3) := by decide +kernel
theorem dX2_withUsers_16 : decode cX2_withUsers 16 = .ok (.iload_n 3, 1) := by decide +kernel
theorem dX2_withUsers_17 : decode cX2_withUsers 17 = .ok (.iaload, 1) := by decide +kernel
theorem dX2_withUsers_18 : decode cX2_withUsers 18 = .ok (.iload_n 2, 1) := by decide +kernel
theorem dX2_withUsers_19 : decode cX2_withUsers 19 = .ok (.iand, 1) := by decide +kernel
theorem dX2_withUsers_20 : decode cX2_withUsers 20 = .ok (.ifCond .eq 9, 3) := by decide +kernel
theorem dX2_withUsers_23 : decode cX2_withUsers 23 = .ok (.iload_n 2, 1) := by decide +kernel
theorem dX2_withUsers_24 : decode cX2_withUsers 24 = .ok (.iconst 1, 1) := by decide +kernel
theorem dX2_withUsers_25 : decode cX2_withUsers 25 = .ok (.iload_n 3, 1) := by decide +kernel
theorem dX2_withUsers_26 : decode cX2_withUsers 26 = .ok (.ishl, 1) := by decide +kernel
theorem dX2_withUsers_27 : decode cX2_withUsers 27 = .ok (.ior, 1) := by decide +kernel
theorem dX2_withUsers_28 : decode cX2_withUsers 28 = .ok (.istore_n 2, 1) := by decide +kernel
theorem dX2_withUsers_29 : decode cX2_withUsers 29 = .ok (.iinc 3 1, 3) := by decide +kernel
theorem dX2_withUsers_32 : decode cX2_withUsers 32 = .ok (.goto (-28), 3) := by decide +kernel
theorem dX2_withUsers_35 : decode cX2_withUsers 35 = .ok (.iload_n 2, 1) := by decide +kernel
theorem dX2_withUsers_36 : decode cX2_withUsers 36 = .ok (.ireturn, 1) := by decide +kernel
set_option maxRecDepth 20000 in
theorem ggX2_withUsed_X5_isIn : GoodIn wsX2_withUsed wsX5_isIn := goodIn_r _ [5] (by decide +kernel) (by decide +kernel)
set_option maxRecDepth 20000 in
theorem gX2_withUsed_X5_isIn_n23 : GoodIn wsX2_withUsed (wsX5_isIn) := ggX2_withUsed_X5_isIn
theorem dX2_withUsed_0 : decode cX2_withUsed 0 = .ok (.iload_n 1, 1) := by decide +kernel
theorem dX2_withUsed_1 : decode cX2_withUsed 1 = .ok (.istore_n 2, 1) := by decide +kernel
theorem dX2_withUsed_2 : decode cX2_withUsed 2 = .ok (.aload_n 0, 1) := by decide +kernel
theorem dX2_withUsed_3 : decode cX2_withUsed 3 = .ok (.getfield 15, 3) := by decide +kernel
theorem dX2_withUsed_6 : decode cX2_withUsed 6 = .ok (.iconst 1, 1) := by decide +kernel
theorem dX2_withUsed_7 : decode cX2_withUsed 7 = .ok (.isub, 1) := by decide +kernel
theorem dX2_withUsed_8 : decode cX2_withUsed 8 = .ok (.istore_n 3, 1) := by decide +kernel
theorem dX2_withUsed_9 : decode cX2_withUsed 9 = .ok (.iload_n 3, 1) := by decide +kernel
theorem dX2_withUsed_10 : decode cX2_withUsed 10 = .ok (.ifCond .lt 26, 3) := by decide +kernel
theorem dX2_withUsed_13 : decode cX2_withUsed 13 = .ok (.iload_n 2, 1) := by decide +kernel
theorem dX2_withUsed_14 : decode cX2_withUsed 14 = .ok (.iload_n 3, 1) := by decide +kernel
theorem dX2_withUsed_15 : decode cX2_withUsed 15 = .ok (.invokestatic 23, 3) := by decide +kernel
theorem dX2_withUsed_18 : decode cX2_withUsed 18 = .ok (.ifCond .eq 12, 3) := by decide +kernel
theorem dX2_withUsed_21 : decode cX2_withUsed 21 = .ok (.iload_n 2, 1) := by decide +kernel
theorem dX2_withUsed_22 : decode cX2_withUsed 22 = .ok (.aload_n 0, 1) := by decide +kernel
theorem dX2_withUsed_23 : decode cX2_withUsed 23 = .ok (.getfield 11, 3) := by decide +kernel
theorem dX2_withUsed_26 : decode cX2_withUsed 26 = .ok (.iload_n 3, 1) := by decide +kernel
theorem dX2_withUsed_27 : decode cX2_withUsed 27 = .ok (.iaload, 1) := by decide +kernel
theorem dX2_withUsed_28 : decode cX2_withUsed 28 = .ok (.ior, 1) := by decide +kernel
theorem dX2_withUsed_29 : decode cX2_withUsed 29 = .ok (.istore_n 2, 1) := by decide +kernel
theorem dX2_withUsed_30 : decode cX2_withUsed 30 = .ok (.iinc 3 (-1), 3) := by decide +kernel
theorem dX2_withUsed_33 : decode cX2_withUsed 33 = .ok (.goto (-24), 3) := by decide +kernel
theorem dX2_withUsed_36 : decode cX2_withUsed 36 = .ok (.iload_n 2, 1) := by decide +kernel
theorem dX2_withUsed_37 : decode cX2_withUsed 37 = .ok (.ireturn, 1) := by decide +kernel
theorem dX3_init_0 : decode cX3_init 0 = .ok (.aload_n 0, 1) := by decide +kernel
theorem dX3_init_1 : decode cX3_init 1 = .ok (.invokespecial 1, 3) := by decide +kernel
theorem dX3_init_4 : decode cX3_init 4 = .ok (.aload_n 0, 1) := by decide +kernel
theorem dX3_init_5 : decode cX3_init 5 = .ok (.bipush 80, 2) := by decide +kernel
theorem dX3_init_7 : decode cX3_init 7 = .ok (.newarray .int, 2) := by decide +kernel
theorem dX3_init_9 : decode cX3_init 9 = .ok (.putfield 9, 3) := by decide +kernel
theorem dX3_init_12 : decode cX3_init 12 = .ok (.return_, 1) := by decide +kernel
theorem dX3_take_0 : decode cX3_take 0 = .ok (.aload_n 0, 1) := by decide +kernel
theorem dX3_take_1 : decode cX3_take 1 = .ok (.getfield 13, 3) := by decide +kernel
theorem dX3_take_4 : decode cX3_take 4 = .ok (.iload_n 1, 1) := by decide +kernel
theorem dX3_take_5 : decode cX3_take 5 = .ok (.iadd, 1) := by decide +kernel
theorem dX3_take_6 : decode cX3_take 6 = .ok (.bipush 80, 2) := by decide +kernel
theorem dX3_take_8 : decode cX3_take 8 = .ok (.if_icmp .le 5, 3) := by decide +kernel
theorem dX3_take_11 : decode cX3_take 11 = .ok (.iconst 0, 1) := by decide +kernel
theorem dX3_take_12 : decode cX3_take 12 = .ok (.ireturn, 1) := by decide +kernel
theorem dX3_take_13 : decode cX3_take 13 = .ok (.iconst 0, 1) := by decide +kernel
theorem dX3_take_14 : decode cX3_take 14 = .ok (.istore_n 3, 1) := by decide +kernel
theorem dX3_take_15 : decode cX3_take 15 = .ok (.iload_n 3, 1) := by decide +kernel
theorem dX3_take_16 : decode cX3_take 16 = .ok (.iload_n 1, 1) := by decide +kernel
theorem dX3_take_17 : decode cX3_take 17 = .ok (.if_icmp .ge 38, 3) := by decide +kernel
theorem dX3_take_20 : decode cX3_take 20 = .ok (.aload_n 0, 1) := by decide +kernel
theorem dX3_take_21 : decode cX3_take 21 = .ok (.getfield 9, 3) := by decide +kernel
theorem dX3_take_24 : decode cX3_take 24 = .ok (.aload_n 0, 1) := by decide +kernel
theorem dX3_take_25 : decode cX3_take 25 = .ok (.getfield 13, 3) := by decide +kernel
theorem dX3_take_28 : decode cX3_take 28 = .ok (.iload_n 2, 1) := by decide +kernel
theorem dX3_take_29 : decode cX3_take 29 = .ok (.bipush 8, 2) := by decide +kernel
theorem dX3_take_31 : decode cX3_take 31 = .ok (.iload_n 3, 1) := by decide +kernel
theorem dX3_take_32 : decode cX3_take 32 = .ok (.imul, 1) := by decide +kernel
theorem dX3_take_33 : decode cX3_take 33 = .ok (.iushr, 1) := by decide +kernel
theorem dX3_take_34 : decode cX3_take 34 = .ok (.sipush 255, 3) := by decide +kernel
theorem dX3_take_37 : decode cX3_take 37 = .ok (.iand, 1) := by decide +kernel
theorem dX3_take_38 : decode cX3_take 38 = .ok (.iastore, 1) := by decide +kernel
theorem dX3_take_39 : decode cX3_take 39 = .ok (.aload_n 0, 1) := by decide +kernel
theorem dX3_take_40 : decode cX3_take 40 = .ok (.dup, 1) := by decide +kernel
theorem dX3_take_41 : decode cX3_take 41 = .ok (.getfield 13, 3) := by decide +kernel
theorem dX3_take_44 : decode cX3_take 44 = .ok (.iconst 1, 1) := by decide +kernel
theorem dX3_take_45 : decode cX3_take 45 = .ok (.iadd, 1) := by decide +kernel
theorem dX3_take_46 : decode cX3_take 46 = .ok (.putfield 13, 3) := by decide +kernel
theorem dX3_take_49 : decode cX3_take 49 = .ok (.iinc 3 1, 3) := by decide +kernel
theorem dX3_take_52 : decode cX3_take 52 = .ok (.goto (-37), 3) := by decide +kernel
theorem dX3_take_55 : decode cX3_take 55 = .ok (.iconst 1, 1) := by decide +kernel
theorem dX3_take_56 : decode cX3_take 56 = .ok (.ireturn, 1) := by decide +kernel
set_option maxRecDepth 20000 in
theorem ggX3_parse_X3_look : GoodIn wsX3_parse wsX3_look := goodIn_r _ [11, 2, 1, 12, 13, 57, 58, 59, 60, 61, 62, 63, 64] (by decide +kernel) (by decide +kernel)
set_option maxRecDepth 20000 in
theorem gX3_parse_X3_look : GoodIn wsX3_parse (wsV RX3 30 RX3 yX3_look wsX3_look) := goodIn_app (goodIn_of _ (by decide +kernel)) ggX3_parse_X3_look
set_option maxRecDepth 20000 in
theorem ggX3_parse_X3_either : GoodIn wsX3_parse wsX3_either := goodIn_r _ [17, 1, 18, 19, 20, 10, 7, 8, 9, 11, 2, 12, 13, 21, 22, 23, 24, 25, 14, 15, 16, 26, 27, 28, 29, 30, 31, 32, 33, 34, 35, 36, 37, 38, 39, 40, 41, 42, 43, 44, 45, 46, 47, 48, 57, 58, 59, 60, 61, 62, 63, 64] (by decide +kernel) (by decide +kernel)
set_option maxRecDepth 20000 in
theorem gX3_parse_X3_either : GoodIn wsX3_parse (wsV RX3 39 RX3 yX3_either wsX3_either) := goodIn_app (goodIn_of _ (by decide +kernel)) ggX3_parse_X3_either
set_option maxRecDepth 20000 in
theorem ggX3_parse_X3_readSort : GoodIn wsX3_parse wsX3_readSort := goodIn_r _ [52, 1, 7, 8, 9, 10, 11, 2, 12, 13, 26, 27, 28, 29, 57, 58, 59, 60, 61, 62, 63, 64] (by decide +kernel) (by decide +kernel)
set_option maxRecDepth 20000 in
theorem gX3_parse_X3_readSort : GoodIn wsX3_parse (wsV RX3 46 RX3 yX3_readSort wsX3_readSort) := goodIn_app (goodIn_of _ (by decide +kernel)) ggX3_parse_X3_readSort
set_option maxRecDepth 20000 in
theorem ggX3_parse_X3_readDigit : GoodIn wsX3_parse wsX3_readDigit := goodIn_r _ [56, 1, 7, 8, 9, 10, 11, 2, 12, 13, 26, 27, 28, 29, 57, 58, 59, 60, 61, 62, 63, 64] (by decide +kernel) (by decide +kernel)
set_option maxRecDepth 20000 in
theorem gX3_parse_X3_readDigit : GoodIn wsX3_parse (wsV RX3 49 RX3 yX3_readDigit wsX3_readDigit) := goodIn_app (goodIn_of _ (by decide +kernel)) ggX3_parse_X3_readDigit
set_option maxRecDepth 20000 in
theorem ggX3_parse_X3_miss : GoodIn wsX3_parse wsX3_miss := goodIn_r _ [29, 2, 1, 57, 58, 59, 60, 61, 62, 63, 64] (by decide +kernel) (by decide +kernel)
set_option maxRecDepth 20000 in
theorem gX3_parse_X3_miss : GoodIn wsX3_parse (wsV RX3 52 RX3 yX3_miss wsX3_miss) := goodIn_app (goodIn_of _ (by decide +kernel)) ggX3_parse_X3_miss
theorem dX3_parse_0 : decode cX3_parse 0 = .ok (.aload_n 0, 1) := by decide +kernel
theorem dX3_parse_1 : decode cX3_parse 1 = .ok (.iconst 0, 1) := by decide +kernel
theorem dX3_parse_2 : decode cX3_parse 2 = .ok (.putfield 17, 3) := by decide +kernel
theorem dX3_parse_5 : decode cX3_parse 5 = .ok (.aload_n 0, 1) := by decide +kernel
theorem dX3_parse_6 : decode cX3_parse 6 = .ok (.iconst (-1), 1) := by decide +kernel
theorem dX3_parse_7 : decode cX3_parse 7 = .ok (.putfield 20, 3) := by decide +kernel
theorem dX3_parse_10 : decode cX3_parse 10 = .ok (.aload_n 0, 1) := by decide +kernel
theorem dX3_parse_11 : decode cX3_parse 11 = .ok (.iconst 0, 1) := by decide +kernel
theorem dX3_parse_12 : decode cX3_parse 12 = .ok (.putfield 23, 3) := by decide +kernel
theorem dX3_parse_15 : decode cX3_parse 15 = .ok (.aload_n 0, 1) := by decide +kernel
theorem dX3_parse_16 : decode cX3_parse 16 = .ok (.lconst 0, 1) := by decide +kernel
theorem dX3_parse_17 : decode cX3_parse 17 = .ok (.putfield 26, 3) := by decide +kernel
theorem dX3_parse_20 : decode cX3_parse 20 = .ok (.aload_n 0, 1) := by decide +kernel
theorem dX3_parse_21 : decode cX3_parse 21 = .ok (.invokevirtual 30, 3) := by decide +kernel
theorem dX3_parse_24 : decode cX3_parse 24 = .ok (.bipush 33, 2) := by decide +kernel
theorem dX3_parse_26 : decode cX3_parse 26 = .ok (.if_icmp .ne 30, 3) := by decide +kernel
theorem dX3_parse_29 : decode cX3_parse 29 = .ok (.aload_n 0, 1) := by decide +kernel
theorem dX3_parse_30 : decode cX3_parse 30 = .ok (.dup, 1) := by decide +kernel
theorem dX3_parse_31 : decode cX3_parse 31 = .ok (.getfield 17, 3) := by decide +kernel
theorem dX3_parse_34 : decode cX3_parse 34 = .ok (.iconst 1, 1) := by decide +kernel
theorem dX3_parse_35 : decode cX3_parse 35 = .ok (.iadd, 1) := by decide +kernel
theorem dX3_parse_36 : decode cX3_parse 36 = .ok (.putfield 17, 3) := by decide +kernel
theorem dX3_parse_39 : decode cX3_parse 39 = .ok (.aload_n 0, 1) := by decide +kernel
theorem dX3_parse_40 : decode cX3_parse 40 = .ok (.iconst 0, 1) := by decide +kernel
theorem dX3_parse_41 : decode cX3_parse 41 = .ok (.putfield 36, 3) := by decide +kernel
theorem dX3_parse_44 : decode cX3_parse 44 = .ok (.aload_n 0, 1) := by decide +kernel
theorem dX3_parse_45 : decode cX3_parse 45 = .ok (.aload_n 0, 1) := by decide +kernel
theorem dX3_parse_46 : decode cX3_parse 46 = .ok (.iconst 0, 1) := by decide +kernel
theorem dX3_parse_47 : decode cX3_parse 47 = .ok (.invokevirtual 39, 3) := by decide +kernel
theorem dX3_parse_50 : decode cX3_parse 50 = .ok (.putfield 43, 3) := by decide +kernel
theorem dX3_parse_53 : decode cX3_parse 53 = .ok (.goto 37, 3) := by decide +kernel
theorem dX3_parse_56 : decode cX3_parse 56 = .ok (.aload_n 0, 1) := by decide +kernel
theorem dX3_parse_57 : decode cX3_parse 57 = .ok (.aload_n 0, 1) := by decide +kernel
theorem dX3_parse_58 : decode cX3_parse 58 = .ok (.iconst 0, 1) := by decide +kernel
theorem dX3_parse_59 : decode cX3_parse 59 = .ok (.invokevirtual 39, 3) := by decide +kernel
theorem dX3_parse_62 : decode cX3_parse 62 = .ok (.putfield 43, 3) := by decide +kernel
theorem dX3_parse_65 : decode cX3_parse 65 = .ok (.aload_n 0, 1) := by decide +kernel
theorem dX3_parse_66 : decode cX3_parse 66 = .ok (.aload_n 0, 1) := by decide +kernel
theorem dX3_parse_67 : decode cX3_parse 67 = .ok (.invokevirtual 46, 3) := by decide +kernel
theorem dX3_parse_70 : decode cX3_parse 70 = .ok (.putfield 36, 3) := by decide +kernel
theorem dX3_parse_73 : decode cX3_parse 73 = .ok (.aload_n 0, 1) := by decide +kernel
theorem dX3_parse_74 : decode cX3_parse 74 = .ok (.aload_n 0, 1) := by decide +kernel
theorem dX3_parse_75 : decode cX3_parse 75 = .ok (.iconst 0, 1) := by decide +kernel
theorem dX3_parse_76 : decode cX3_parse 76 = .ok (.invokevirtual 39, 3) := by decide +kernel
theorem dX3_parse_79 : decode cX3_parse 79 = .ok (.putfield 26, 3) := by decide +kernel
theorem dX3_parse_82 : decode cX3_parse 82 = .ok (.aload_n 0, 1) := by decide +kernel
theorem dX3_parse_83 : decode cX3_parse 83 = .ok (.aload_n 0, 1) := by decide +kernel
theorem dX3_parse_84 : decode cX3_parse 84 = .ok (.invokevirtual 49, 3) := by decide +kernel
theorem dX3_parse_87 : decode cX3_parse 87 = .ok (.putfield 23, 3) := by decide +kernel
theorem dX3_parse_90 : decode cX3_parse 90 = .ok (.aload_n 0, 1) := by decide +kernel
theorem dX3_parse_91 : decode cX3_parse 91 = .ok (.invokevirtual 30, 3) := by decide +kernel
theorem dX3_parse_94 : decode cX3_parse 94 = .ok (.iconst (-1), 1) := by decide +kernel
theorem dX3_parse_95 : decode cX3_parse 95 = .ok (.if_icmp .eq 8, 3) := by decide +kernel
theorem dX3_parse_98 : decode cX3_parse 98 = .ok (.aload_n 0, 1) := by decide +kernel
theorem dX3_parse_99 : decode cX3_parse 99 = .ok (.invokevirtual 52, 3) := by decide +kernel
theorem dX3_parse_102 : decode cX3_parse 102 = .ok (.pop2, 1) := by decide +kernel
theorem dX3_parse_103 : decode cX3_parse 103 = .ok (.aload_n 0, 1) := by decide +kernel
theorem dX3_parse_104 : decode cX3_parse 104 = .ok (.getfield 20, 3) := by decide +kernel
theorem dX3_parse_107 : decode cX3_parse 107 = .ok (.ireturn, 1) := by decide +kernel
theorem dX3_look_0 : decode cX3_look 0 = .ok (.aload_n 0, 1) := by decide +kernel
theorem dX3_look_1 : decode cX3_look 1 = .ok (.getfield 20, 3) := by decide +kernel
theorem dX3_look_4 : decode cX3_look 4 = .ok (.iconst (-1), 1) := by decide +kernel
theorem dX3_look_5 : decode cX3_look 5 = .ok (.if_icmp .ne 35, 3) := by decide +kernel
theorem dX3_look_8 : decode cX3_look 8 = .ok (.aload_n 0, 1) := by decide +kernel
theorem dX3_look_9 : decode cX3_look 9 = .ok (.getfield 17, 3) := by decide +kernel
theorem dX3_look_12 : decode cX3_look 12 = .ok (.aload_n 0, 1) := by decide +kernel
theorem dX3_look_13 : decode cX3_look 13 = .ok (.getfield 13, 3) := by decide +kernel
theorem dX3_look_16 : decode cX3_look 16 = .ok (.if_icmp .ge 24, 3) := by decide +kernel
theorem dX3_look_19 : decode cX3_look 19 = .ok (.aload_n 0, 1) := by decide +kernel
theorem dX3_look_20 : decode cX3_look 20 = .ok (.getfield 17, 3) := by decide +kernel
theorem dX3_look_23 : decode cX3_look 23 = .ok (.bipush 80, 2) := by decide +kernel
theorem dX3_look_25 : decode cX3_look 25 = .ok (.if_icmp .ge 15, 3) := by decide +kernel
theorem dX3_look_28 : decode cX3_look 28 = .ok (.aload_n 0, 1) := by decide +kernel
theorem dX3_look_29 : decode cX3_look 29 = .ok (.getfield 9, 3) := by decide +kernel
theorem dX3_look_32 : decode cX3_look 32 = .ok (.aload_n 0, 1) := by decide +kernel
theorem dX3_look_33 : decode cX3_look 33 = .ok (.getfield 17, 3) := by decide +kernel
theorem dX3_look_36 : decode cX3_look 36 = .ok (.iaload, 1) := by decide +kernel
theorem dX3_look_37 : decode cX3_look 37 = .ok (.goto 4, 3) := by decide +kernel
theorem dX3_look_40 : decode cX3_look 40 = .ok (.iconst (-1), 1) := by decide +kernel
theorem dX3_look_41 : decode cX3_look 41 = .ok (.ireturn, 1) := by decide +kernel
theorem dX3_miss_0 : decode cX3_miss 0 = .ok (.aload_n 0, 1) := by decide +kernel
theorem dX3_miss_1 : decode cX3_miss 1 = .ok (.getfield 20, 3) := by decide +kernel
theorem dX3_miss_4 : decode cX3_miss 4 = .ok (.iconst (-1), 1) := by decide +kernel
theorem dX3_miss_5 : decode cX3_miss 5 = .ok (.if_icmp .ne 11, 3) := by decide +kernel
theorem dX3_miss_8 : decode cX3_miss 8 = .ok (.aload_n 0, 1) := by decide +kernel
theorem dX3_miss_9 : decode cX3_miss 9 = .ok (.aload_n 0, 1) := by decide +kernel
theorem dX3_miss_10 : decode cX3_miss 10 = .ok (.getfield 17, 3) := by decide +kernel
theorem dX3_miss_13 : decode cX3_miss 13 = .ok (.putfield 20, 3) := by decide +kernel
theorem dX3_miss_16 : decode cX3_miss 16 = .ok (.lconst 0, 1) := by decide +kernel
theorem dX3_miss_17 : decode cX3_miss 17 = .ok (.lreturn, 1) := by decide +kernel
set_option maxRecDepth 20000 in
theorem ggX3_readSort_X3_look : GoodIn wsX3_readSort wsX3_look := goodIn_r _ [6, 7, 1, 8, 9, 14, 15, 16, 17, 18, 19, 20, 21] (by decide +kernel) (by decide +kernel)
set_option maxRecDepth 20000 in
theorem gX3_readSort_X3_look : GoodIn wsX3_readSort (wsV RX3 30 RX3 yX3_look wsX3_look) := goodIn_app (goodIn_of _ (by decide +kernel)) ggX3_readSort_X3_look
set_option maxRecDepth 20000 in
theorem ggX3_readSort_X3_miss : GoodIn wsX3_readSort wsX3_miss := goodIn_r _ [13, 7, 1, 14, 15, 16, 17, 18, 19, 20, 21] (by decide +kernel) (by decide +kernel)
set_option maxRecDepth 20000 in
theorem gX3_readSort_X3_miss : GoodIn wsX3_readSort (wsV RX3 52 RX3 yX3_miss wsX3_miss) := goodIn_app (goodIn_of _ (by decide +kernel)) ggX3_readSort_X3_miss
theorem dX3_readSort_0 : decode cX3_readSort 0 = .ok (.aload_n 0, 1) := by decide +kernel
theorem dX3_readSort_1 : decode cX3_readSort 1 = .ok (.invokevirtual 30, 3) := by decide +kernel
theorem dX3_readSort_4 : decode cX3_readSort 4 = .ok (.istore_n 1, 1) := by decide +kernel
theorem dX3_readSort_5 : decode cX3_readSort 5 = .ok (.iload_n 1, 1) := by decide +kernel
theorem dX3_readSort_6 : decode cX3_readSort 6 = .ok (.bipush 62, 2) := by decide +kernel
theorem dX3_readSort_8 : decode cX3_readSort 8 = .ok (.if_icmp .eq 16, 3) := by decide +kernel
theorem dX3_readSort_11 : decode cX3_readSort 11 = .ok (.iload_n 1, 1) := by decide +kernel
theorem dX3_readSort_12 : decode cX3_readSort 12 = .ok (.bipush 59, 2) := by decide +kernel
theorem dX3_readSort_14 : decode cX3_readSort 14 = .ok (.if_icmp .eq 10, 3) := by decide +kernel
theorem dX3_readSort_17 : decode cX3_readSort 17 = .ok (.aload_n 0, 1) := by decide +kernel
theorem dX3_readSort_18 : decode cX3_readSort 18 = .ok (.invokevirtual 52, 3) := by decide +kernel
theorem dX3_readSort_21 : decode cX3_readSort 21 = .ok (.pop2, 1) := by decide +kernel
theorem dX3_readSort_22 : decode cX3_readSort 22 = .ok (.iconst 0, 1) := by decide +kernel
theorem dX3_readSort_23 : decode cX3_readSort 23 = .ok (.ireturn, 1) := by decide +kernel
theorem dX3_readSort_24 : decode cX3_readSort 24 = .ok (.aload_n 0, 1) := by decide +kernel
theorem dX3_readSort_25 : decode cX3_readSort 25 = .ok (.dup, 1) := by decide +kernel
theorem dX3_readSort_26 : decode cX3_readSort 26 = .ok (.getfield 17, 3) := by decide +kernel
theorem dX3_readSort_29 : decode cX3_readSort 29 = .ok (.iconst 1, 1) := by decide +kernel
theorem dX3_readSort_30 : decode cX3_readSort 30 = .ok (.iadd, 1) := by decide +kernel
theorem dX3_readSort_31 : decode cX3_readSort 31 = .ok (.putfield 17, 3) := by decide +kernel
theorem dX3_readSort_34 : decode cX3_readSort 34 = .ok (.iload_n 1, 1) := by decide +kernel
theorem dX3_readSort_35 : decode cX3_readSort 35 = .ok (.bipush 62, 2) := by decide +kernel
theorem dX3_readSort_37 : decode cX3_readSort 37 = .ok (.if_icmp .ne 7, 3) := by decide +kernel
theorem dX3_readSort_40 : decode cX3_readSort 40 = .ok (.iconst 1, 1) := by decide +kernel
theorem dX3_readSort_41 : decode cX3_readSort 41 = .ok (.goto 4, 3) := by decide +kernel
theorem dX3_readSort_44 : decode cX3_readSort 44 = .ok (.iconst 2, 1) := by decide +kernel
theorem dX3_readSort_45 : decode cX3_readSort 45 = .ok (.ireturn, 1) := by decide +kernel
set_option maxRecDepth 20000 in
theorem ggX3_readDigit_X3_look : GoodIn wsX3_readDigit wsX3_look := goodIn_r _ [6, 7, 1, 8, 9, 14, 15, 16, 17, 18, 19, 20, 21] (by decide +kernel) (by decide +kernel)
set_option maxRecDepth 20000 in
theorem gX3_readDigit_X3_look : GoodIn wsX3_readDigit (wsV RX3 30 RX3 yX3_look wsX3_look) := goodIn_app (goodIn_of _ (by decide +kernel)) ggX3_readDigit_X3_look
set_option maxRecDepth 20000 in
theorem ggX3_readDigit_X3_miss : GoodIn wsX3_readDigit wsX3_miss := goodIn_r _ [13, 7, 1, 14, 15, 16, 17, 18, 19, 20, 21] (by decide +kernel) (by decide +kernel)
set_option maxRecDepth 20000 in
theorem gX3_readDigit_X3_miss : GoodIn wsX3_readDigit (wsV RX3 52 RX3 yX3_miss wsX3_miss) := goodIn_app (goodIn_of _ (by decide +kernel)) ggX3_readDigit_X3_miss
theorem dX3_readDigit_0 : decode cX3_readDigit 0 = .ok (.aload_n 0, 1) := by decide +kernel
theorem dX3_readDigit_1 : decode cX3_readDigit 1 = .ok (.invokevirtual 30, 3) := by decide +kernel
theorem dX3_readDigit_4 : decode cX3_readDigit 4 = .ok (.istore_n 1, 1) := by decide +kernel
theorem dX3_readDigit_5 : decode cX3_readDigit 5 = .ok (.iload_n 1, 1) := by decide +kernel
theorem dX3_readDigit_6 : decode cX3_readDigit 6 = .ok (.bipush 48, 2) := by decide +kernel
theorem dX3_readDigit_8 : decode cX3_readDigit 8 = .ok (.if_icmp .lt 9, 3) := by decide +kernel
theorem dX3_readDigit_11 : decode cX3_readDigit 11 = .ok (.iload_n 1, 1) := by decide +kernel
theorem dX3_readDigit_12 : decode cX3_readDigit 12 = .ok (.bipush 51, 2) := by decide +kernel
theorem dX3_readDigit_14 : decode cX3_readDigit 14 = .ok (.if_icmp .le 10, 3) := by decide +kernel
theorem dX3_readDigit_17 : decode cX3_readDigit 17 = .ok (.aload_n 0, 1) := by decide +kernel
theorem dX3_readDigit_18 : decode cX3_readDigit 18 = .ok (.invokevirtual 52, 3) := by decide +kernel
theorem dX3_readDigit_21 : decode cX3_readDigit 21 = .ok (.pop2, 1) := by decide +kernel
theorem dX3_readDigit_22 : decode cX3_readDigit 22 = .ok (.iconst 0, 1) := by decide +kernel
theorem dX3_readDigit_23 : decode cX3_readDigit 23 = .ok (.ireturn, 1) := by decide +kernel
theorem dX3_readDigit_24 : decode cX3_readDigit 24 = .ok (.aload_n 0, 1) := by decide +kernel
theorem dX3_readDigit_25 : decode cX3_readDigit 25 = .ok (.dup, 1) := by decide +kernel
theorem dX3_readDigit_26 : decode cX3_readDigit 26 = .ok (.getfield 17, 3) := by decide +kernel
theorem dX3_readDigit_29 : decode cX3_readDigit 29 = .ok (.iconst 1, 1) := by decide +kernel
theorem dX3_readDigit_30 : decode cX3_readDigit 30 = .ok (.iadd, 1) := by decide +kernel
theorem dX3_readDigit_31 : decode cX3_readDigit 31 = .ok (.putfield 17, 3) := by decide +kernel
theorem dX3_readDigit_34 : decode cX3_readDigit 34 = .ok (.iload_n 1, 1) := by decide +kernel
theorem dX3_readDigit_35 : decode cX3_readDigit 35 = .ok (.bipush 48, 2) := by decide +kernel
theorem dX3_readDigit_37 : decode cX3_readDigit 37 = .ok (.isub, 1) := by decide +kernel
theorem dX3_readDigit_38 : decode cX3_readDigit 38 = .ok (.ireturn, 1) := by decide +kernel
set_option maxRecDepth 20000 in
theorem ggX3_either_X3_both : GoodIn wsX3_either wsX3_both := goodIn_r _ [13, 1, 14, 15, 16, 5, 6, 7, 8, 9, 10, 11, 12, 17, 18, 19, 20, 21, 22, 23, 24, 25, 26, 0, 2, 3, 4, 27, 28, 29, 30, 31, 32, 33, 34, 35, 36, 37, 38, 39, 40, 41, 42, 43, 44, 45, 46, 47, 48, 49, 50, 51] (by decide +kernel) (by decide +kernel)
set_option maxRecDepth 20000 in
theorem gX3_either_X3_both : GoodIn wsX3_either (wsV RX3 56 RX3 yX3_both wsX3_both) := goodIn_app (goodIn_of _ (by decide +kernel)) ggX3_either_X3_both
set_option maxRecDepth 20000 in
theorem ggX3_either_X3_look : GoodIn wsX3_either wsX3_look := goodIn_r _ [9, 10, 1, 11, 12, 44, 45, 46, 47, 48, 49, 50, 51] (by decide +kernel) (by decide +kernel)
set_option maxRecDepth 20000 in
theorem gX3_either_X3_look : GoodIn wsX3_either (wsV RX3 30 RX3 yX3_look wsX3_look) := goodIn_app (goodIn_of _ (by decide +kernel)) ggX3_either_X3_look
theorem dX3_either_0 : decode cX3_either 0 = .ok (.aload_n 0, 1) := by decide +kernel
theorem dX3_either_1 : decode cX3_either 1 = .ok (.iload_n 1, 1) := by decide +kernel
theorem dX3_either_2 : decode cX3_either 2 = .ok (.invokevirtual 56, 3) := by decide +kernel
theorem dX3_either_5 : decode cX3_either 5 = .ok (.lstore_n 2, 1) := by decide +kernel
theorem dX3_either_6 : decode cX3_either 6 = .ok (.iconst 0, 1) := by decide +kernel
theorem dX3_either_7 : decode cX3_either 7 = .ok (.istore 4, 2) := by decide +kernel
theorem dX3_either_9 : decode cX3_either 9 = .ok (.iload 4, 2) := by decide +kernel
theorem dX3_either_11 : decode cX3_either 11 = .ok (.bipush 80, 2) := by decide +kernel
theorem dX3_either_13 : decode cX3_either 13 = .ok (.if_icmp .ge 36, 3) := by decide +kernel
theorem dX3_either_16 : decode cX3_either 16 = .ok (.aload_n 0, 1) := by decide +kernel
theorem dX3_either_17 : decode cX3_either 17 = .ok (.invokevirtual 30, 3) := by decide +kernel
theorem dX3_either_20 : decode cX3_either 20 = .ok (.bipush 124, 2) := by decide +kernel
theorem dX3_either_22 : decode cX3_either 22 = .ok (.if_icmp .ne 27, 3) := by decide +kernel
theorem dX3_either_25 : decode cX3_either 25 = .ok (.aload_n 0, 1) := by decide +kernel
theorem dX3_either_26 : decode cX3_either 26 = .ok (.dup, 1) := by decide +kernel
theorem dX3_either_27 : decode cX3_either 27 = .ok (.getfield 17, 3) := by decide +kernel
theorem dX3_either_30 : decode cX3_either 30 = .ok (.iconst 1, 1) := by decide +kernel
theorem dX3_either_31 : decode cX3_either 31 = .ok (.iadd, 1) := by decide +kernel
theorem dX3_either_32 : decode cX3_either 32 = .ok (.putfield 17, 3) := by decide +kernel
theorem dX3_either_35 : decode cX3_either 35 = .ok (.lload_n 2, 1) := by decide +kernel
theorem dX3_either_36 : decode cX3_either 36 = .ok (.aload_n 0, 1) := by decide +kernel
theorem dX3_either_37 : decode cX3_either 37 = .ok (.iload_n 1, 1) := by decide +kernel
theorem dX3_either_38 : decode cX3_either 38 = .ok (.invokevirtual 56, 3) := by decide +kernel
theorem dX3_either_41 : decode cX3_either 41 = .ok (.lor, 1) := by decide +kernel
theorem dX3_either_42 : decode cX3_either 42 = .ok (.lstore_n 2, 1) := by decide +kernel
theorem dX3_either_43 : decode cX3_either 43 = .ok (.iinc 4 1, 3) := by decide +kernel
theorem dX3_either_46 : decode cX3_either 46 = .ok (.goto (-37), 3) := by decide +kernel
theorem dX3_either_49 : decode cX3_either 49 = .ok (.lload_n 2, 1) := by decide +kernel
theorem dX3_either_50 : decode cX3_either 50 = .ok (.lreturn, 1) := by decide +kernel
set_option maxRecDepth 20000 in
theorem ggX3_both_X3_single : GoodIn wsX3_both wsX3_single := goodIn_r _ [27, 22, 28, 29, 30, 31, 32, 33, 6, 7, 8, 5, 9, 10, 1, 11, 12, 34, 35, 36, 17, 18, 19, 20, 37, 38, 39, 40, 41, 42, 43, 0, 2, 3, 4, 13, 14, 15, 16, 21, 23, 24, 25, 26, 44, 45, 46, 47, 48, 49, 50, 51] (by decide +kernel) (by decide +kernel)
set_option maxRecDepth 20000 in
theorem gX3_both_X3_single : GoodIn wsX3_both (wsV RX3 59 RX3 yX3_single wsX3_single) := goodIn_app (goodIn_of _ (by decide +kernel)) ggX3_both_X3_single
set_option maxRecDepth 20000 in
theorem ggX3_both_X3_look : GoodIn wsX3_both wsX3_look := goodIn_r _ [9, 10, 1, 11, 12, 44, 45, 46, 47, 48, 49, 50, 51] (by decide +kernel) (by decide +kernel)
set_option maxRecDepth 20000 in
theorem gX3_both_X3_look : GoodIn wsX3_both (wsV RX3 30 RX3 yX3_look wsX3_look) := goodIn_app (goodIn_of _ (by decide +kernel)) ggX3_both_X3_look
theorem dX3_both_0 : decode cX3_both 0 = .ok (.aload_n 0, 1) := by decide +kernel
theorem dX3_both_1 : decode cX3_both 1 = .ok (.iload_n 1, 1) := by decide +kernel
theorem dX3_both_2 : decode cX3_both 2 = .ok (.invokevirtual 59, 3) := by decide +kernel
theorem dX3_both_5 : decode cX3_both 5 = .ok (.lstore_n 2, 1) := by decide +kernel
theorem dX3_both_6 : decode cX3_both 6 = .ok (.iconst 0, 1) := by decide +kernel
theorem dX3_both_7 : decode cX3_both 7 = .ok (.istore 4, 2) := by decide +kernel
theorem dX3_both_9 : decode cX3_both 9 = .ok (.iload 4, 2) := by decide +kernel
theorem dX3_both_11 : decode cX3_both 11 = .ok (.bipush 80, 2) := by decide +kernel
theorem dX3_both_13 : decode cX3_both 13 = .ok (.if_icmp .ge 36, 3) := by decide +kernel
theorem dX3_both_16 : decode cX3_both 16 = .ok (.aload_n 0, 1) := by decide +kernel
theorem dX3_both_17 : decode cX3_both 17 = .ok (.invokevirtual 30, 3) := by decide +kernel
theorem dX3_both_20 : decode cX3_both 20 = .ok (.bipush 38, 2) := by decide +kernel
theorem dX3_both_22 : decode cX3_both 22 = .ok (.if_icmp .ne 27, 3) := by decide +kernel
theorem dX3_both_25 : decode cX3_both 25 = .ok (.aload_n 0, 1) := by decide +kernel
theorem dX3_both_26 : decode cX3_both 26 = .ok (.dup, 1) := by decide +kernel
theorem dX3_both_27 : decode cX3_both 27 = .ok (.getfield 17, 3) := by decide +kernel
theorem dX3_both_30 : decode cX3_both 30 = .ok (.iconst 1, 1) := by decide +kernel
theorem dX3_both_31 : decode cX3_both 31 = .ok (.iadd, 1) := by decide +kernel
theorem dX3_both_32 : decode cX3_both 32 = .ok (.putfield 17, 3) := by decide +kernel
theorem dX3_both_35 : decode cX3_both 35 = .ok (.lload_n 2, 1) := by decide +kernel
theorem dX3_both_36 : decode cX3_both 36 = .ok (.aload_n 0, 1) := by decide +kernel
theorem dX3_both_37 : decode cX3_both 37 = .ok (.iload_n 1, 1) := by decide +kernel
theorem dX3_both_38 : decode cX3_both 38 = .ok (.invokevirtual 59, 3) := by decide +kernel
theorem dX3_both_41 : decode cX3_both 41 = .ok (.land, 1) := by decide +kernel
theorem dX3_both_42 : decode cX3_both 42 = .ok (.lstore_n 2, 1) := by decide +kernel
theorem dX3_both_43 : decode cX3_both 43 = .ok (.iinc 4 1, 3) := by decide +kernel
theorem dX3_both_46 : decode cX3_both 46 = .ok (.goto (-37), 3) := by decide +kernel
theorem dX3_both_49 : decode cX3_both 49 = .ok (.lload_n 2, 1) := by decide +kernel
theorem dX3_both_50 : decode cX3_both 50 = .ok (.lreturn, 1) := by decide +kernel
set_option maxRecDepth 20000 in
theorem ggX3_single_X3_look : GoodIn wsX3_single wsX3_look := goodIn_r _ [12, 13, 14, 15, 16, 44, 45, 46, 47, 48, 49, 50, 51] (by decide +kernel) (by decide +kernel)
set_option maxRecDepth 20000 in
theorem gX3_single_X3_look : GoodIn wsX3_single (wsV RX3 30 RX3 yX3_look wsX3_look) := goodIn_app (goodIn_of _ (by decide +kernel)) ggX3_single_X3_look
set_option maxRecDepth 20000 in
theorem ggX3_single_X3_denied : GoodIn wsX3_single wsX3_denied := goodIn_r _ [39, 14, 1, 32, 33, 34, 11, 31, 8, 9, 10, 12, 13, 15, 16, 35, 36, 37, 38, 20, 21, 22, 23, 40, 41, 42, 43, 0, 2, 3, 4, 5, 6, 7, 17, 18, 19, 24, 25, 26, 27, 28, 29, 30, 44, 45, 46, 47, 48, 49, 50, 51] (by decide +kernel) (by decide +kernel)
set_option maxRecDepth 20000 in
theorem gX3_single_X3_denied : GoodIn wsX3_single (wsV RX3 62 RX3 yX3_denied wsX3_denied) := goodIn_app (goodIn_of _ (by decide +kernel)) ggX3_single_X3_denied
set_option maxRecDepth 20000 in
theorem ggX3_single_X3_miss : GoodIn wsX3_single wsX3_miss := goodIn_r _ [23, 13, 14, 44, 45, 46, 47, 48, 49, 50, 51] (by decide +kernel) (by decide +kernel)
set_option maxRecDepth 20000 in
theorem gX3_single_X3_miss : GoodIn wsX3_single (wsV RX3 52 RX3 yX3_miss wsX3_miss) := goodIn_app (goodIn_of _ (by decide +kernel)) ggX3_single_X3_miss
set_option maxRecDepth 20000 in
theorem ggX3_single_X3_bracketed : GoodIn wsX3_single wsX3_bracketed := goodIn_r _ [35, 14, 36, 37, 38, 11, 8, 9, 10, 12, 13, 15, 16, 20, 21, 22, 23, 31, 32, 33, 34, 39, 1, 40, 41, 42, 43, 0, 2, 3, 4, 5, 6, 7, 17, 18, 19, 24, 25, 26, 27, 28, 29, 30, 44, 45, 46, 47, 48, 49, 50, 51] (by decide +kernel) (by decide +kernel)
set_option maxRecDepth 20000 in
theorem gX3_single_X3_bracketed : GoodIn wsX3_single (wsV RX3 65 RX3 yX3_bracketed wsX3_bracketed) := goodIn_app (goodIn_of _ (by decide +kernel)) ggX3_single_X3_bracketed
set_option maxRecDepth 20000 in
theorem ggX3_single_X3_sign : GoodIn wsX3_single wsX3_sign := goodIn_r _ [30, 14, 44, 45, 46, 47, 48, 49, 50, 51] (by decide +kernel) (by decide +kernel)
set_option maxRecDepth 20000 in
theorem gX3_single_X3_sign : GoodIn wsX3_single (wsV RX3 68 RX3 yX3_sign wsX3_sign) := goodIn_app (goodIn_of _ (by decide +kernel)) ggX3_single_X3_sign
theorem dX3_single_0 : decode cX3_single 0 = .ok (.aload_n 0, 1) := by decide +kernel
theorem dX3_single_1 : decode cX3_single 1 = .ok (.invokevirtual 30, 3) := by decide +kernel
theorem dX3_single_4 : decode cX3_single 4 = .ok (.lookupswitch 196 #[(40, 113), (48, 134), (49, 140), (97, 148), (98, 156), (99, 164), (120, 172), (121, 180), (122, 188), (126, 92)], 92) := by decide +kernel
theorem dX3_single_96 : decode cX3_single 96 = .ok (.iload_n 1, 1) := by decide +kernel
theorem dX3_single_97 : decode cX3_single 97 = .ok (.bipush 10, 2) := by decide +kernel
theorem dX3_single_99 : decode cX3_single 99 = .ok (.if_icmp .ge 13, 3) := by decide +kernel
theorem dX3_single_102 : decode cX3_single 102 = .ok (.aload_n 0, 1) := by decide +kernel
theorem dX3_single_103 : decode cX3_single 103 = .ok (.iload_n 1, 1) := by decide +kernel
theorem dX3_single_104 : decode cX3_single 104 = .ok (.iconst 1, 1) := by decide +kernel
theorem dX3_single_105 : decode cX3_single 105 = .ok (.iadd, 1) := by decide +kernel
theorem dX3_single_106 : decode cX3_single 106 = .ok (.invokevirtual 62, 3) := by decide +kernel
theorem dX3_single_109 : decode cX3_single 109 = .ok (.goto 7, 3) := by decide +kernel
theorem dX3_single_112 : decode cX3_single 112 = .ok (.aload_n 0, 1) := by decide +kernel
theorem dX3_single_113 : decode cX3_single 113 = .ok (.invokevirtual 52, 3) := by decide +kernel
theorem dX3_single_116 : decode cX3_single 116 = .ok (.lreturn, 1) := by decide +kernel
theorem dX3_single_117 : decode cX3_single 117 = .ok (.iload_n 1, 1) := by decide +kernel
theorem dX3_single_118 : decode cX3_single 118 = .ok (.bipush 10, 2) := by decide +kernel
theorem dX3_single_120 : decode cX3_single 120 = .ok (.if_icmp .ge 13, 3) := by decide +kernel
theorem dX3_single_123 : decode cX3_single 123 = .ok (.aload_n 0, 1) := by decide +kernel
theorem dX3_single_124 : decode cX3_single 124 = .ok (.iload_n 1, 1) := by decide +kernel
theorem dX3_single_125 : decode cX3_single 125 = .ok (.iconst 1, 1) := by decide +kernel
theorem dX3_single_126 : decode cX3_single 126 = .ok (.iadd, 1) := by decide +kernel
