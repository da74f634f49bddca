theorem dX3_single_127 : decode cX3_single 127 = .ok (.invokevirtual 65, 3) := by decide +kernel
theorem dX3_single_130 : decode cX3_single 130 = .ok (.goto 7, 3) := by decide +kernel
theorem dX3_single_133 : decode cX3_single 133 = .ok (.aload_n 0, 1) := by decide +kernel
theorem dX3_single_134 : decode cX3_single 134 = .ok (.invokevirtual 52, 3) := by decide +kernel
theorem dX3_single_137 : decode cX3_single 137 = .ok (.lreturn, 1) := by decide +kernel
theorem dX3_single_138 : decode cX3_single 138 = .ok (.aload_n 0, 1) := by decide +kernel
theorem dX3_single_139 : decode cX3_single 139 = .ok (.lconst 0, 1) := by decide +kernel
theorem dX3_single_140 : decode cX3_single 140 = .ok (.invokevirtual 68, 3) := by decide +kernel
theorem dX3_single_143 : decode cX3_single 143 = .ok (.lreturn, 1) := by decide +kernel
theorem dX3_single_144 : decode cX3_single 144 = .ok (.aload_n 0, 1) := by decide +kernel
theorem dX3_single_145 : decode cX3_single 145 = .ok (.ldc2_w 72, 3) := by decide +kernel
theorem dX3_single_148 : decode cX3_single 148 = .ok (.invokevirtual 68, 3) := by decide +kernel
theorem dX3_single_151 : decode cX3_single 151 = .ok (.lreturn, 1) := by decide +kernel
theorem dX3_single_152 : decode cX3_single 152 = .ok (.aload_n 0, 1) := by decide +kernel
theorem dX3_single_153 : decode cX3_single 153 = .ok (.ldc2_w 74, 3) := by decide +kernel
theorem dX3_single_156 : decode cX3_single 156 = .ok (.invokevirtual 68, 3) := by decide +kernel
theorem dX3_single_159 : decode cX3_single 159 = .ok (.lreturn, 1) := by decide +kernel
theorem dX3_single_160 : decode cX3_single 160 = .ok (.aload_n 0, 1) := by decide +kernel
theorem dX3_single_161 : decode cX3_single 161 = .ok (.ldc2_w 76, 3) := by decide +kernel
theorem dX3_single_164 : decode cX3_single 164 = .ok (.invokevirtual 68, 3) := by decide +kernel
theorem dX3_single_167 : decode cX3_single 167 = .ok (.lreturn, 1) := by decide +kernel
theorem dX3_single_168 : decode cX3_single 168 = .ok (.aload_n 0, 1) := by decide +kernel
theorem dX3_single_169 : decode cX3_single 169 = .ok (.ldc2_w 78, 3) := by decide +kernel
theorem dX3_single_172 : decode cX3_single 172 = .ok (.invokevirtual 68, 3) := by decide +kernel
theorem dX3_single_175 : decode cX3_single 175 = .ok (.lreturn, 1) := by decide +kernel
theorem dX3_single_176 : decode cX3_single 176 = .ok (.aload_n 0, 1) := by decide +kernel
theorem dX3_single_177 : decode cX3_single 177 = .ok (.ldc2_w 80, 3) := by decide +kernel
theorem dX3_single_180 : decode cX3_single 180 = .ok (.invokevirtual 68, 3) := by decide +kernel
theorem dX3_single_183 : decode cX3_single 183 = .ok (.lreturn, 1) := by decide +kernel
theorem dX3_single_184 : decode cX3_single 184 = .ok (.aload_n 0, 1) := by decide +kernel
theorem dX3_single_185 : decode cX3_single 185 = .ok (.ldc2_w 82, 3) := by decide +kernel
theorem dX3_single_188 : decode cX3_single 188 = .ok (.invokevirtual 68, 3) := by decide +kernel
theorem dX3_single_191 : decode cX3_single 191 = .ok (.lreturn, 1) := by decide +kernel
theorem dX3_single_192 : decode cX3_single 192 = .ok (.aload_n 0, 1) := by decide +kernel
theorem dX3_single_193 : decode cX3_single 193 = .ok (.ldc2_w 84, 3) := by decide +kernel
theorem dX3_single_196 : decode cX3_single 196 = .ok (.invokevirtual 68, 3) := by decide +kernel
theorem dX3_single_199 : decode cX3_single 199 = .ok (.lreturn, 1) := by decide +kernel
theorem dX3_single_200 : decode cX3_single 200 = .ok (.aload_n 0, 1) := by decide +kernel
theorem dX3_single_201 : decode cX3_single 201 = .ok (.invokevirtual 52, 3) := by decide +kernel
theorem dX3_single_204 : decode cX3_single 204 = .ok (.lreturn, 1) := by decide +kernel
theorem dX3_sign_0 : decode cX3_sign 0 = .ok (.aload_n 0, 1) := by decide +kernel
theorem dX3_sign_1 : decode cX3_sign 1 = .ok (.dup, 1) := by decide +kernel
theorem dX3_sign_2 : decode cX3_sign 2 = .ok (.getfield 17, 3) := by decide +kernel
theorem dX3_sign_5 : decode cX3_sign 5 = .ok (.iconst 1, 1) := by decide +kernel
theorem dX3_sign_6 : decode cX3_sign 6 = .ok (.iadd, 1) := by decide +kernel
theorem dX3_sign_7 : decode cX3_sign 7 = .ok (.putfield 17, 3) := by decide +kernel
theorem dX3_sign_10 : decode cX3_sign 10 = .ok (.lload_n 1, 1) := by decide +kernel
theorem dX3_sign_11 : decode cX3_sign 11 = .ok (.lreturn, 1) := by decide +kernel
set_option maxRecDepth 20000 in
theorem ggX3_denied_X3_single : GoodIn wsX3_denied wsX3_single := goodIn_r _ [27, 2, 28, 29, 30, 31, 32, 33, 8, 9, 10, 6, 11, 12, 1, 13, 14, 34, 35, 36, 19, 20, 21, 22, 37, 38, 39, 40, 41, 42, 43, 7, 3, 4, 5, 15, 16, 17, 18, 0, 23, 24, 25, 26, 44, 45, 46, 47, 48, 49, 50, 51] (by decide +kernel) (by decide +kernel)
set_option maxRecDepth 20000 in
theorem gX3_denied_X3_single : GoodIn wsX3_denied (wsV RX3 59 RX3 yX3_single wsX3_single) := goodIn_app (goodIn_of _ (by decide +kernel)) ggX3_denied_X3_single
theorem dX3_denied_0 : decode cX3_denied 0 = .ok (.aload_n 0, 1) := by decide +kernel
theorem dX3_denied_1 : decode cX3_denied 1 = .ok (.dup, 1) := by decide +kernel
theorem dX3_denied_2 : decode cX3_denied 2 = .ok (.getfield 17, 3) := by decide +kernel
theorem dX3_denied_5 : decode cX3_denied 5 = .ok (.iconst 1, 1) := by decide +kernel
theorem dX3_denied_6 : decode cX3_denied 6 = .ok (.iadd, 1) := by decide +kernel
theorem dX3_denied_7 : decode cX3_denied 7 = .ok (.putfield 17, 3) := by decide +kernel
theorem dX3_denied_10 : decode cX3_denied 10 = .ok (.aload_n 0, 1) := by decide +kernel
theorem dX3_denied_11 : decode cX3_denied 11 = .ok (.iload_n 1, 1) := by decide +kernel
theorem dX3_denied_12 : decode cX3_denied 12 = .ok (.invokevirtual 59, 3) := by decide +kernel
theorem dX3_denied_15 : decode cX3_denied 15 = .ok (.ldc2_w 72, 3) := by decide +kernel
theorem dX3_denied_18 : decode cX3_denied 18 = .ok (.lxor, 1) := by decide +kernel
theorem dX3_denied_19 : decode cX3_denied 19 = .ok (.lreturn, 1) := by decide +kernel
set_option maxRecDepth 20000 in
theorem ggX3_bracketed_X3_either : GoodIn wsX3_bracketed wsX3_either := goodIn_r _ [23, 1, 24, 25, 26, 5, 6, 7, 8, 9, 10, 11, 12, 17, 18, 19, 20, 0, 2, 3, 4, 13, 14, 15, 16, 21, 22, 27, 28, 29, 30, 31, 32, 33, 34, 35, 36, 37, 38, 39, 40, 41, 42, 43, 44, 45, 46, 47, 48, 49, 50, 51] (by decide +kernel) (by decide +kernel)
set_option maxRecDepth 20000 in
theorem gX3_bracketed_X3_either : GoodIn wsX3_bracketed (wsV RX3 39 RX3 yX3_either wsX3_either) := goodIn_app (goodIn_of _ (by decide +kernel)) ggX3_bracketed_X3_either
set_option maxRecDepth 20000 in
theorem ggX3_bracketed_X3_look : GoodIn wsX3_bracketed wsX3_look := goodIn_r _ [9, 10, 1, 11, 12, 44, 45, 46, 47, 48, 49, 50, 51] (by decide +kernel) (by decide +kernel)
set_option maxRecDepth 20000 in
theorem gX3_bracketed_X3_look : GoodIn wsX3_bracketed (wsV RX3 30 RX3 yX3_look wsX3_look) := goodIn_app (goodIn_of _ (by decide +kernel)) ggX3_bracketed_X3_look
set_option maxRecDepth 20000 in
theorem ggX3_bracketed_X3_miss : GoodIn wsX3_bracketed wsX3_miss := goodIn_r _ [16, 10, 1, 44, 45, 46, 47, 48, 49, 50, 51] (by decide +kernel) (by decide +kernel)
set_option maxRecDepth 20000 in
theorem gX3_bracketed_X3_miss : GoodIn wsX3_bracketed (wsV RX3 52 RX3 yX3_miss wsX3_miss) := goodIn_app (goodIn_of _ (by decide +kernel)) ggX3_bracketed_X3_miss
theorem dX3_bracketed_0 : decode cX3_bracketed 0 = .ok (.aload_n 0, 1) := by decide +kernel
theorem dX3_bracketed_1 : decode cX3_bracketed 1 = .ok (.dup, 1) := by decide +kernel
theorem dX3_bracketed_2 : decode cX3_bracketed 2 = .ok (.getfield 17, 3) := by decide +kernel
theorem dX3_bracketed_5 : decode cX3_bracketed 5 = .ok (.iconst 1, 1) := by decide +kernel
theorem dX3_bracketed_6 : decode cX3_bracketed 6 = .ok (.iadd, 1) := by decide +kernel
theorem dX3_bracketed_7 : decode cX3_bracketed 7 = .ok (.putfield 17, 3) := by decide +kernel
theorem dX3_bracketed_10 : decode cX3_bracketed 10 = .ok (.aload_n 0, 1) := by decide +kernel
theorem dX3_bracketed_11 : decode cX3_bracketed 11 = .ok (.iload_n 1, 1) := by decide +kernel
theorem dX3_bracketed_12 : decode cX3_bracketed 12 = .ok (.invokevirtual 39, 3) := by decide +kernel
theorem dX3_bracketed_15 : decode cX3_bracketed 15 = .ok (.lstore_n 2, 1) := by decide +kernel
theorem dX3_bracketed_16 : decode cX3_bracketed 16 = .ok (.aload_n 0, 1) := by decide +kernel
theorem dX3_bracketed_17 : decode cX3_bracketed 17 = .ok (.invokevirtual 30, 3) := by decide +kernel
theorem dX3_bracketed_20 : decode cX3_bracketed 20 = .ok (.bipush 41, 2) := by decide +kernel
theorem dX3_bracketed_22 : decode cX3_bracketed 22 = .ok (.if_icmp .ne 16, 3) := by decide +kernel
theorem dX3_bracketed_25 : decode cX3_bracketed 25 = .ok (.aload_n 0, 1) := by decide +kernel
theorem dX3_bracketed_26 : decode cX3_bracketed 26 = .ok (.dup, 1) := by decide +kernel
theorem dX3_bracketed_27 : decode cX3_bracketed 27 = .ok (.getfield 17, 3) := by decide +kernel
theorem dX3_bracketed_30 : decode cX3_bracketed 30 = .ok (.iconst 1, 1) := by decide +kernel
theorem dX3_bracketed_31 : decode cX3_bracketed 31 = .ok (.iadd, 1) := by decide +kernel
theorem dX3_bracketed_32 : decode cX3_bracketed 32 = .ok (.putfield 17, 3) := by decide +kernel
theorem dX3_bracketed_35 : decode cX3_bracketed 35 = .ok (.goto 8, 3) := by decide +kernel
theorem dX3_bracketed_38 : decode cX3_bracketed 38 = .ok (.aload_n 0, 1) := by decide +kernel
theorem dX3_bracketed_39 : decode cX3_bracketed 39 = .ok (.invokevirtual 52, 3) := by decide +kernel
theorem dX3_bracketed_42 : decode cX3_bracketed 42 = .ok (.pop2, 1) := by decide +kernel
theorem dX3_bracketed_43 : decode cX3_bracketed 43 = .ok (.lload_n 2, 1) := by decide +kernel
theorem dX3_bracketed_44 : decode cX3_bracketed 44 = .ok (.lreturn, 1) := by decide +kernel
theorem dX4_init_0 : decode cX4_init 0 = .ok (.aload_n 0, 1) := by decide +kernel
theorem dX4_init_1 : decode cX4_init 1 = .ok (.invokespecial 3, 3) := by decide +kernel
theorem dX4_init_4 : decode cX4_init 4 = .ok (.aload_n 0, 1) := by decide +kernel
theorem dX4_init_5 : decode cX4_init 5 = .ok (.iconst 4, 1) := by decide +kernel
theorem dX4_init_6 : decode cX4_init 6 = .ok (.anewarray 11, 3) := by decide +kernel
theorem dX4_init_9 : decode cX4_init 9 = .ok (.putfield 13, 3) := by decide +kernel
theorem dX4_init_12 : decode cX4_init 12 = .ok (.aload_n 0, 1) := by decide +kernel
theorem dX4_init_13 : decode cX4_init 13 = .ok (.iconst 4, 1) := by decide +kernel
theorem dX4_init_14 : decode cX4_init 14 = .ok (.newarray .int, 2) := by decide +kernel
theorem dX4_init_16 : decode cX4_init 16 = .ok (.putfield 17, 3) := by decide +kernel
theorem dX4_init_19 : decode cX4_init 19 = .ok (.aload_n 0, 1) := by decide +kernel
theorem dX4_init_20 : decode cX4_init 20 = .ok (.iconst 4, 1) := by decide +kernel
theorem dX4_init_21 : decode cX4_init 21 = .ok (.newarray .int, 2) := by decide +kernel
theorem dX4_init_23 : decode cX4_init 23 = .ok (.putfield 21, 3) := by decide +kernel
theorem dX4_init_26 : decode cX4_init 26 = .ok (.return_, 1) := by decide +kernel
theorem dX4_begin_0 : decode cX4_begin 0 = .ok (.aload_n 0, 1) := by decide +kernel
theorem dX4_begin_1 : decode cX4_begin 1 = .ok (.iconst 0, 1) := by decide +kernel
theorem dX4_begin_2 : decode cX4_begin 2 = .ok (.putfield 24, 3) := by decide +kernel
theorem dX4_begin_5 : decode cX4_begin 5 = .ok (.aload_n 0, 1) := by decide +kernel
theorem dX4_begin_6 : decode cX4_begin 6 = .ok (.sipush 1000, 3) := by decide +kernel
theorem dX4_begin_9 : decode cX4_begin 9 = .ok (.putfield 28, 3) := by decide +kernel
theorem dX4_begin_12 : decode cX4_begin 12 = .ok (.return_, 1) := by decide +kernel
theorem dX4_invite_0 : decode cX4_invite 0 = .ok (.aload_n 0, 1) := by decide +kernel
theorem dX4_invite_1 : decode cX4_invite 1 = .ok (.getfield 24, 3) := by decide +kernel
theorem dX4_invite_4 : decode cX4_invite 4 = .ok (.iconst 4, 1) := by decide +kernel
theorem dX4_invite_5 : decode cX4_invite 5 = .ok (.if_icmp .ge 23, 3) := by decide +kernel
theorem dX4_invite_8 : decode cX4_invite 8 = .ok (.aload_n 0, 1) := by decide +kernel
theorem dX4_invite_9 : decode cX4_invite 9 = .ok (.getfield 13, 3) := by decide +kernel
theorem dX4_invite_12 : decode cX4_invite 12 = .ok (.aload_n 0, 1) := by decide +kernel
theorem dX4_invite_13 : decode cX4_invite 13 = .ok (.getfield 24, 3) := by decide +kernel
theorem dX4_invite_16 : decode cX4_invite 16 = .ok (.aload_n 1, 1) := by decide +kernel
theorem dX4_invite_17 : decode cX4_invite 17 = .ok (.aastore, 1) := by decide +kernel
theorem dX4_invite_18 : decode cX4_invite 18 = .ok (.aload_n 0, 1) := by decide +kernel
theorem dX4_invite_19 : decode cX4_invite 19 = .ok (.dup, 1) := by decide +kernel
theorem dX4_invite_20 : decode cX4_invite 20 = .ok (.getfield 24, 3) := by decide +kernel
theorem dX4_invite_23 : decode cX4_invite 23 = .ok (.iconst 1, 1) := by decide +kernel
theorem dX4_invite_24 : decode cX4_invite 24 = .ok (.iadd, 1) := by decide +kernel
theorem dX4_invite_25 : decode cX4_invite 25 = .ok (.putfield 24, 3) := by decide +kernel
theorem dX4_invite_28 : decode cX4_invite 28 = .ok (.return_, 1) := by decide +kernel
theorem dX4_termOf_0 : decode cX4_termOf 0 = .ok (.iload_n 1, 1) := by decide +kernel
theorem dX4_termOf_1 : decode cX4_termOf 1 = .ok (.ifCond .lt 20, 3) := by decide +kernel
theorem dX4_termOf_4 : decode cX4_termOf 4 = .ok (.iload_n 1, 1) := by decide +kernel
theorem dX4_termOf_5 : decode cX4_termOf 5 = .ok (.aload_n 0, 1) := by decide +kernel
theorem dX4_termOf_6 : decode cX4_termOf 6 = .ok (.getfield 24, 3) := by decide +kernel
theorem dX4_termOf_9 : decode cX4_termOf 9 = .ok (.if_icmp .ge 12, 3) := by decide +kernel
theorem dX4_termOf_12 : decode cX4_termOf 12 = .ok (.aload_n 0, 1) := by decide +kernel
theorem dX4_termOf_13 : decode cX4_termOf 13 = .ok (.getfield 21, 3) := by decide +kernel
theorem dX4_termOf_16 : decode cX4_termOf 16 = .ok (.iload_n 1, 1) := by decide +kernel
theorem dX4_termOf_17 : decode cX4_termOf 17 = .ok (.iaload, 1) := by decide +kernel
theorem dX4_termOf_18 : decode cX4_termOf 18 = .ok (.goto 4, 3) := by decide +kernel
theorem dX4_termOf_21 : decode cX4_termOf 21 = .ok (.iconst (-1), 1) := by decide +kernel
theorem dX4_termOf_22 : decode cX4_termOf 22 = .ok (.ireturn, 1) := by decide +kernel
set_option maxRecDepth 20000 in
theorem ggX4_settle_X4_offer : GoodIn wsX4_settle wsX4_offer := goodIn_r _ [13, 14, 8, 2, 15, 16, 17, 18, 19, 20, 21, 22, 23, 24, 25, 26, 27, 28, 29, 30, 31, 32, 33, 34, 12, 35, 36, 37, 38, 39, 40, 41, 42, 43, 44, 45, 46, 47, 48, 49, 50, 51, 52, 53, 54, 55, 56, 57, 58, 59, 60, 61, 62, 63, 64, 65, 66, 67, 68, 69, 70, 71, 72, 73, 74, 75, 76, 77, 78, 79, 80, 81, 82, 83, 84, 85, 86, 87, 88, 89, 90, 91, 92, 93, 94, 95, 96, 97, 98, 99, 100, 101, 102, 103, 104, 105, 106, 107, 108, 109, 110, 111, 112, 113, 114, 115, 116, 117, 118, 0, 1, 3, 4, 5, 6, 7, 9, 10, 11, 119, 120, 121, 122, 123, 124, 125, 126, 127, 128, 129, 130, 131, 132, 133, 134, 135, 136, 137, 138, 139, 140, 141, 142, 143, 144] (by decide +kernel) (by decide +kernel)
set_option maxRecDepth 20000 in
theorem gX4_settle_X4_offer : GoodIn wsX4_settle (wsV RX4 37 RX4 yX4_offer wsX4_offer) := goodIn_app (goodIn_of _ (by decide +kernel)) ggX4_settle_X4_offer
theorem dX4_settle_0 : decode cX4_settle 0 = .ok (.iload_n 2, 1) := by decide +kernel
theorem dX4_settle_1 : decode cX4_settle 1 = .ok (.aload_n 0, 1) := by decide +kernel
theorem dX4_settle_2 : decode cX4_settle 2 = .ok (.getfield 24, 3) := by decide +kernel
theorem dX4_settle_5 : decode cX4_settle 5 = .ok (.if_icmp .ge 8, 3) := by decide +kernel
theorem dX4_settle_8 : decode cX4_settle 8 = .ok (.iload_n 2, 1) := by decide +kernel
theorem dX4_settle_9 : decode cX4_settle 9 = .ok (.iconst 4, 1) := by decide +kernel
theorem dX4_settle_10 : decode cX4_settle 10 = .ok (.if_icmp .lt 23, 3) := by decide +kernel
theorem dX4_settle_13 : decode cX4_settle 13 = .ok (.aload_n 0, 1) := by decide +kernel
theorem dX4_settle_14 : decode cX4_settle 14 = .ok (.getfield 17, 3) := by decide +kernel
theorem dX4_settle_17 : decode cX4_settle 17 = .ok (.iconst 0, 1) := by decide +kernel
theorem dX4_settle_18 : decode cX4_settle 18 = .ok (.aload_n 0, 1) := by decide +kernel
theorem dX4_settle_19 : decode cX4_settle 19 = .ok (.getfield 21, 3) := by decide +kernel
theorem dX4_settle_22 : decode cX4_settle 22 = .ok (.iconst 0, 1) := by decide +kernel
theorem dX4_settle_23 : decode cX4_settle 23 = .ok (.iconst 4, 1) := by decide +kernel
theorem dX4_settle_24 : decode cX4_settle 24 = .ok (.invokestatic 31, 3) := by decide +kernel
theorem dX4_settle_27 : decode cX4_settle 27 = .ok (.aload_n 0, 1) := by decide +kernel
theorem dX4_settle_28 : decode cX4_settle 28 = .ok (.iload_n 3, 1) := by decide +kernel
theorem dX4_settle_29 : decode cX4_settle 29 = .ok (.putfield 28, 3) := by decide +kernel
theorem dX4_settle_32 : decode cX4_settle 32 = .ok (.return_, 1) := by decide +kernel
theorem dX4_settle_33 : decode cX4_settle 33 = .ok (.iconst 0, 1) := by decide +kernel
theorem dX4_settle_34 : decode cX4_settle 34 = .ok (.istore 4, 2) := by decide +kernel
theorem dX4_settle_36 : decode cX4_settle 36 = .ok (.iload 4, 2) := by decide +kernel
theorem dX4_settle_38 : decode cX4_settle 38 = .ok (.iconst 4, 1) := by decide +kernel
theorem dX4_settle_39 : decode cX4_settle 39 = .ok (.if_icmp .gt 18, 3) := by decide +kernel
theorem dX4_settle_42 : decode cX4_settle 42 = .ok (.aload_n 0, 1) := by decide +kernel
theorem dX4_settle_43 : decode cX4_settle 43 = .ok (.aload_n 1, 1) := by decide +kernel
theorem dX4_settle_44 : decode cX4_settle 44 = .ok (.iload_n 2, 1) := by decide +kernel
theorem dX4_settle_45 : decode cX4_settle 45 = .ok (.iload 4, 2) := by decide +kernel
theorem dX4_settle_47 : decode cX4_settle 47 = .ok (.iload_n 3, 1) := by decide +kernel
theorem dX4_settle_48 : decode cX4_settle 48 = .ok (.invokevirtual 37, 3) := by decide +kernel
theorem dX4_settle_51 : decode cX4_settle 51 = .ok (.iinc 4 1, 3) := by decide +kernel
theorem dX4_settle_54 : decode cX4_settle 54 = .ok (.goto (-18), 3) := by decide +kernel
theorem dX4_settle_57 : decode cX4_settle 57 = .ok (.return_, 1) := by decide +kernel
set_option maxRecDepth 20000 in
theorem ggX4_offer_X1_priceOf : GoodIn wsX4_offer wsX1_priceOf := goodIn_r _ [8, 9, 10, 124, 125, 126, 127, 128, 129, 130, 131, 132, 133, 134] (by decide +kernel) (by decide +kernel)
set_option maxRecDepth 20000 in
theorem gX4_offer_X1_priceOf : GoodIn wsX4_offer (wsV RX4 41 RX1 yX1_priceOf wsX1_priceOf) := goodIn_app (goodIn_of _ (by decide +kernel)) ggX4_offer_X1_priceOf
set_option maxRecDepth 20000 in
theorem ggX4_offer_X1_allows : GoodIn wsX4_offer wsX1_allows := goodIn_r _ [14, 15, 16, 17, 18, 7, 19, 20, 124, 125, 126, 127, 128, 129, 130, 131, 132, 133, 134] (by decide +kernel) (by decide +kernel)
set_option maxRecDepth 20000 in
theorem gX4_offer_X1_allows : GoodIn wsX4_offer (wsV RX4 45 RX1 yX1_allows wsX1_allows) := goodIn_app (goodIn_of _ (by decide +kernel)) ggX4_offer_X1_allows
set_option maxRecDepth 20000 in
theorem ggX4_offer_X4_stands : GoodIn wsX4_offer wsX4_stands := goodIn_r _ [25, 3, 1, 26, 27, 28, 29, 30, 31, 32, 33, 34, 17, 18, 7, 19, 15, 20, 35, 36, 37, 38, 39, 40, 41, 42, 43, 44, 45, 46, 47, 48, 49, 50, 51, 52, 53, 54, 55, 56, 57, 58, 59, 60, 61, 62, 63, 64, 65, 66, 67, 68, 69, 70, 71, 72, 73, 74, 75, 76, 77, 78, 79, 80, 81, 82, 83, 84, 85, 86, 87, 88, 89, 90, 91, 92, 93, 94, 95, 96, 97, 98, 99, 100, 101, 102, 103, 104, 105, 119, 120, 121, 122, 123, 135, 136, 137, 138, 139, 140, 141, 142, 143, 144, 124, 125, 126, 127, 128, 129, 130, 131, 132, 133, 134] (by decide +kernel) (by decide +kernel)
set_option maxRecDepth 20000 in
theorem gX4_offer_X4_stands : GoodIn wsX4_offer (wsV RX4 49 RX4 yX4_stands wsX4_stands) := goodIn_app (goodIn_of _ (by decide +kernel)) ggX4_offer_X4_stands
set_option maxRecDepth 20000 in
theorem ggX4_offer_X4_settle : GoodIn wsX4_offer wsX4_settle := goodIn_r _ [109, 110, 3, 111, 112, 113, 114, 115, 2, 116, 117, 118, 24, 0, 1, 4, 5, 6, 7, 8, 9, 10, 11, 12, 13, 14, 15, 16, 17, 18, 19, 20, 21, 22, 23, 25, 26, 27, 28, 29, 30, 31, 32, 33, 34, 35, 36, 37, 38, 39, 40, 41, 42, 43, 44, 45, 46, 47, 48, 49, 50, 51, 52, 53, 54, 55, 56, 57, 58, 59, 60, 61, 62, 63, 64, 65, 66, 67, 68, 69, 70, 71, 72, 73, 74, 75, 76, 77, 78, 79, 80, 81, 82, 83, 84, 85, 86, 87, 88, 89, 90, 91, 92, 93, 94, 95, 96, 97, 98, 99, 100, 101, 102, 103, 104, 105, 106, 107, 108, 119, 120, 121, 122, 123, 124, 125, 126, 127, 128, 129, 130, 131, 132, 133, 134, 135, 136, 137, 138, 139, 140, 141, 142, 143, 144] (by decide +kernel) (by decide +kernel)
set_option maxRecDepth 20000 in
theorem gX4_offer_X4_settle : GoodIn wsX4_offer (wsV RX4 53 RX4 yX4_settle wsX4_settle) := goodIn_app (goodIn_of _ (by decide +kernel)) ggX4_offer_X4_settle
theorem dX4_offer_0 : decode cX4_offer 0 = .ok (.iload 4, 2) := by decide +kernel
theorem dX4_offer_2 : decode cX4_offer 2 = .ok (.aload_n 0, 1) := by decide +kernel
theorem dX4_offer_3 : decode cX4_offer 3 = .ok (.getfield 13, 3) := by decide +kernel
theorem dX4_offer_6 : decode cX4_offer 6 = .ok (.iload_n 2, 1) := by decide +kernel
theorem dX4_offer_7 : decode cX4_offer 7 = .ok (.aaload, 1) := by decide +kernel
theorem dX4_offer_8 : decode cX4_offer 8 = .ok (.iload_n 3, 1) := by decide +kernel
theorem dX4_offer_9 : decode cX4_offer 9 = .ok (.invokevirtual 41, 3) := by decide +kernel
theorem dX4_offer_12 : decode cX4_offer 12 = .ok (.iadd, 1) := by decide +kernel
theorem dX4_offer_13 : decode cX4_offer 13 = .ok (.istore 5, 2) := by decide +kernel
theorem dX4_offer_15 : decode cX4_offer 15 = .ok (.iload 5, 2) := by decide +kernel
theorem dX4_offer_17 : decode cX4_offer 17 = .ok (.aload_n 0, 1) := by decide +kernel
theorem dX4_offer_18 : decode cX4_offer 18 = .ok (.getfield 28, 3) := by decide +kernel
theorem dX4_offer_21 : decode cX4_offer 21 = .ok (.if_icmp .ge 16, 3) := by decide +kernel
theorem dX4_offer_24 : decode cX4_offer 24 = .ok (.aload_n 0, 1) := by decide +kernel
theorem dX4_offer_25 : decode cX4_offer 25 = .ok (.getfield 13, 3) := by decide +kernel
theorem dX4_offer_28 : decode cX4_offer 28 = .ok (.iload_n 2, 1) := by decide +kernel
theorem dX4_offer_29 : decode cX4_offer 29 = .ok (.aaload, 1) := by decide +kernel
theorem dX4_offer_30 : decode cX4_offer 30 = .ok (.iload_n 3, 1) := by decide +kernel
theorem dX4_offer_31 : decode cX4_offer 31 = .ok (.invokevirtual 45, 3) := by decide +kernel
theorem dX4_offer_34 : decode cX4_offer 34 = .ok (.ifCond .ne 4, 3) := by decide +kernel
theorem dX4_offer_37 : decode cX4_offer 37 = .ok (.return_, 1) := by decide +kernel
theorem dX4_offer_38 : decode cX4_offer 38 = .ok (.aload_n 0, 1) := by decide +kernel
theorem dX4_offer_39 : decode cX4_offer 39 = .ok (.getfield 17, 3) := by decide +kernel
theorem dX4_offer_42 : decode cX4_offer 42 = .ok (.iload_n 2, 1) := by decide +kernel
theorem dX4_offer_43 : decode cX4_offer 43 = .ok (.iload_n 3, 1) := by decide +kernel
theorem dX4_offer_44 : decode cX4_offer 44 = .ok (.iastore, 1) := by decide +kernel
theorem dX4_offer_45 : decode cX4_offer 45 = .ok (.iload_n 3, 1) := by decide +kernel
theorem dX4_offer_46 : decode cX4_offer 46 = .ok (.iconst 4, 1) := by decide +kernel
theorem dX4_offer_47 : decode cX4_offer 47 = .ok (.if_icmp .eq 14, 3) := by decide +kernel
theorem dX4_offer_50 : decode cX4_offer 50 = .ok (.aload_n 0, 1) := by decide +kernel
theorem dX4_offer_51 : decode cX4_offer 51 = .ok (.aload_n 1, 1) := by decide +kernel
theorem dX4_offer_52 : decode cX4_offer 52 = .ok (.iload_n 2, 1) := by decide +kernel
theorem dX4_offer_53 : decode cX4_offer 53 = .ok (.iconst 1, 1) := by decide +kernel
theorem dX4_offer_54 : decode cX4_offer 54 = .ok (.iadd, 1) := by decide +kernel
theorem dX4_offer_55 : decode cX4_offer 55 = .ok (.invokevirtual 49, 3) := by decide +kernel
theorem dX4_offer_58 : decode cX4_offer 58 = .ok (.ifCond .eq 13, 3) := by decide +kernel
theorem dX4_offer_61 : decode cX4_offer 61 = .ok (.aload_n 0, 1) := by decide +kernel
theorem dX4_offer_62 : decode cX4_offer 62 = .ok (.aload_n 1, 1) := by decide +kernel
theorem dX4_offer_63 : decode cX4_offer 63 = .ok (.iload_n 2, 1) := by decide +kernel
theorem dX4_offer_64 : decode cX4_offer 64 = .ok (.iconst 1, 1) := by decide +kernel
theorem dX4_offer_65 : decode cX4_offer 65 = .ok (.iadd, 1) := by decide +kernel
theorem dX4_offer_66 : decode cX4_offer 66 = .ok (.iload 5, 2) := by decide +kernel
theorem dX4_offer_68 : decode cX4_offer 68 = .ok (.invokevirtual 53, 3) := by decide +kernel
theorem dX4_offer_71 : decode cX4_offer 71 = .ok (.return_, 1) := by decide +kernel
set_option maxRecDepth 20000 in
theorem ggX4_stands_X0_begin : GoodIn wsX4_stands wsX0_begin := goodIn_r _ [7, 8, 9, 10, 94, 95, 96, 97, 98, 99, 100, 101, 102, 103] (by decide +kernel) (by decide +kernel)
set_option maxRecDepth 20000 in
theorem gX4_stands_X0_begin : GoodIn wsX4_stands (wsV RX4 57 RX0 yX0_begin wsX0_begin) := goodIn_app (goodIn_of _ (by decide +kernel)) ggX4_stands_X0_begin
set_option maxRecDepth 20000 in
theorem ggX4_stands_X1_eased : GoodIn wsX4_stands wsX1_eased := goodIn_r _ [15, 16, 17, 104, 105, 106, 107, 108, 109, 110, 111, 112, 113, 114] (by decide +kernel) (by decide +kernel)
set_option maxRecDepth 20000 in
theorem gX4_stands_X1_eased : GoodIn wsX4_stands (wsV RX4 62 RX1 yX1_eased wsX1_eased) := goodIn_app (goodIn_of _ (by decide +kernel)) ggX4_stands_X1_eased
set_option maxRecDepth 20000 in
theorem ggX4_stands_X0_enter : GoodIn wsX4_stands wsX0_enter := goodIn_r _ [21, 8, 22, 23, 24, 25, 26, 27, 28, 29, 14, 30, 16, 31, 32, 33, 34, 35, 36, 37, 38, 39, 40, 41, 42, 43, 44, 45, 46, 47, 48, 49, 50, 51, 52, 6, 53, 10, 9, 94, 95, 96, 97, 98, 99, 100, 101, 102, 103, 104, 105, 106, 107, 108, 109, 110, 111, 112, 113, 114] (by decide +kernel) (by decide +kernel)
set_option maxRecDepth 20000 in
theorem gX4_stands_X0_enter : GoodIn wsX4_stands (wsV RX4 65 RX0 yX0_enter wsX0_enter) := goodIn_app (goodIn_of _ (by decide +kernel)) ggX4_stands_X0_enter
set_option maxRecDepth 20000 in
theorem ggX4_stands_X0_solve : GoodIn wsX4_stands wsX0_solve := goodIn_r _ [57, 10, 58, 9, 59, 60, 61, 6, 62, 8, 63, 64, 65, 66, 67, 22, 68, 69, 70, 71, 72, 73, 74, 75, 76, 77, 23, 24, 25, 78, 79, 80, 81, 94, 95, 96, 97, 98, 99, 100, 101, 102, 103] (by decide +kernel) (by decide +kernel)
set_option maxRecDepth 20000 in
theorem gX4_stands_X0_solve : GoodIn wsX4_stands (wsV RX4 69 RX0 yX0_solve wsX0_solve) := goodIn_app (goodIn_of _ (by decide +kernel)) ggX4_stands_X0_solve
set_option maxRecDepth 20000 in
theorem ggX4_stands_X0_lostIn : GoodIn wsX4_stands wsX0_lostIn := goodIn_r _ [85, 58, 86, 87, 6, 88, 94, 95, 96, 97, 98, 99, 100, 101, 102, 103] (by decide +kernel) (by decide +kernel)
set_option maxRecDepth 20000 in
theorem gX4_stands_X0_lostIn : GoodIn wsX4_stands (wsV RX4 73 RX0 yX0_lostIn wsX0_lostIn) := goodIn_app (goodIn_of _ (by decide +kernel)) ggX4_stands_X0_lostIn
theorem dX4_stands_0 : decode cX4_stands 0 = .ok (.aload_n 1, 1) := by decide +kernel
theorem dX4_stands_1 : decode cX4_stands 1 = .ok (.invokevirtual 57, 3) := by decide +kernel
theorem dX4_stands_4 : decode cX4_stands 4 = .ok (.iconst 0, 1) := by decide +kernel
theorem dX4_stands_5 : decode cX4_stands 5 = .ok (.istore_n 3, 1) := by decide +kernel
theorem dX4_stands_6 : decode cX4_stands 6 = .ok (.iload_n 3, 1) := by decide +kernel
theorem dX4_stands_7 : decode cX4_stands 7 = .ok (.iload_n 2, 1) := by decide +kernel
theorem dX4_stands_8 : decode cX4_stands 8 = .ok (.if_icmp .ge 50, 3) := by decide +kernel
theorem dX4_stands_11 : decode cX4_stands 11 = .ok (.iload_n 3, 1) := by decide +kernel
theorem dX4_stands_12 : decode cX4_stands 12 = .ok (.iconst 4, 1) := by decide +kernel
theorem dX4_stands_13 : decode cX4_stands 13 = .ok (.if_icmp .ge 45, 3) := by decide +kernel
theorem dX4_stands_16 : decode cX4_stands 16 = .ok (.aload_n 0, 1) := by decide +kernel
theorem dX4_stands_17 : decode cX4_stands 17 = .ok (.getfield 17, 3) := by decide +kernel
theorem dX4_stands_20 : decode cX4_stands 20 = .ok (.iload_n 3, 1) := by decide +kernel
theorem dX4_stands_21 : decode cX4_stands 21 = .ok (.iaload, 1) := by decide +kernel
theorem dX4_stands_22 : decode cX4_stands 22 = .ok (.iconst 4, 1) := by decide +kernel
theorem dX4_stands_23 : decode cX4_stands 23 = .ok (.if_icmp .eq 29, 3) := by decide +kernel
theorem dX4_stands_26 : decode cX4_stands 26 = .ok (.aload_n 1, 1) := by decide +kernel
theorem dX4_stands_27 : decode cX4_stands 27 = .ok (.aload_n 0, 1) := by decide +kernel
theorem dX4_stands_28 : decode cX4_stands 28 = .ok (.getfield 13, 3) := by decide +kernel
theorem dX4_stands_31 : decode cX4_stands 31 = .ok (.iload_n 3, 1) := by decide +kernel
theorem dX4_stands_32 : decode cX4_stands 32 = .ok (.aaload, 1) := by decide +kernel
theorem dX4_stands_33 : decode cX4_stands 33 = .ok (.aload_n 0, 1) := by decide +kernel
theorem dX4_stands_34 : decode cX4_stands 34 = .ok (.getfield 13, 3) := by decide +kernel
theorem dX4_stands_37 : decode cX4_stands 37 = .ok (.iload_n 3, 1) := by decide +kernel
theorem dX4_stands_38 : decode cX4_stands 38 = .ok (.aaload, 1) := by decide +kernel
theorem dX4_stands_39 : decode cX4_stands 39 = .ok (.aload_n 0, 1) := by decide +kernel
theorem dX4_stands_40 : decode cX4_stands 40 = .ok (.getfield 17, 3) := by decide +kernel
theorem dX4_stands_43 : decode cX4_stands 43 = .ok (.iload_n 3, 1) := by decide +kernel
theorem dX4_stands_44 : decode cX4_stands 44 = .ok (.iaload, 1) := by decide +kernel
theorem dX4_stands_45 : decode cX4_stands 45 = .ok (.invokevirtual 62, 3) := by decide +kernel
theorem dX4_stands_48 : decode cX4_stands 48 = .ok (.iconst 0, 1) := by decide +kernel
theorem dX4_stands_49 : decode cX4_stands 49 = .ok (.invokevirtual 65, 3) := by decide +kernel
theorem dX4_stands_52 : decode cX4_stands 52 = .ok (.iinc 3 1, 3) := by decide +kernel
theorem dX4_stands_55 : decode cX4_stands 55 = .ok (.goto (-49), 3) := by decide +kernel
theorem dX4_stands_58 : decode cX4_stands 58 = .ok (.aload_n 1, 1) := by decide +kernel
theorem dX4_stands_59 : decode cX4_stands 59 = .ok (.iconst 0, 1) := by decide +kernel
theorem dX4_stands_60 : decode cX4_stands 60 = .ok (.invokevirtual 69, 3) := by decide +kernel
theorem dX4_stands_63 : decode cX4_stands 63 = .ok (.aload_n 1, 1) := by decide +kernel
theorem dX4_stands_64 : decode cX4_stands 64 = .ok (.iconst 0, 1) := by decide +kernel
theorem dX4_stands_65 : decode cX4_stands 65 = .ok (.invokevirtual 73, 3) := by decide +kernel
theorem dX4_stands_68 : decode cX4_stands 68 = .ok (.ifCond .ne 7, 3) := by decide +kernel
theorem dX4_stands_71 : decode cX4_stands 71 = .ok (.iconst 1, 1) := by decide +kernel
theorem dX4_stands_72 : decode cX4_stands 72 = .ok (.goto 4, 3) := by decide +kernel
theorem dX4_stands_75 : decode cX4_stands 75 = .ok (.iconst 0, 1) := by decide +kernel
theorem dX4_stands_76 : decode cX4_stands 76 = .ok (.ireturn, 1) := by decide +kernel
set_option maxRecDepth 20000 in
theorem ggX5_init_X3_init : GoodIn wsX5_init wsX3_init := goodIn_r _ [26, 27, 2, 3, 28, 29, 53, 54, 55, 56, 57, 58, 59, 60] (by decide +kernel) (by decide +kernel)
set_option maxRecDepth 20000 in
theorem gX5_init_X3_init_n9 : GoodIn wsX5_init (wsX3_init) := ggX5_init_X3_init
set_option maxRecDepth 20000 in
theorem ggX5_init_X2_init : GoodIn wsX5_init wsX2_init := goodIn_r _ [31, 32, 2, 3, 28, 33, 74, 75] (by decide +kernel) (by decide +kernel)
set_option maxRecDepth 20000 in
theorem gX5_init_X2_init_n28 : GoodIn wsX5_init (wsX2_init) := ggX5_init_X2_init
set_option maxRecDepth 20000 in
theorem ggX5_init_X0_init : GoodIn wsX5_init wsX0_init := goodIn_r _ [35, 36, 2, 3, 37, 38, 39, 28, 40, 41, 42, 43, 44, 45, 76, 77, 78, 79, 80, 81, 82, 83, 84, 85] (by decide +kernel) (by decide +kernel)
set_option maxRecDepth 20000 in
theorem gX5_init_X0_init_n35 : GoodIn wsX5_init (wsX0_init) := ggX5_init_X0_init
set_option maxRecDepth 20000 in
theorem ggX5_init_X4_init : GoodIn wsX5_init wsX4_init := goodIn_r _ [47, 48, 2, 3, 49, 50, 28, 51, 52, 86, 87, 88, 89, 90] (by decide +kernel) (by decide +kernel)
set_option maxRecDepth 20000 in
theorem gX5_init_X4_init_n45 : GoodIn wsX5_init (wsX4_init) := ggX5_init_X4_init
theorem dX5_init_0 : decode cX5_init 0 = .ok (.aload_n 0, 1) := by decide +kernel
theorem dX5_init_1 : decode cX5_init 1 = .ok (.invokespecial 1, 3) := by decide +kernel
theorem dX5_init_4 : decode cX5_init 4 = .ok (.aload_n 0, 1) := by decide +kernel
theorem dX5_init_5 : decode cX5_init 5 = .ok (.new 7, 3) := by decide +kernel
theorem dX5_init_8 : decode cX5_init 8 = .ok (.dup, 1) := by decide +kernel
theorem dX5_init_9 : decode cX5_init 9 = .ok (.invokespecial 9, 3) := by decide +kernel
theorem dX5_init_12 : decode cX5_init 12 = .ok (.putfield 10, 3) := by decide +kernel
theorem dX5_init_15 : decode cX5_init 15 = .ok (.aload_n 0, 1) := by decide +kernel
theorem dX5_init_16 : decode cX5_init 16 = .ok (.bipush 20, 2) := by decide +kernel
theorem dX5_init_18 : decode cX5_init 18 = .ok (.anewarray 16, 3) := by decide +kernel
theorem dX5_init_21 : decode cX5_init 21 = .ok (.putfield 18, 3) := by decide +kernel
theorem dX5_init_24 : decode cX5_init 24 = .ok (.aload_n 0, 1) := by decide +kernel
theorem dX5_init_25 : decode cX5_init 25 = .ok (.sipush 200, 3) := by decide +kernel
theorem dX5_init_28 : decode cX5_init 28 = .ok (.newarray .byte, 2) := by decide +kernel
theorem dX5_init_30 : decode cX5_init 30 = .ok (.putfield 22, 3) := by decide +kernel
theorem dX5_init_33 : decode cX5_init 33 = .ok (.aload_n 0, 1) := by decide +kernel
theorem dX5_init_34 : decode cX5_init 34 = .ok (.new 26, 3) := by decide +kernel
theorem dX5_init_37 : decode cX5_init 37 = .ok (.dup, 1) := by decide +kernel
theorem dX5_init_38 : decode cX5_init 38 = .ok (.invokespecial 28, 3) := by decide +kernel
theorem dX5_init_41 : decode cX5_init 41 = .ok (.putfield 29, 3) := by decide +kernel
theorem dX5_init_44 : decode cX5_init 44 = .ok (.aload_n 0, 1) := by decide +kernel
theorem dX5_init_45 : decode cX5_init 45 = .ok (.new 33, 3) := by decide +kernel
theorem dX5_init_48 : decode cX5_init 48 = .ok (.dup, 1) := by decide +kernel
theorem dX5_init_49 : decode cX5_init 49 = .ok (.invokespecial 35, 3) := by decide +kernel
theorem dX5_init_52 : decode cX5_init 52 = .ok (.putfield 36, 3) := by decide +kernel
theorem dX5_init_55 : decode cX5_init 55 = .ok (.aload_n 0, 1) := by decide +kernel
theorem dX5_init_56 : decode cX5_init 56 = .ok (.new 33, 3) := by decide +kernel
theorem dX5_init_59 : decode cX5_init 59 = .ok (.dup, 1) := by decide +kernel
theorem dX5_init_60 : decode cX5_init 60 = .ok (.invokespecial 35, 3) := by decide +kernel
theorem dX5_init_63 : decode cX5_init 63 = .ok (.putfield 40, 3) := by decide +kernel
theorem dX5_init_66 : decode cX5_init 66 = .ok (.aload_n 0, 1) := by decide +kernel
theorem dX5_init_67 : decode cX5_init 67 = .ok (.new 43, 3) := by decide +kernel
theorem dX5_init_70 : decode cX5_init 70 = .ok (.dup, 1) := by decide +kernel
theorem dX5_init_71 : decode cX5_init 71 = .ok (.invokespecial 45, 3) := by decide +kernel
theorem dX5_init_74 : decode cX5_init 74 = .ok (.putfield 46, 3) := by decide +kernel
theorem dX5_init_77 : decode cX5_init 77 = .ok (.return_, 1) := by decide +kernel
theorem dX5_today_0 : decode cX5_today 0 = .ok (.iload_n 1, 1) := by decide +kernel
theorem dX5_today_1 : decode cX5_today 1 = .ok (.aload_n 0, 1) := by decide +kernel
theorem dX5_today_2 : decode cX5_today 2 = .ok (.getfield 50, 3) := by decide +kernel
theorem dX5_today_5 : decode cX5_today 5 = .ok (.if_icmp .lt 10, 3) := by decide +kernel
theorem dX5_today_8 : decode cX5_today 8 = .ok (.iload_n 1, 1) := by decide +kernel
theorem dX5_today_9 : decode cX5_today 9 = .ok (.sipush 9999, 3) := by decide +kernel
theorem dX5_today_12 : decode cX5_today 12 = .ok (.if_icmp .le 5, 3) := by decide +kernel
theorem dX5_today_15 : decode cX5_today 15 = .ok (.iconst (-1), 1) := by decide +kernel
theorem dX5_today_16 : decode cX5_today 16 = .ok (.ireturn, 1) := by decide +kernel
theorem dX5_today_17 : decode cX5_today 17 = .ok (.aload_n 0, 1) := by decide +kernel
theorem dX5_today_18 : decode cX5_today 18 = .ok (.getfield 50, 3) := by decide +kernel
theorem dX5_today_21 : decode cX5_today 21 = .ok (.istore_n 2, 1) := by decide +kernel
theorem dX5_today_22 : decode cX5_today 22 = .ok (.aload_n 0, 1) := by decide +kernel
theorem dX5_today_23 : decode cX5_today 23 = .ok (.iload_n 1, 1) := by decide +kernel
theorem dX5_today_24 : decode cX5_today 24 = .ok (.putfield 50, 3) := by decide +kernel
theorem dX5_today_27 : decode cX5_today 27 = .ok (.iload_n 2, 1) := by decide +kernel
theorem dX5_today_28 : decode cX5_today 28 = .ok (.ireturn, 1) := by decide +kernel
set_option maxRecDepth 20000 in
theorem ggX5_feed_X3_take : GoodIn wsX5_feed wsX3_take := goodIn_r _ [7, 8, 9, 23, 24, 25, 26, 27, 28, 29, 30] (by decide +kernel) (by decide +kernel)
set_option maxRecDepth 20000 in
theorem gX5_feed_X3_take : GoodIn wsX5_feed (wsV RX5 54 RX3 yX3_take wsX3_take) := goodIn_app (goodIn_of _ (by decide +kernel)) ggX5_feed_X3_take
theorem dX5_feed_0 : decode cX5_feed 0 = .ok (.iload_n 1, 1) := by decide +kernel
theorem dX5_feed_1 : decode cX5_feed 1 = .ok (.iconst 1, 1) := by decide +kernel
theorem dX5_feed_2 : decode cX5_feed 2 = .ok (.if_icmp .lt 8, 3) := by decide +kernel
theorem dX5_feed_5 : decode cX5_feed 5 = .ok (.iload_n 1, 1) := by decide +kernel
theorem dX5_feed_6 : decode cX5_feed 6 = .ok (.iconst 4, 1) := by decide +kernel
theorem dX5_feed_7 : decode cX5_feed 7 = .ok (.if_icmp .le 5, 3) := by decide +kernel
theorem dX5_feed_10 : decode cX5_feed 10 = .ok (.iconst (-1), 1) := by decide +kernel
theorem dX5_feed_11 : decode cX5_feed 11 = .ok (.ireturn, 1) := by decide +kernel
theorem dX5_feed_12 : decode cX5_feed 12 = .ok (.aload_n 0, 1) := by decide +kernel
theorem dX5_feed_13 : decode cX5_feed 13 = .ok (.getfield 10, 3) := by decide +kernel
theorem dX5_feed_16 : decode cX5_feed 16 = .ok (.iload_n 1, 1) := by decide +kernel
theorem dX5_feed_17 : decode cX5_feed 17 = .ok (.iload_n 2, 1) := by decide +kernel
theorem dX5_feed_18 : decode cX5_feed 18 = .ok (.invokevirtual 54, 3) := by decide +kernel
theorem dX5_feed_21 : decode cX5_feed 21 = .ok (.ifCond .eq 13, 3) := by decide +kernel
theorem dX5_feed_24 : decode cX5_feed 24 = .ok (.aload_n 0, 1) := by decide +kernel
theorem dX5_feed_25 : decode cX5_feed 25 = .ok (.getfield 10, 3) := by decide +kernel
theorem dX5_feed_28 : decode cX5_feed 28 = .ok (.getfield 58, 3) := by decide +kernel
theorem dX5_feed_31 : decode cX5_feed 31 = .ok (.goto 5, 3) := by decide +kernel
theorem dX5_feed_34 : decode cX5_feed 34 = .ok (.bipush (-2), 2) := by decide +kernel
theorem dX5_feed_36 : decode cX5_feed 36 = .ok (.ireturn, 1) := by decide +kernel
set_option maxRecDepth 20000 in
theorem ggX5_want_X5_isWithin : GoodIn wsX5_want wsX5_isWithin := goodIn_r _ [12] (by decide +kernel) (by decide +kernel)
set_option maxRecDepth 20000 in
theorem gX5_want_X5_isWithin : GoodIn wsX5_want (va_wsS RX5 61 yX5_isWithin wsX5_isWithin) := goodIn_app (goodIn_of _ (by decide +kernel)) ggX5_want_X5_isWithin
set_option maxRecDepth 20000 in
theorem ggX5_want_X3_parse : GoodIn wsX5_want wsX3_parse := goodIn_r _ [17, 18, 19, 20, 21, 22, 23, 24, 25, 26, 16, 27, 28, 29, 30, 31, 32, 33, 34, 35, 36, 37, 38, 39, 40, 41, 42, 43, 44, 45, 46, 47, 48, 49, 50, 51, 52, 53, 54, 55, 56, 57, 58, 59, 60, 61, 62, 63, 64, 65, 66, 67, 68, 69, 70, 71, 72, 118, 119, 120, 121, 122, 123, 124, 125] (by decide +kernel) (by decide +kernel)
set_option maxRecDepth 20000 in
theorem gX5_want_X3_parse : GoodIn wsX5_want (wsV RX5 68 RX3 yX3_parse wsX3_parse) := goodIn_app (goodIn_of _ (by decide +kernel)) ggX5_want_X3_parse
set_option maxRecDepth 20000 in
theorem ggX5_want_X1_init : GoodIn wsX5_want wsX1_init := goodIn_r _ [75, 76, 77, 78, 79, 80, 81, 82, 83, 84, 85, 86, 87, 88, 89, 90, 91, 92, 93, 107, 108, 109, 110, 111, 112, 113, 114, 115, 116, 117, 118, 119, 120, 121, 122, 123, 124, 125] (by decide +kernel) (by decide +kernel)
set_option maxRecDepth 20000 in
theorem gX5_want_X1_init : GoodIn wsX5_want (wsX1_init) := ggX5_want_X1_init
theorem dX5_want_0 : decode cX5_want 0 = .ok (.iload_n 1, 1) := by decide +kernel
theorem dX5_want_1 : decode cX5_want 1 = .ok (.iconst 0, 1) := by decide +kernel
theorem dX5_want_2 : decode cX5_want 2 = .ok (.bipush 9, 2) := by decide +kernel
theorem dX5_want_4 : decode cX5_want 4 = .ok (.invokestatic 61, 3) := by decide +kernel
theorem dX5_want_7 : decode cX5_want 7 = .ok (.ifCond .eq 23, 3) := by decide +kernel
theorem dX5_want_10 : decode cX5_want 10 = .ok (.iload_n 2, 1) := by decide +kernel
theorem dX5_want_11 : decode cX5_want 11 = .ok (.iconst 1, 1) := by decide +kernel
theorem dX5_want_12 : decode cX5_want 12 = .ok (.bipush 99, 2) := by decide +kernel
theorem dX5_want_14 : decode cX5_want 14 = .ok (.invokestatic 61, 3) := by decide +kernel
theorem dX5_want_17 : decode cX5_want 17 = .ok (.ifCond .eq 13, 3) := by decide +kernel
theorem dX5_want_20 : decode cX5_want 20 = .ok (.iload_n 3, 1) := by decide +kernel
theorem dX5_want_21 : decode cX5_want 21 = .ok (.iconst 1, 1) := by decide +kernel
theorem dX5_want_22 : decode cX5_want 22 = .ok (.bipush 99, 2) := by decide +kernel
theorem dX5_want_24 : decode cX5_want 24 = .ok (.invokestatic 61, 3) := by decide +kernel
theorem dX5_want_27 : decode cX5_want 27 = .ok (.ifCond .ne 5, 3) := by decide +kernel
theorem dX5_want_30 : decode cX5_want 30 = .ok (.iconst (-1), 1) := by decide +kernel
theorem dX5_want_31 : decode cX5_want 31 = .ok (.ireturn, 1) := by decide +kernel
theorem dX5_want_32 : decode cX5_want 32 = .ok (.aload_n 0, 1) := by decide +kernel
theorem dX5_want_33 : decode cX5_want 33 = .ok (.getfield 65, 3) := by decide +kernel
theorem dX5_want_36 : decode cX5_want 36 = .ok (.bipush 20, 2) := by decide +kernel
theorem dX5_want_38 : decode cX5_want 38 = .ok (.if_icmp .lt 6, 3) := by decide +kernel
theorem dX5_want_41 : decode cX5_want 41 = .ok (.bipush (-2), 2) := by decide +kernel
theorem dX5_want_43 : decode cX5_want 43 = .ok (.ireturn, 1) := by decide +kernel
theorem dX5_want_44 : decode cX5_want 44 = .ok (.aload_n 0, 1) := by decide +kernel
theorem dX5_want_45 : decode cX5_want 45 = .ok (.getfield 10, 3) := by decide +kernel
theorem dX5_want_48 : decode cX5_want 48 = .ok (.invokevirtual 68, 3) := by decide +kernel
theorem dX5_want_51 : decode cX5_want 51 = .ok (.istore 4, 2) := by decide +kernel
theorem dX5_want_53 : decode cX5_want 53 = .ok (.iload 4, 2) := by decide +kernel
theorem dX5_want_55 : decode cX5_want 55 = .ok (.iconst (-1), 1) := by decide +kernel
theorem dX5_want_56 : decode cX5_want 56 = .ok (.if_icmp .ne 40, 3) := by decide +kernel
theorem dX5_want_59 : decode cX5_want 59 = .ok (.aload_n 0, 1) := by decide +kernel
theorem dX5_want_60 : decode cX5_want 60 = .ok (.getfield 18, 3) := by decide +kernel
theorem dX5_want_63 : decode cX5_want 63 = .ok (.aload_n 0, 1) := by decide +kernel
theorem dX5_want_64 : decode cX5_want 64 = .ok (.getfield 65, 3) := by decide +kernel
theorem dX5_want_67 : decode cX5_want 67 = .ok (.new 16, 3) := by decide +kernel
theorem dX5_want_70 : decode cX5_want 70 = .ok (.dup, 1) := by decide +kernel
theorem dX5_want_71 : decode cX5_want 71 = .ok (.aload_n 0, 1) := by decide +kernel
theorem dX5_want_72 : decode cX5_want 72 = .ok (.getfield 10, 3) := by decide +kernel
theorem dX5_want_75 : decode cX5_want 75 = .ok (.iload_n 1, 1) := by decide +kernel
theorem dX5_want_76 : decode cX5_want 76 = .ok (.iload_n 2, 1) := by decide +kernel
theorem dX5_want_77 : decode cX5_want 77 = .ok (.iload_n 3, 1) := by decide +kernel
theorem dX5_want_78 : decode cX5_want 78 = .ok (.aload_n 0, 1) := by decide +kernel
theorem dX5_want_79 : decode cX5_want 79 = .ok (.getfield 50, 3) := by decide +kernel
theorem dX5_want_82 : decode cX5_want 82 = .ok (.invokespecial 72, 3) := by decide +kernel
theorem dX5_want_85 : decode cX5_want 85 = .ok (.aastore, 1) := by decide +kernel
theorem dX5_want_86 : decode cX5_want 86 = .ok (.aload_n 0, 1) := by decide +kernel
theorem dX5_want_87 : decode cX5_want 87 = .ok (.dup, 1) := by decide +kernel
theorem dX5_want_88 : decode cX5_want 88 = .ok (.getfield 65, 3) := by decide +kernel
theorem dX5_want_91 : decode cX5_want 91 = .ok (.iconst 1, 1) := by decide +kernel
theorem dX5_want_92 : decode cX5_want 92 = .ok (.iadd, 1) := by decide +kernel
theorem dX5_want_93 : decode cX5_want 93 = .ok (.putfield 65, 3) := by decide +kernel
theorem dX5_want_96 : decode cX5_want 96 = .ok (.aload_n 0, 1) := by decide +kernel
theorem dX5_want_97 : decode cX5_want 97 = .ok (.getfield 10, 3) := by decide +kernel
theorem dX5_want_100 : decode cX5_want 100 = .ok (.iconst 0, 1) := by decide +kernel
theorem dX5_want_101 : decode cX5_want 101 = .ok (.putfield 58, 3) := by decide +kernel
theorem dX5_want_104 : decode cX5_want 104 = .ok (.iload 4, 2) := by decide +kernel
theorem dX5_want_106 : decode cX5_want 106 = .ok (.iconst (-1), 1) := by decide +kernel
theorem dX5_want_107 : decode cX5_want 107 = .ok (.if_icmp .ne 12, 3) := by decide +kernel
theorem dX5_want_110 : decode cX5_want 110 = .ok (.aload_n 0, 1) := by decide +kernel
theorem dX5_want_111 : decode cX5_want 111 = .ok (.getfield 65, 3) := by decide +kernel
theorem dX5_want_114 : decode cX5_want 114 = .ok (.iconst 1, 1) := by decide +kernel
theorem dX5_want_115 : decode cX5_want 115 = .ok (.isub, 1) := by decide +kernel
theorem dX5_want_116 : decode cX5_want 116 = .ok (.goto 8, 3) := by decide +kernel
theorem dX5_want_119 : decode cX5_want 119 = .ok (.bipush (-100), 2) := by decide +kernel
theorem dX5_want_121 : decode cX5_want 121 = .ok (.iload 4, 2) := by decide +kernel
theorem dX5_want_123 : decode cX5_want 123 = .ok (.isub, 1) := by decide +kernel
theorem dX5_want_124 : decode cX5_want 124 = .ok (.ireturn, 1) := by decide +kernel
set_option maxRecDepth 20000 in
theorem ggX5_giveUp_X5_lawOf : GoodIn wsX5_giveUp wsX5_lawOf := goodIn_r _ [7, 8, 9, 10, 11, 6, 12, 24, 25, 26, 27, 28, 29, 30, 31, 32, 33, 34, 35, 36] (by decide +kernel) (by decide +kernel)
set_option maxRecDepth 20000 in
theorem gX5_giveUp_X5_lawOf : GoodIn wsX5_giveUp (wsV RX5 75 RX5 yX5_lawOf wsX5_lawOf) := goodIn_app (goodIn_of _ (by decide +kernel)) ggX5_giveUp_X5_lawOf
theorem dX5_giveUp_0 : decode cX5_giveUp 0 = .ok (.aload_n 0, 1) := by decide +kernel
theorem dX5_giveUp_1 : decode cX5_giveUp 1 = .ok (.iload_n 1, 1) := by decide +kernel
theorem dX5_giveUp_2 : decode cX5_giveUp 2 = .ok (.invokevirtual 75, 3) := by decide +kernel
theorem dX5_giveUp_5 : decode cX5_giveUp 5 = .ok (.astore_n 2, 1) := by decide +kernel
theorem dX5_giveUp_6 : decode cX5_giveUp 6 = .ok (.aload_n 2, 1) := by decide +kernel
theorem dX5_giveUp_7 : decode cX5_giveUp 7 = .ok (.ifnonnull 5, 3) := by decide +kernel
theorem dX5_giveUp_10 : decode cX5_giveUp 10 = .ok (.iconst (-1), 1) := by decide +kernel
theorem dX5_giveUp_11 : decode cX5_giveUp 11 = .ok (.ireturn, 1) := by decide +kernel
theorem dX5_giveUp_12 : decode cX5_giveUp 12 = .ok (.aload_n 2, 1) := by decide +kernel
theorem dX5_giveUp_13 : decode cX5_giveUp 13 = .ok (.getfield 79, 3) := by decide +kernel
theorem dX5_giveUp_16 : decode cX5_giveUp 16 = .ok (.ifCond .lt 6, 3) := by decide +kernel
theorem dX5_giveUp_19 : decode cX5_giveUp 19 = .ok (.bipush (-3), 2) := by decide +kernel
theorem dX5_giveUp_21 : decode cX5_giveUp 21 = .ok (.ireturn, 1) := by decide +kernel
theorem dX5_giveUp_22 : decode cX5_giveUp 22 = .ok (.aload_n 2, 1) := by decide +kernel
theorem dX5_giveUp_23 : decode cX5_giveUp 23 = .ok (.aload_n 0, 1) := by decide +kernel
theorem dX5_giveUp_24 : decode cX5_giveUp 24 = .ok (.getfield 50, 3) := by decide +kernel
theorem dX5_giveUp_27 : decode cX5_giveUp 27 = .ok (.putfield 79, 3) := by decide +kernel
theorem dX5_giveUp_30 : decode cX5_giveUp 30 = .ok (.iconst 1, 1) := by decide +kernel
theorem dX5_giveUp_31 : decode cX5_giveUp 31 = .ok (.ireturn, 1) := by decide +kernel
set_option maxRecDepth 20000 in
theorem ggX5_about_X5_lawOf : GoodIn wsX5_about wsX5_lawOf := goodIn_r _ [14, 15, 16, 17, 18, 13, 19, 38, 39, 40, 41, 42, 43, 44, 45, 46, 47, 48, 49, 50] (by decide +kernel) (by decide +kernel)
set_option maxRecDepth 20000 in
theorem gX5_about_X5_lawOf : GoodIn wsX5_about (wsV RX5 75 RX5 yX5_lawOf wsX5_lawOf) := goodIn_app (goodIn_of _ (by decide +kernel)) ggX5_about_X5_lawOf
set_option maxRecDepth 20000 in
theorem ggX5_about_J6_bitCount_0f7a4 : GoodIn wsX5_about wsJ6_bitCount_0f7a4 := goodIn_r _ [23, 24, 25, 26] (by decide +kernel) (by decide +kernel)
set_option maxRecDepth 20000 in
theorem gX5_about_J6_bitCount_0f7a4 : GoodIn wsX5_about (va_wsS RX5 101 yJ6_bitCount_0f7a4 wsJ6_bitCount_0f7a4) := goodIn_app (goodIn_of _ (by decide +kernel)) ggX5_about_J6_bitCount_0f7a4
theorem dX5_about_0 : decode cX5_about 0 = .ok (.aload_n 0, 1) := by decide +kernel
theorem dX5_about_1 : decode cX5_about 1 = .ok (.iload_n 1, 1) := by decide +kernel
theorem dX5_about_2 : decode cX5_about 2 = .ok (.invokevirtual 75, 3) := by decide +kernel
theorem dX5_about_5 : decode cX5_about 5 = .ok (.astore_n 3, 1) := by decide +kernel
theorem dX5_about_6 : decode cX5_about 6 = .ok (.aload_n 3, 1) := by decide +kernel
theorem dX5_about_7 : decode cX5_about 7 = .ok (.ifnonnull 5, 3) := by decide +kernel
theorem dX5_about_10 : decode cX5_about 10 = .ok (.iconst (-1), 1) := by decide +kernel
theorem dX5_about_11 : decode cX5_about 11 = .ok (.ireturn, 1) := by decide +kernel
theorem dX5_about_12 : decode cX5_about 12 = .ok (.iload_n 2, 1) := by decide +kernel
theorem dX5_about_13 : decode cX5_about 13 = .ok (.tableswitch 99 0 8 #[51, 56, 61, 66, 71, 76, 81, 86, 94], 51) := by decide +kernel
theorem dX5_about_64 : decode cX5_about 64 = .ok (.aload_n 3, 1) := by decide +kernel
theorem dX5_about_65 : decode cX5_about 65 = .ok (.getfield 82, 3) := by decide +kernel
theorem dX5_about_68 : decode cX5_about 68 = .ok (.ireturn, 1) := by decide +kernel
theorem dX5_about_69 : decode cX5_about 69 = .ok (.aload_n 3, 1) := by decide +kernel
theorem dX5_about_70 : decode cX5_about 70 = .ok (.getfield 85, 3) := by decide +kernel
theorem dX5_about_73 : decode cX5_about 73 = .ok (.ireturn, 1) := by decide +kernel
theorem dX5_about_74 : decode cX5_about 74 = .ok (.aload_n 3, 1) := by decide +kernel
theorem dX5_about_75 : decode cX5_about 75 = .ok (.getfield 88, 3) := by decide +kernel
theorem dX5_about_78 : decode cX5_about 78 = .ok (.ireturn, 1) := by decide +kernel
theorem dX5_about_79 : decode cX5_about 79 = .ok (.aload_n 3, 1) := by decide +kernel
theorem dX5_about_80 : decode cX5_about 80 = .ok (.getfield 91, 3) := by decide +kernel
theorem dX5_about_83 : decode cX5_about 83 = .ok (.ireturn, 1) := by decide +kernel
theorem dX5_about_84 : decode cX5_about 84 = .ok (.aload_n 3, 1) := by decide +kernel
theorem dX5_about_85 : decode cX5_about 85 = .ok (.getfield 94, 3) := by decide +kernel
theorem dX5_about_88 : decode cX5_about 88 = .ok (.ireturn, 1) := by decide +kernel
theorem dX5_about_89 : decode cX5_about 89 = .ok (.aload_n 3, 1) := by decide +kernel
theorem dX5_about_90 : decode cX5_about 90 = .ok (.getfield 97, 3) := by decide +kernel
theorem dX5_about_93 : decode cX5_about 93 = .ok (.ireturn, 1) := by decide +kernel
theorem dX5_about_94 : decode cX5_about 94 = .ok (.aload_n 3, 1) := by decide +kernel
theorem dX5_about_95 : decode cX5_about 95 = .ok (.getfield 79, 3) := by decide +kernel
theorem dX5_about_98 : decode cX5_about 98 = .ok (.ireturn, 1) := by decide +kernel
theorem dX5_about_99 : decode cX5_about 99 = .ok (.aload_n 3, 1) := by decide +kernel
theorem dX5_about_100 : decode cX5_about 100 = .ok (.getfield 98, 3) := by decide +kernel
theorem dX5_about_103 : decode cX5_about 103 = .ok (.invokestatic 101, 3) := by decide +kernel
theorem dX5_about_106 : decode cX5_about 106 = .ok (.ireturn, 1) := by decide +kernel
theorem dX5_about_107 : decode cX5_about 107 = .ok (.aload_n 3, 1) := by decide +kernel
theorem dX5_about_108 : decode cX5_about 108 = .ok (.getfield 107, 3) := by decide +kernel
theorem dX5_about_111 : decode cX5_about 111 = .ok (.ireturn, 1) := by decide +kernel
theorem dX5_about_112 : decode cX5_about 112 = .ok (.iconst (-1), 1) := by decide +kernel
theorem dX5_about_113 : decode cX5_about 113 = .ok (.ireturn, 1) := by decide +kernel
set_option maxRecDepth 20000 in
theorem ggX5_holds_X5_lawOf : GoodIn wsX5_holds wsX5_lawOf := goodIn_r _ [8, 9, 10, 11, 12, 7, 13, 35, 36, 37, 38, 39, 40, 41, 42, 43, 44, 45, 46, 47] (by decide +kernel) (by decide +kernel)
set_option maxRecDepth 20000 in
theorem gX5_holds_X5_lawOf : GoodIn wsX5_holds (wsV RX5 75 RX5 yX5_lawOf wsX5_lawOf) := goodIn_app (goodIn_of _ (by decide +kernel)) ggX5_holds_X5_lawOf
set_option maxRecDepth 20000 in
theorem ggX5_holds_X5_isBit : GoodIn wsX5_holds wsX5_isBit := goodIn_r _ [16] (by decide +kernel) (by decide +kernel)
set_option maxRecDepth 20000 in
theorem gX5_holds_X5_isBit : GoodIn wsX5_holds (va_wsS RX5 110 yX5_isBit wsX5_isBit) := goodIn_app (goodIn_of _ (by decide +kernel)) ggX5_holds_X5_isBit
set_option maxRecDepth 20000 in
theorem ggX5_holds_X5_isWithin : GoodIn wsX5_holds wsX5_isWithin := goodIn_r _ [13] (by decide +kernel) (by decide +kernel)
set_option maxRecDepth 20000 in
theorem gX5_holds_X5_isWithin : GoodIn wsX5_holds (va_wsS RX5 61 yX5_isWithin wsX5_isWithin) := goodIn_app (goodIn_of _ (by decide +kernel)) ggX5_holds_X5_isWithin
set_option maxRecDepth 20000 in
theorem ggX5_holds_X1_has : GoodIn wsX5_holds wsX1_has := goodIn_r _ [20] (by decide +kernel) (by decide +kernel)
set_option maxRecDepth 20000 in
theorem gX5_holds_X1_has : GoodIn wsX5_holds (va_wsS RX5 121 yX1_has wsX1_has) := goodIn_app (goodIn_of _ (by decide +kernel)) ggX5_holds_X1_has
set_option maxRecDepth 20000 in
theorem ggX5_holds_X5_bit : GoodIn wsX5_holds wsX5_bit := goodIn_r _ [23] (by decide +kernel) (by decide +kernel)
set_option maxRecDepth 20000 in
theorem gX5_holds_X5_bit : GoodIn wsX5_holds (va_wsS RX5 125 yX5_bit wsX5_bit) := goodIn_app (goodIn_of _ (by decide +kernel)) ggX5_holds_X5_bit
theorem dX5_holds_0 : decode cX5_holds 0 = .ok (.aload_n 0, 1) := by decide +kernel
theorem dX5_holds_1 : decode cX5_holds 1 = .ok (.iload_n 1, 1) := by decide +kernel
theorem dX5_holds_2 : decode cX5_holds 2 = .ok (.invokevirtual 75, 3) := by decide +kernel
theorem dX5_holds_5 : decode cX5_holds 5 = .ok (.astore 5, 2) := by decide +kernel
theorem dX5_holds_7 : decode cX5_holds 7 = .ok (.aload 5, 2) := by decide +kernel
theorem dX5_holds_9 : decode cX5_holds 9 = .ok (.ifnull 31, 3) := by decide +kernel
theorem dX5_holds_12 : decode cX5_holds 12 = .ok (.iload_n 2, 1) := by decide +kernel
theorem dX5_holds_13 : decode cX5_holds 13 = .ok (.invokestatic 110, 3) := by decide +kernel
theorem dX5_holds_16 : decode cX5_holds 16 = .ok (.ifCond .eq 24, 3) := by decide +kernel
theorem dX5_holds_19 : decode cX5_holds 19 = .ok (.iload_n 3, 1) := by decide +kernel
theorem dX5_holds_20 : decode cX5_holds 20 = .ok (.iconst 0, 1) := by decide +kernel
theorem dX5_holds_21 : decode cX5_holds 21 = .ok (.bipush 7, 2) := by decide +kernel
theorem dX5_holds_23 : decode cX5_holds 23 = .ok (.invokestatic 61, 3) := by decide +kernel
theorem dX5_holds_26 : decode cX5_holds 26 = .ok (.ifCond .eq 14, 3) := by decide +kernel
theorem dX5_holds_29 : decode cX5_holds 29 = .ok (.iload 4, 2) := by decide +kernel
theorem dX5_holds_31 : decode cX5_holds 31 = .ok (.iconst 0, 1) := by decide +kernel
theorem dX5_holds_32 : decode cX5_holds 32 = .ok (.bipush 7, 2) := by decide +kernel
theorem dX5_holds_34 : decode cX5_holds 34 = .ok (.invokestatic 61, 3) := by decide +kernel
theorem dX5_holds_37 : decode cX5_holds 37 = .ok (.ifCond .ne 5, 3) := by decide +kernel
theorem dX5_holds_40 : decode cX5_holds 40 = .ok (.iconst (-1), 1) := by decide +kernel
theorem dX5_holds_41 : decode cX5_holds 41 = .ok (.ireturn, 1) := by decide +kernel
theorem dX5_holds_42 : decode cX5_holds 42 = .ok (.iload_n 2, 1) := by decide +kernel
theorem dX5_holds_43 : decode cX5_holds 43 = .ok (.iconst 1, 1) := by decide +kernel
theorem dX5_holds_44 : decode cX5_holds 44 = .ok (.if_icmp .ne 13, 3) := by decide +kernel
theorem dX5_holds_47 : decode cX5_holds 47 = .ok (.aload 5, 2) := by decide +kernel
theorem dX5_holds_49 : decode cX5_holds 49 = .ok (.getfield 82, 3) := by decide +kernel
theorem dX5_holds_52 : decode cX5_holds 52 = .ok (.ifCond .ne 5, 3) := by decide +kernel
theorem dX5_holds_55 : decode cX5_holds 55 = .ok (.iconst (-1), 1) := by decide +kernel
theorem dX5_holds_56 : decode cX5_holds 56 = .ok (.ireturn, 1) := by decide +kernel
theorem dX5_holds_57 : decode cX5_holds 57 = .ok (.iload_n 2, 1) := by decide +kernel
theorem dX5_holds_58 : decode cX5_holds 58 = .ok (.ifCond .ne 11, 3) := by decide +kernel
theorem dX5_holds_61 : decode cX5_holds 61 = .ok (.aload 5, 2) := by decide +kernel
theorem dX5_holds_63 : decode cX5_holds 63 = .ok (.getfield 114, 3) := by decide +kernel
theorem dX5_holds_66 : decode cX5_holds 66 = .ok (.goto 8, 3) := by decide +kernel
theorem dX5_holds_69 : decode cX5_holds 69 = .ok (.aload 5, 2) := by decide +kernel
theorem dX5_holds_71 : decode cX5_holds 71 = .ok (.getfield 118, 3) := by decide +kernel
theorem dX5_holds_74 : decode cX5_holds 74 = .ok (.lstore 6, 2) := by decide +kernel
theorem dX5_holds_76 : decode cX5_holds 76 = .ok (.lload 6, 2) := by decide +kernel
theorem dX5_holds_78 : decode cX5_holds 78 = .ok (.bipush 8, 2) := by decide +kernel
theorem dX5_holds_80 : decode cX5_holds 80 = .ok (.iload_n 3, 1) := by decide +kernel
theorem dX5_holds_81 : decode cX5_holds 81 = .ok (.imul, 1) := by decide +kernel
theorem dX5_holds_82 : decode cX5_holds 82 = .ok (.iload 4, 2) := by decide +kernel
theorem dX5_holds_84 : decode cX5_holds 84 = .ok (.iadd, 1) := by decide +kernel
theorem dX5_holds_85 : decode cX5_holds 85 = .ok (.invokestatic 121, 3) := by decide +kernel
theorem dX5_holds_88 : decode cX5_holds 88 = .ok (.invokestatic 125, 3) := by decide +kernel
theorem dX5_holds_91 : decode cX5_holds 91 = .ok (.ireturn, 1) := by decide +kernel
set_option maxRecDepth 20000 in
theorem ggX5_next_X5_lawOf : GoodIn wsX5_next wsX5_lawOf := goodIn_r _ [5, 6, 7, 8, 9, 4, 10, 44, 45, 46, 47, 48, 49, 50, 51, 52, 53, 54, 55, 56] (by decide +kernel) (by decide +kernel)
set_option maxRecDepth 20000 in
theorem gX5_next_X5_lawOf : GoodIn wsX5_next (wsV RX5 75 RX5 yX5_lawOf wsX5_lawOf) := goodIn_app (goodIn_of _ (by decide +kernel)) ggX5_next_X5_lawOf
set_option maxRecDepth 20000 in
theorem ggX5_next_X5_isWithin : GoodIn wsX5_next wsX5_isWithin := goodIn_r _ [10] (by decide +kernel) (by decide +kernel)
set_option maxRecDepth 20000 in
theorem gX5_next_X5_isWithin : GoodIn wsX5_next (va_wsS RX5 61 yX5_isWithin wsX5_isWithin) := goodIn_app (goodIn_of _ (by decide +kernel)) ggX5_next_X5_isWithin
set_option maxRecDepth 20000 in
theorem ggX5_next_X1_after : GoodIn wsX5_next wsX1_after := goodIn_r _ [15, 16, 17, 18, 19, 14, 20, 21, 22, 23, 24, 25, 26, 27, 28, 29, 30, 31, 32, 33, 34, 35, 36, 37, 38, 39, 40, 41, 42, 43, 57, 58, 59, 60, 61, 62, 63, 64, 65, 66, 67] (by decide +kernel) (by decide +kernel)
set_option maxRecDepth 20000 in
theorem gX5_next_X1_after : GoodIn wsX5_next (wsV RX5 129 RX1 yX1_after wsX1_after) := goodIn_app (goodIn_of _ (by decide +kernel)) ggX5_next_X1_after
theorem dX5_next_0 : decode cX5_next 0 = .ok (.aload_n 0, 1) := by decide +kernel
theorem dX5_next_1 : decode cX5_next 1 = .ok (.iload_n 1, 1) := by decide +kernel
theorem dX5_next_2 : decode cX5_next 2 = .ok (.invokevirtual 75, 3) := by decide +kernel
theorem dX5_next_5 : decode cX5_next 5 = .ok (.astore 4, 2) := by decide +kernel
theorem dX5_next_7 : decode cX5_next 7 = .ok (.aload 4, 2) := by decide +kernel
theorem dX5_next_9 : decode cX5_next 9 = .ok (.ifnull 22, 3) := by decide +kernel
theorem dX5_next_12 : decode cX5_next 12 = .ok (.iload_n 2, 1) := by decide +kernel
theorem dX5_next_13 : decode cX5_next 13 = .ok (.iconst 0, 1) := by decide +kernel
theorem dX5_next_14 : decode cX5_next 14 = .ok (.iconst 3, 1) := by decide +kernel
theorem dX5_next_15 : decode cX5_next 15 = .ok (.invokestatic 61, 3) := by decide +kernel
theorem dX5_next_18 : decode cX5_next 18 = .ok (.ifCond .eq 13, 3) := by decide +kernel
theorem dX5_next_21 : decode cX5_next 21 = .ok (.iload_n 3, 1) := by decide +kernel
theorem dX5_next_22 : decode cX5_next 22 = .ok (.iconst 0, 1) := by decide +kernel
theorem dX5_next_23 : decode cX5_next 23 = .ok (.bipush 63, 2) := by decide +kernel
theorem dX5_next_25 : decode cX5_next 25 = .ok (.invokestatic 61, 3) := by decide +kernel
theorem dX5_next_28 : decode cX5_next 28 = .ok (.ifCond .ne 5, 3) := by decide +kernel
theorem dX5_next_31 : decode cX5_next 31 = .ok (.iconst (-1), 1) := by decide +kernel
theorem dX5_next_32 : decode cX5_next 32 = .ok (.ireturn, 1) := by decide +kernel
theorem dX5_next_33 : decode cX5_next 33 = .ok (.aload 4, 2) := by decide +kernel
theorem dX5_next_35 : decode cX5_next 35 = .ok (.iload_n 2, 1) := by decide +kernel
theorem dX5_next_36 : decode cX5_next 36 = .ok (.iload_n 3, 1) := by decide +kernel
theorem dX5_next_37 : decode cX5_next 37 = .ok (.invokevirtual 129, 3) := by decide +kernel
theorem dX5_next_40 : decode cX5_next 40 = .ok (.istore 5, 2) := by decide +kernel
theorem dX5_next_42 : decode cX5_next 42 = .ok (.iload 5, 2) := by decide +kernel
theorem dX5_next_44 : decode cX5_next 44 = .ok (.iconst (-1), 1) := by decide +kernel
theorem dX5_next_45 : decode cX5_next 45 = .ok (.if_icmp .ne 8, 3) := by decide +kernel
theorem dX5_next_48 : decode cX5_next 48 = .ok (.bipush (-4), 2) := by decide +kernel
theorem dX5_next_50 : decode cX5_next 50 = .ok (.goto 5, 3) := by decide +kernel
theorem dX5_next_53 : decode cX5_next 53 = .ok (.iload 5, 2) := by decide +kernel
theorem dX5_next_55 : decode cX5_next 55 = .ok (.ireturn, 1) := by decide +kernel
set_option maxRecDepth 20000 in
theorem ggX5_can_X5_isSet : GoodIn wsX5_can wsX5_isSet := goodIn_r _ [5, 6, 7, 8, 9, 10, 11, 12, 13, 112, 113, 114, 115, 116, 117, 118, 119, 120, 121, 122, 123, 124] (by decide +kernel) (by decide +kernel)
set_option maxRecDepth 20000 in
theorem gX5_can_X5_isSet : GoodIn wsX5_can (wsV RX5 133 RX5 yX5_isSet wsX5_isSet) := goodIn_app (goodIn_of _ (by decide +kernel)) ggX5_can_X5_isSet
set_option maxRecDepth 20000 in
theorem ggX5_can_X5_isObeyable : GoodIn wsX5_can wsX5_isObeyable := goodIn_r _ [17, 18, 19, 20, 21, 4, 22, 6, 23, 24, 25, 26, 27, 28, 29, 30, 31, 32, 33, 34, 35, 36, 37, 38, 39, 40, 41, 42, 43, 44, 45, 46, 47, 48, 49, 50, 51, 52, 53, 54, 55, 56, 57, 58, 59, 60, 61, 62, 63, 64, 65, 66, 67, 68, 69, 70, 71, 72, 73, 74, 75, 76, 77, 78, 79, 80, 81, 82, 83, 84, 85, 86, 87, 88, 89, 90, 91, 92, 93, 94, 95, 96, 97, 98, 99, 100, 101, 102, 103, 104, 105, 106, 107, 108, 112, 113, 114, 115, 116, 117, 118, 119, 120, 121, 122, 123, 124, 125, 126, 127, 128, 129, 130, 131, 132, 133, 134, 135, 136, 137, 138, 139, 140, 141, 142, 143, 144, 145] (by decide +kernel) (by decide +kernel)
set_option maxRecDepth 20000 in
theorem gX5_can_X5_isObeyable : GoodIn wsX5_can (wsV RX5 136 RX5 yX5_isObeyable wsX5_isObeyable) := goodIn_app (goodIn_of _ (by decide +kernel)) ggX5_can_X5_isObeyable
set_option maxRecDepth 20000 in
theorem ggX5_can_X5_bit : GoodIn wsX5_can wsX5_bit := goodIn_r _ [111] (by decide +kernel) (by decide +kernel)
set_option maxRecDepth 20000 in
theorem gX5_can_X5_bit : GoodIn wsX5_can (va_wsS RX5 125 yX5_bit wsX5_bit) := goodIn_app (goodIn_of _ (by decide +kernel)) ggX5_can_X5_bit
theorem dX5_can_0 : decode cX5_can 0 = .ok (.aload_n 0, 1) := by decide +kernel
theorem dX5_can_1 : decode cX5_can 1 = .ok (.iload_n 1, 1) := by decide +kernel
theorem dX5_can_2 : decode cX5_can 2 = .ok (.iconst 5, 1) := by decide +kernel
theorem dX5_can_3 : decode cX5_can 3 = .ok (.invokevirtual 133, 3) := by decide +kernel
theorem dX5_can_6 : decode cX5_can 6 = .ok (.ifCond .ne 5, 3) := by decide +kernel
theorem dX5_can_9 : decode cX5_can 9 = .ok (.iconst (-1), 1) := by decide +kernel
theorem dX5_can_10 : decode cX5_can 10 = .ok (.ireturn, 1) := by decide +kernel
theorem dX5_can_11 : decode cX5_can 11 = .ok (.aload_n 0, 1) := by decide +kernel
theorem dX5_can_12 : decode cX5_can 12 = .ok (.iload_n 1, 1) := by decide +kernel
theorem dX5_can_13 : decode cX5_can 13 = .ok (.invokevirtual 136, 3) := by decide +kernel
theorem dX5_can_16 : decode cX5_can 16 = .ok (.invokestatic 125, 3) := by decide +kernel
theorem dX5_can_19 : decode cX5_can 19 = .ok (.ireturn, 1) := by decide +kernel
set_option maxRecDepth 20000 in
theorem ggX5_safe_X5_isSet : GoodIn wsX5_safe wsX5_isSet := goodIn_r _ [6, 7, 8, 9, 10, 11, 12, 13, 14, 107, 108, 109, 110, 111, 112, 113, 114, 115, 116, 117, 118, 119] (by decide +kernel) (by decide +kernel)
set_option maxRecDepth 20000 in
theorem gX5_safe_X5_isSet : GoodIn wsX5_safe (wsV RX5 133 RX5 yX5_isSet wsX5_isSet) := goodIn_app (goodIn_of _ (by decide +kernel)) ggX5_safe_X5_isSet
set_option maxRecDepth 20000 in
theorem ggX5_safe_X5_lay : GoodIn wsX5_safe wsX5_lay := goodIn_r _ [18, 7, 19, 20, 21, 22, 23, 24, 25, 26, 27, 28, 29, 30, 5, 31, 32, 33, 34, 35, 36, 37, 38, 39, 40, 41, 42, 43, 44, 45, 46, 47, 48, 49, 50, 51, 52, 53, 54, 55, 56, 57, 58, 59, 60, 61, 62, 63, 64, 65, 66, 67, 68, 69, 107, 108, 109, 110, 111, 112, 113, 114, 115, 116, 117, 118, 119, 120, 121, 122, 123, 124, 125, 126, 127, 128, 129, 130, 131, 132, 133, 134, 135, 136, 137, 138, 139, 140] (by decide +kernel) (by decide +kernel)
set_option maxRecDepth 20000 in
theorem gX5_safe_X5_lay : GoodIn wsX5_safe (wsV RX5 139 RX5 yX5_lay wsX5_lay) := goodIn_app (goodIn_of _ (by decide +kernel)) ggX5_safe_X5_lay
set_option maxRecDepth 20000 in
theorem ggX5_safe_X0_solve : GoodIn wsX5_safe wsX0_solve := goodIn_r _ [73, 28, 74, 27, 75, 76, 77, 24, 78, 26, 79, 80, 81, 82, 83, 36, 84, 85, 86, 87, 88, 89, 90, 91, 92, 93, 37, 38, 39, 94, 95, 96, 97, 131, 132, 133, 134, 135, 136, 137, 138, 139, 140] (by decide +kernel) (by decide +kernel)
set_option maxRecDepth 20000 in
theorem gX5_safe_X0_solve : GoodIn wsX5_safe (wsV RX5 143 RX0 yX0_solve wsX0_solve) := goodIn_app (goodIn_of _ (by decide +kernel)) ggX5_safe_X0_solve
set_option maxRecDepth 20000 in
theorem ggX5_safe_X0_safePlaces : GoodIn wsX5_safe wsX0_safePlaces := goodIn_r _ [101, 28, 131, 132, 133, 134, 135, 136, 137, 138, 139, 140] (by decide +kernel) (by decide +kernel)
set_option maxRecDepth 20000 in
theorem gX5_safe_X0_safePlaces : GoodIn wsX5_safe (wsV RX5 147 RX0 yX0_safePlaces wsX0_safePlaces) := goodIn_app (goodIn_of _ (by decide +kernel)) ggX5_safe_X0_safePlaces
set_option maxRecDepth 20000 in
theorem ggX5_safe_X5_placesOfNevers : GoodIn wsX5_safe wsX5_placesOfNevers := goodIn_r _ [105, 7, 19, 106, 29, 30, 5, 31, 107, 108, 109, 110, 111, 112, 113, 114, 115, 116, 117, 118, 119, 120, 121, 122, 123, 124, 125, 126, 127, 128, 129, 130] (by decide +kernel) (by decide +kernel)
set_option maxRecDepth 20000 in
theorem gX5_safe_X5_placesOfNevers : GoodIn wsX5_safe (wsV RX5 150 RX5 yX5_placesOfNevers wsX5_placesOfNevers) := goodIn_app (goodIn_of _ (by decide +kernel)) ggX5_safe_X5_placesOfNevers
theorem dX5_safe_0 : decode cX5_safe 0 = .ok (.aload_n 0, 1) := by decide +kernel
theorem dX5_safe_1 : decode cX5_safe 1 = .ok (.iload_n 1, 1) := by decide +kernel
theorem dX5_safe_2 : decode cX5_safe 2 = .ok (.iconst 5, 1) := by decide +kernel
theorem dX5_safe_3 : decode cX5_safe 3 = .ok (.invokevirtual 133, 3) := by decide +kernel
theorem dX5_safe_6 : decode cX5_safe 6 = .ok (.ifCond .ne 5, 3) := by decide +kernel
theorem dX5_safe_9 : decode cX5_safe 9 = .ok (.iconst (-1), 1) := by decide +kernel
theorem dX5_safe_10 : decode cX5_safe 10 = .ok (.ireturn, 1) := by decide +kernel
theorem dX5_safe_11 : decode cX5_safe 11 = .ok (.aload_n 0, 1) := by decide +kernel
theorem dX5_safe_12 : decode cX5_safe 12 = .ok (.aload_n 0, 1) := by decide +kernel
theorem dX5_safe_13 : decode cX5_safe 13 = .ok (.getfield 36, 3) := by decide +kernel
theorem dX5_safe_16 : decode cX5_safe 16 = .ok (.iload_n 1, 1) := by decide +kernel
theorem dX5_safe_17 : decode cX5_safe 17 = .ok (.iconst 1, 1) := by decide +kernel
theorem dX5_safe_18 : decode cX5_safe 18 = .ok (.invokevirtual 139, 3) := by decide +kernel
theorem dX5_safe_21 : decode cX5_safe 21 = .ok (.aload_n 0, 1) := by decide +kernel
theorem dX5_safe_22 : decode cX5_safe 22 = .ok (.getfield 36, 3) := by decide +kernel
theorem dX5_safe_25 : decode cX5_safe 25 = .ok (.iconst 1, 1) := by decide +kernel
theorem dX5_safe_26 : decode cX5_safe 26 = .ok (.invokevirtual 143, 3) := by decide +kernel
theorem dX5_safe_29 : decode cX5_safe 29 = .ok (.aload_n 0, 1) := by decide +kernel
theorem dX5_safe_30 : decode cX5_safe 30 = .ok (.getfield 36, 3) := by decide +kernel
theorem dX5_safe_33 : decode cX5_safe 33 = .ok (.invokevirtual 147, 3) := by decide +kernel
theorem dX5_safe_36 : decode cX5_safe 36 = .ok (.aload_n 0, 1) := by decide +kernel
theorem dX5_safe_37 : decode cX5_safe 37 = .ok (.iload_n 1, 1) := by decide +kernel
theorem dX5_safe_38 : decode cX5_safe 38 = .ok (.invokevirtual 150, 3) := by decide +kernel
theorem dX5_safe_41 : decode cX5_safe 41 = .ok (.imul, 1) := by decide +kernel
theorem dX5_safe_42 : decode cX5_safe 42 = .ok (.ireturn, 1) := by decide +kernel
set_option maxRecDepth 20000 in
theorem ggX5_play_X5_isSet : GoodIn wsX5_play wsX5_isSet := goodIn_r _ [8, 9, 10, 11, 12, 13, 14, 15, 16, 110, 111, 112, 113, 114, 115, 116, 117, 118, 119, 120, 121, 122] (by decide +kernel) (by decide +kernel)
set_option maxRecDepth 20000 in
theorem gX5_play_X5_isSet : GoodIn wsX5_play (wsV RX5 133 RX5 yX5_isSet wsX5_isSet) := goodIn_app (goodIn_of _ (by decide +kernel)) ggX5_play_X5_isSet
set_option maxRecDepth 20000 in
theorem ggX5_play_X5_lay : GoodIn wsX5_play wsX5_lay := goodIn_r _ [20, 9, 21, 22, 23, 24, 25, 26, 27, 28, 29, 30, 31, 32, 7, 33, 34, 35, 36, 37, 38, 39, 40, 41, 42, 43, 44, 45, 46, 47, 48, 49, 50, 51, 52, 53, 54, 55, 56, 57, 58, 59, 60, 61, 62, 63, 64, 65, 66, 67, 68, 69, 70, 71, 110, 111, 112, 113, 114, 115, 116, 117, 118, 119, 120, 121, 122, 123, 124, 125, 126, 127, 128, 129, 130, 131, 132, 133, 134, 135, 136, 137, 138, 139, 140, 141, 142, 143] (by decide +kernel) (by decide +kernel)
set_option maxRecDepth 20000 in
theorem gX5_play_X5_lay : GoodIn wsX5_play (wsV RX5 139 RX5 yX5_lay wsX5_lay) := goodIn_app (goodIn_of _ (by decide +kernel)) ggX5_play_X5_lay
set_option maxRecDepth 20000 in
theorem ggX5_play_X0_solve : GoodIn wsX5_play wsX0_solve := goodIn_r _ [75, 30, 76, 29, 77, 78, 79, 26, 80, 28, 81, 82, 83, 84, 85, 38, 86, 87, 88, 89, 90, 91, 92, 93, 94, 95, 39, 40, 41, 96, 97, 98, 99, 134, 135, 136, 137, 138, 139, 140, 141, 142, 143] (by decide +kernel) (by decide +kernel)
set_option maxRecDepth 20000 in
theorem gX5_play_X0_solve : GoodIn wsX5_play (wsV RX5 143 RX0 yX0_solve wsX0_solve) := goodIn_app (goodIn_of _ (by decide +kernel)) ggX5_play_X0_solve
set_option maxRecDepth 20000 in
theorem ggX5_play_X0_lostIn : GoodIn wsX5_play wsX0_lostIn := goodIn_r _ [103, 76, 104, 105, 26, 106, 134, 135, 136, 137, 138, 139, 140, 141, 142, 143] (by decide +kernel) (by decide +kernel)
set_option maxRecDepth 20000 in
theorem gX5_play_X0_lostIn : GoodIn wsX5_play (wsV RX5 159 RX0 yX0_lostIn wsX0_lostIn) := goodIn_app (goodIn_of _ (by decide +kernel)) ggX5_play_X0_lostIn
set_option maxRecDepth 20000 in
theorem ggX5_play_X5_bit : GoodIn wsX5_play wsX5_bit := goodIn_r _ [109] (by decide +kernel) (by decide +kernel)
set_option maxRecDepth 20000 in
theorem gX5_play_X5_bit : GoodIn wsX5_play (va_wsS RX5 125 yX5_bit wsX5_bit) := goodIn_app (goodIn_of _ (by decide +kernel)) ggX5_play_X5_bit
theorem dX5_play_0 : decode cX5_play 0 = .ok (.aload_n 0, 1) := by decide +kernel
theorem dX5_play_1 : decode cX5_play 1 = .ok (.iload_n 1, 1) := by decide +kernel
theorem dX5_play_2 : decode cX5_play 2 = .ok (.iconst 5, 1) := by decide +kernel
theorem dX5_play_3 : decode cX5_play 3 = .ok (.invokevirtual 133, 3) := by decide +kernel
theorem dX5_play_6 : decode cX5_play 6 = .ok (.ifCond .ne 5, 3) := by decide +kernel
theorem dX5_play_9 : decode cX5_play 9 = .ok (.iconst (-1), 1) := by decide +kernel
theorem dX5_play_10 : decode cX5_play 10 = .ok (.ireturn, 1) := by decide +kernel
theorem dX5_play_11 : decode cX5_play 11 = .ok (.aload_n 0, 1) := by decide +kernel
theorem dX5_play_12 : decode cX5_play 12 = .ok (.aload_n 0, 1) := by decide +kernel
theorem dX5_play_13 : decode cX5_play 13 = .ok (.getfield 40, 3) := by decide +kernel
theorem dX5_play_16 : decode cX5_play 16 = .ok (.iload_n 1, 1) := by decide +kernel
theorem dX5_play_17 : decode cX5_play 17 = .ok (.iconst 0, 1) := by decide +kernel
theorem dX5_play_18 : decode cX5_play 18 = .ok (.invokevirtual 139, 3) := by decide +kernel
theorem dX5_play_21 : decode cX5_play 21 = .ok (.aload_n 0, 1) := by decide +kernel
theorem dX5_play_22 : decode cX5_play 22 = .ok (.getfield 40, 3) := by decide +kernel
theorem dX5_play_25 : decode cX5_play 25 = .ok (.iconst 1, 1) := by decide +kernel
theorem dX5_play_26 : decode cX5_play 26 = .ok (.invokevirtual 143, 3) := by decide +kernel
theorem dX5_play_29 : decode cX5_play 29 = .ok (.aload_n 0, 1) := by decide +kernel
theorem dX5_play_30 : decode cX5_play 30 = .ok (.iload_n 1, 1) := by decide +kernel
theorem dX5_play_31 : decode cX5_play 31 = .ok (.putfield 153, 3) := by decide +kernel
theorem dX5_play_34 : decode cX5_play 34 = .ok (.aload_n 0, 1) := by decide +kernel
theorem dX5_play_35 : decode cX5_play 35 = .ok (.iconst 0, 1) := by decide +kernel
theorem dX5_play_36 : decode cX5_play 36 = .ok (.putfield 156, 3) := by decide +kernel
theorem dX5_play_39 : decode cX5_play 39 = .ok (.aload_n 0, 1) := by decide +kernel
theorem dX5_play_40 : decode cX5_play 40 = .ok (.getfield 40, 3) := by decide +kernel
theorem dX5_play_43 : decode cX5_play 43 = .ok (.iconst 0, 1) := by decide +kernel
theorem dX5_play_44 : decode cX5_play 44 = .ok (.invokevirtual 159, 3) := by decide +kernel
theorem dX5_play_47 : decode cX5_play 47 = .ok (.ifCond .ne 7, 3) := by decide +kernel
theorem dX5_play_50 : decode cX5_play 50 = .ok (.iconst 1, 1) := by decide +kernel
theorem dX5_play_51 : decode cX5_play 51 = .ok (.goto 4, 3) := by decide +kernel
theorem dX5_play_54 : decode cX5_play 54 = .ok (.iconst 0, 1) := by decide +kernel
theorem dX5_play_55 : decode cX5_play 55 = .ok (.invokestatic 125, 3) := by decide +kernel
theorem dX5_play_58 : decode cX5_play 58 = .ok (.ireturn, 1) := by decide +kernel
set_option maxRecDepth 20000 in
theorem ggX5_tick_X5_isWithin : GoodIn wsX5_tick wsX5_isWithin := goodIn_r _ [7] (by decide +kernel) (by decide +kernel)
set_option maxRecDepth 20000 in
theorem gX5_tick_X5_isWithin : GoodIn wsX5_tick (va_wsS RX5 61 yX5_isWithin wsX5_isWithin) := goodIn_app (goodIn_of _ (by decide +kernel)) ggX5_tick_X5_isWithin
set_option maxRecDepth 20000 in
theorem ggX5_tick_X5_outsOpen : GoodIn wsX5_tick wsX5_outsOpen := goodIn_r _ [11, 2, 3, 12, 13, 14, 15, 16, 17, 18, 19, 20, 21, 22, 23, 24, 25, 26, 27, 28, 29, 30, 31, 32, 33, 34, 35, 36, 37, 38, 39, 40, 55, 56, 57, 58, 59, 60, 61, 62, 63, 64, 65, 66, 67, 68, 69, 70, 71, 72, 73, 74, 75, 76, 77] (by decide +kernel) (by decide +kernel)
set_option maxRecDepth 20000 in
theorem gX5_tick_X5_outsOpen : GoodIn wsX5_tick (wsV RX5 162 RX5 yX5_outsOpen wsX5_outsOpen) := goodIn_app (goodIn_of _ (by decide +kernel)) ggX5_tick_X5_outsOpen
set_option maxRecDepth 20000 in
theorem ggX5_tick_X5_leastBit : GoodIn wsX5_tick wsX5_leastBit := goodIn_r _ [43, 44, 45, 6, 46] (by decide +kernel) (by decide +kernel)
