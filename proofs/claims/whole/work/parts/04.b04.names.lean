theorem dX5_count_49 : decode cX5_count 49 = .ok (.ireturn, 1) := by decide +kernel
theorem dX5_count_50 : decode cX5_count 50 = .ok (.aload_n 0, 1) := by decide +kernel
theorem dX5_count_51 : decode cX5_count 51 = .ok (.invokevirtual 245, 3) := by decide +kernel
theorem dX5_count_54 : decode cX5_count 54 = .ok (.ireturn, 1) := by decide +kernel
theorem dX5_count_55 : decode cX5_count 55 = .ok (.aload_n 0, 1) := by decide +kernel
theorem dX5_count_56 : decode cX5_count 56 = .ok (.getfield 212, 3) := by decide +kernel
theorem dX5_count_59 : decode cX5_count 59 = .ok (.ireturn, 1) := by decide +kernel
theorem dX5_count_60 : decode cX5_count 60 = .ok (.aload_n 0, 1) := by decide +kernel
theorem dX5_count_61 : decode cX5_count 61 = .ok (.getfield 29, 3) := by decide +kernel
theorem dX5_count_64 : decode cX5_count 64 = .ok (.getfield 248, 3) := by decide +kernel
theorem dX5_count_67 : decode cX5_count 67 = .ok (.ireturn, 1) := by decide +kernel
theorem dX5_count_68 : decode cX5_count 68 = .ok (.aload_n 0, 1) := by decide +kernel
theorem dX5_count_69 : decode cX5_count 69 = .ok (.getfield 10, 3) := by decide +kernel
theorem dX5_count_72 : decode cX5_count 72 = .ok (.getfield 58, 3) := by decide +kernel
theorem dX5_count_75 : decode cX5_count 75 = .ok (.ireturn, 1) := by decide +kernel
theorem dX5_count_76 : decode cX5_count 76 = .ok (.iconst (-1), 1) := by decide +kernel
theorem dX5_count_77 : decode cX5_count 77 = .ok (.ireturn, 1) := by decide +kernel
set_option maxRecDepth 20000 in
theorem ggX5_knownToday_X1_isKnown : GoodIn wsX5_knownToday wsX1_isKnown := goodIn_r _ [8, 9, 10, 24, 25, 26, 27, 28, 29, 30, 31, 32, 33, 34] (by decide +kernel) (by decide +kernel)
set_option maxRecDepth 20000 in
theorem gX5_knownToday_X1_isKnown : GoodIn wsX5_knownToday (wsV RX5 222 RX1 yX1_isKnown wsX1_isKnown) := goodIn_app (goodIn_of _ (by decide +kernel)) ggX5_knownToday_X1_isKnown
theorem dX5_knownToday_0 : decode cX5_knownToday 0 = .ok (.iconst 0, 1) := by decide +kernel
theorem dX5_knownToday_1 : decode cX5_knownToday 1 = .ok (.istore_n 1, 1) := by decide +kernel
theorem dX5_knownToday_2 : decode cX5_knownToday 2 = .ok (.iconst 0, 1) := by decide +kernel
theorem dX5_knownToday_3 : decode cX5_knownToday 3 = .ok (.istore_n 2, 1) := by decide +kernel
theorem dX5_knownToday_4 : decode cX5_knownToday 4 = .ok (.iload_n 2, 1) := by decide +kernel
theorem dX5_knownToday_5 : decode cX5_knownToday 5 = .ok (.aload_n 0, 1) := by decide +kernel
theorem dX5_knownToday_6 : decode cX5_knownToday 6 = .ok (.getfield 65, 3) := by decide +kernel
theorem dX5_knownToday_9 : decode cX5_knownToday 9 = .ok (.if_icmp .ge 28, 3) := by decide +kernel
theorem dX5_knownToday_12 : decode cX5_knownToday 12 = .ok (.aload_n 0, 1) := by decide +kernel
theorem dX5_knownToday_13 : decode cX5_knownToday 13 = .ok (.getfield 18, 3) := by decide +kernel
theorem dX5_knownToday_16 : decode cX5_knownToday 16 = .ok (.iload_n 2, 1) := by decide +kernel
theorem dX5_knownToday_17 : decode cX5_knownToday 17 = .ok (.aaload, 1) := by decide +kernel
theorem dX5_knownToday_18 : decode cX5_knownToday 18 = .ok (.aload_n 0, 1) := by decide +kernel
theorem dX5_knownToday_19 : decode cX5_knownToday 19 = .ok (.getfield 50, 3) := by decide +kernel
theorem dX5_knownToday_22 : decode cX5_knownToday 22 = .ok (.invokevirtual 222, 3) := by decide +kernel
theorem dX5_knownToday_25 : decode cX5_knownToday 25 = .ok (.ifCond .eq 6, 3) := by decide +kernel
theorem dX5_knownToday_28 : decode cX5_knownToday 28 = .ok (.iinc 1 1, 3) := by decide +kernel
theorem dX5_knownToday_31 : decode cX5_knownToday 31 = .ok (.iinc 2 1, 3) := by decide +kernel
theorem dX5_knownToday_34 : decode cX5_knownToday 34 = .ok (.goto (-30), 3) := by decide +kernel
theorem dX5_knownToday_37 : decode cX5_knownToday 37 = .ok (.iload_n 1, 1) := by decide +kernel
theorem dX5_knownToday_38 : decode cX5_knownToday 38 = .ok (.ireturn, 1) := by decide +kernel
set_option maxRecDepth 20000 in
theorem ggX5_lawOf_X5_isWithin : GoodIn wsX5_lawOf wsX5_isWithin := goodIn_r _ [6] (by decide +kernel) (by decide +kernel)
set_option maxRecDepth 20000 in
theorem gX5_lawOf_X5_isWithin : GoodIn wsX5_lawOf (va_wsS RX5 61 yX5_isWithin wsX5_isWithin) := goodIn_app (goodIn_of _ (by decide +kernel)) ggX5_lawOf_X5_isWithin
theorem dX5_lawOf_0 : decode cX5_lawOf 0 = .ok (.iload_n 1, 1) := by decide +kernel
theorem dX5_lawOf_1 : decode cX5_lawOf 1 = .ok (.iconst 0, 1) := by decide +kernel
theorem dX5_lawOf_2 : decode cX5_lawOf 2 = .ok (.aload_n 0, 1) := by decide +kernel
theorem dX5_lawOf_3 : decode cX5_lawOf 3 = .ok (.getfield 65, 3) := by decide +kernel
theorem dX5_lawOf_6 : decode cX5_lawOf 6 = .ok (.iconst 1, 1) := by decide +kernel
theorem dX5_lawOf_7 : decode cX5_lawOf 7 = .ok (.isub, 1) := by decide +kernel
theorem dX5_lawOf_8 : decode cX5_lawOf 8 = .ok (.invokestatic 61, 3) := by decide +kernel
theorem dX5_lawOf_11 : decode cX5_lawOf 11 = .ok (.ifCond .eq 12, 3) := by decide +kernel
theorem dX5_lawOf_14 : decode cX5_lawOf 14 = .ok (.aload_n 0, 1) := by decide +kernel
theorem dX5_lawOf_15 : decode cX5_lawOf 15 = .ok (.getfield 18, 3) := by decide +kernel
theorem dX5_lawOf_18 : decode cX5_lawOf 18 = .ok (.iload_n 1, 1) := by decide +kernel
theorem dX5_lawOf_19 : decode cX5_lawOf 19 = .ok (.aaload, 1) := by decide +kernel
theorem dX5_lawOf_20 : decode cX5_lawOf 20 = .ok (.goto 4, 3) := by decide +kernel
theorem dX5_lawOf_23 : decode cX5_lawOf 23 = .ok (.aconst_null, 1) := by decide +kernel
theorem dX5_lawOf_24 : decode cX5_lawOf 24 = .ok (.areturn, 1) := by decide +kernel
set_option maxRecDepth 20000 in
theorem ggX5_isSet_J6_bitCount_0f7a4 : GoodIn wsX5_isSet wsJ6_bitCount_0f7a4 := goodIn_r _ [5, 6, 7, 8] (by decide +kernel) (by decide +kernel)
set_option maxRecDepth 20000 in
theorem gX5_isSet_J6_bitCount_0f7a4 : GoodIn wsX5_isSet (va_wsS RX5 101 yJ6_bitCount_0f7a4 wsJ6_bitCount_0f7a4) := goodIn_app (goodIn_of _ (by decide +kernel)) ggX5_isSet_J6_bitCount_0f7a4
theorem dX5_isSet_0 : decode cX5_isSet 0 = .ok (.iload_n 1, 1) := by decide +kernel
theorem dX5_isSet_1 : decode cX5_isSet 1 = .ok (.ifCond .le 24, 3) := by decide +kernel
theorem dX5_isSet_4 : decode cX5_isSet 4 = .ok (.iload_n 1, 1) := by decide +kernel
theorem dX5_isSet_5 : decode cX5_isSet 5 = .ok (.aload_n 0, 1) := by decide +kernel
theorem dX5_isSet_6 : decode cX5_isSet 6 = .ok (.getfield 65, 3) := by decide +kernel
theorem dX5_isSet_9 : decode cX5_isSet 9 = .ok (.iushr, 1) := by decide +kernel
theorem dX5_isSet_10 : decode cX5_isSet 10 = .ok (.ifCond .ne 15, 3) := by decide +kernel
theorem dX5_isSet_13 : decode cX5_isSet 13 = .ok (.iload_n 1, 1) := by decide +kernel
theorem dX5_isSet_14 : decode cX5_isSet 14 = .ok (.invokestatic 101, 3) := by decide +kernel
theorem dX5_isSet_17 : decode cX5_isSet 17 = .ok (.iload_n 2, 1) := by decide +kernel
theorem dX5_isSet_18 : decode cX5_isSet 18 = .ok (.if_icmp .gt 7, 3) := by decide +kernel
theorem dX5_isSet_21 : decode cX5_isSet 21 = .ok (.iconst 1, 1) := by decide +kernel
theorem dX5_isSet_22 : decode cX5_isSet 22 = .ok (.goto 4, 3) := by decide +kernel
theorem dX5_isSet_25 : decode cX5_isSet 25 = .ok (.iconst 0, 1) := by decide +kernel
theorem dX5_isSet_26 : decode cX5_isSet 26 = .ok (.ireturn, 1) := by decide +kernel
set_option maxRecDepth 20000 in
theorem ggX5_lay_X0_begin : GoodIn wsX5_lay wsX0_begin := goodIn_r _ [8, 9, 10, 11, 78, 79, 80, 81, 82, 83, 84, 85, 86, 87] (by decide +kernel) (by decide +kernel)
set_option maxRecDepth 20000 in
theorem gX5_lay_X0_begin : GoodIn wsX5_lay (wsV RX5 251 RX0 yX0_begin wsX0_begin) := goodIn_app (goodIn_of _ (by decide +kernel)) ggX5_lay_X0_begin
set_option maxRecDepth 20000 in
theorem ggX5_lay_X5_isIn : GoodIn wsX5_lay wsX5_isIn := goodIn_r _ [15] (by decide +kernel) (by decide +kernel)
set_option maxRecDepth 20000 in
theorem gX5_lay_X5_isIn : GoodIn wsX5_lay (va_wsS RX5 171 yX5_isIn wsX5_isIn) := goodIn_app (goodIn_of _ (by decide +kernel)) ggX5_lay_X5_isIn
set_option maxRecDepth 20000 in
theorem ggX5_lay_X0_enter : GoodIn wsX5_lay wsX0_enter := goodIn_r _ [19, 9, 20, 21, 22, 23, 24, 25, 26, 27, 28, 29, 30, 31, 32, 33, 34, 35, 36, 37, 38, 39, 40, 41, 42, 43, 44, 45, 46, 47, 48, 49, 50, 51, 52, 7, 53, 11, 10, 78, 79, 80, 81, 82, 83, 84, 85, 86, 87, 67, 68, 69, 70, 71, 72, 73, 74, 75, 76, 77] (by decide +kernel) (by decide +kernel)
set_option maxRecDepth 20000 in
theorem gX5_lay_X0_enter : GoodIn wsX5_lay (wsV RX5 184 RX0 yX0_enter wsX0_enter) := goodIn_app (goodIn_of _ (by decide +kernel)) ggX5_lay_X0_enter
theorem dX5_lay_0 : decode cX5_lay 0 = .ok (.aload_n 1, 1) := by decide +kernel
theorem dX5_lay_1 : decode cX5_lay 1 = .ok (.invokevirtual 251, 3) := by decide +kernel
theorem dX5_lay_4 : decode cX5_lay 4 = .ok (.iconst 0, 1) := by decide +kernel
theorem dX5_lay_5 : decode cX5_lay 5 = .ok (.istore 4, 2) := by decide +kernel
theorem dX5_lay_7 : decode cX5_lay 7 = .ok (.iload 4, 2) := by decide +kernel
theorem dX5_lay_9 : decode cX5_lay 9 = .ok (.aload_n 0, 1) := by decide +kernel
theorem dX5_lay_10 : decode cX5_lay 10 = .ok (.getfield 65, 3) := by decide +kernel
theorem dX5_lay_13 : decode cX5_lay 13 = .ok (.if_icmp .ge 40, 3) := by decide +kernel
theorem dX5_lay_16 : decode cX5_lay 16 = .ok (.iload_n 2, 1) := by decide +kernel
theorem dX5_lay_17 : decode cX5_lay 17 = .ok (.iload 4, 2) := by decide +kernel
theorem dX5_lay_19 : decode cX5_lay 19 = .ok (.invokestatic 171, 3) := by decide +kernel
theorem dX5_lay_22 : decode cX5_lay 22 = .ok (.ifCond .eq 25, 3) := by decide +kernel
theorem dX5_lay_25 : decode cX5_lay 25 = .ok (.aload_n 1, 1) := by decide +kernel
theorem dX5_lay_26 : decode cX5_lay 26 = .ok (.aload_n 0, 1) := by decide +kernel
theorem dX5_lay_27 : decode cX5_lay 27 = .ok (.getfield 18, 3) := by decide +kernel
theorem dX5_lay_30 : decode cX5_lay 30 = .ok (.iload 4, 2) := by decide +kernel
theorem dX5_lay_32 : decode cX5_lay 32 = .ok (.aaload, 1) := by decide +kernel
theorem dX5_lay_33 : decode cX5_lay 33 = .ok (.aload_n 0, 1) := by decide +kernel
theorem dX5_lay_34 : decode cX5_lay 34 = .ok (.getfield 18, 3) := by decide +kernel
theorem dX5_lay_37 : decode cX5_lay 37 = .ok (.iload 4, 2) := by decide +kernel
theorem dX5_lay_39 : decode cX5_lay 39 = .ok (.aaload, 1) := by decide +kernel
theorem dX5_lay_40 : decode cX5_lay 40 = .ok (.getfield 85, 3) := by decide +kernel
theorem dX5_lay_43 : decode cX5_lay 43 = .ok (.iload_n 3, 1) := by decide +kernel
theorem dX5_lay_44 : decode cX5_lay 44 = .ok (.invokevirtual 184, 3) := by decide +kernel
theorem dX5_lay_47 : decode cX5_lay 47 = .ok (.iinc 4 1, 3) := by decide +kernel
theorem dX5_lay_50 : decode cX5_lay 50 = .ok (.goto (-43), 3) := by decide +kernel
theorem dX5_lay_53 : decode cX5_lay 53 = .ok (.return_, 1) := by decide +kernel
set_option maxRecDepth 20000 in
theorem ggX5_isObeyable_X5_lay : GoodIn wsX5_isObeyable wsX5_lay := goodIn_r _ [6, 7, 8, 9, 10, 11, 12, 13, 14, 15, 16, 17, 18, 19, 5, 20, 21, 22, 23, 24, 25, 26, 27, 28, 29, 30, 31, 32, 33, 34, 35, 36, 37, 38, 39, 40, 41, 42, 43, 44, 45, 46, 47, 48, 49, 50, 51, 52, 53, 54, 55, 56, 57, 58, 94, 95, 96, 97, 98, 99, 100, 101, 102, 103, 104, 105, 106, 107, 108, 109, 110, 111, 112, 113, 114, 115, 116, 117, 118, 119, 120, 121, 122, 123, 124, 125, 126, 127] (by decide +kernel) (by decide +kernel)
set_option maxRecDepth 20000 in
theorem gX5_isObeyable_X5_lay : GoodIn wsX5_isObeyable (wsV RX5 139 RX5 yX5_lay wsX5_lay) := goodIn_app (goodIn_of _ (by decide +kernel)) ggX5_isObeyable_X5_lay
set_option maxRecDepth 20000 in
theorem ggX5_isObeyable_X0_solve : GoodIn wsX5_isObeyable wsX0_solve := goodIn_r _ [62, 17, 63, 16, 64, 65, 66, 13, 67, 15, 68, 69, 70, 71, 72, 25, 73, 74, 75, 76, 77, 78, 79, 80, 81, 82, 26, 27, 28, 83, 84, 85, 86, 118, 119, 120, 121, 122, 123, 124, 125, 126, 127] (by decide +kernel) (by decide +kernel)
set_option maxRecDepth 20000 in
theorem gX5_isObeyable_X0_solve : GoodIn wsX5_isObeyable (wsV RX5 143 RX0 yX0_solve wsX0_solve) := goodIn_app (goodIn_of _ (by decide +kernel)) ggX5_isObeyable_X0_solve
set_option maxRecDepth 20000 in
theorem ggX5_isObeyable_X0_lostIn : GoodIn wsX5_isObeyable wsX0_lostIn := goodIn_r _ [90, 63, 91, 92, 13, 93, 118, 119, 120, 121, 122, 123, 124, 125, 126, 127] (by decide +kernel) (by decide +kernel)
set_option maxRecDepth 20000 in
theorem gX5_isObeyable_X0_lostIn : GoodIn wsX5_isObeyable (wsV RX5 159 RX0 yX0_lostIn wsX0_lostIn) := goodIn_app (goodIn_of _ (by decide +kernel)) ggX5_isObeyable_X0_lostIn
theorem dX5_isObeyable_0 : decode cX5_isObeyable 0 = .ok (.aload_n 0, 1) := by decide +kernel
theorem dX5_isObeyable_1 : decode cX5_isObeyable 1 = .ok (.aload_n 0, 1) := by decide +kernel
theorem dX5_isObeyable_2 : decode cX5_isObeyable 2 = .ok (.getfield 36, 3) := by decide +kernel
theorem dX5_isObeyable_5 : decode cX5_isObeyable 5 = .ok (.iload_n 1, 1) := by decide +kernel
theorem dX5_isObeyable_6 : decode cX5_isObeyable 6 = .ok (.iconst 0, 1) := by decide +kernel
theorem dX5_isObeyable_7 : decode cX5_isObeyable 7 = .ok (.invokevirtual 139, 3) := by decide +kernel
theorem dX5_isObeyable_10 : decode cX5_isObeyable 10 = .ok (.aload_n 0, 1) := by decide +kernel
theorem dX5_isObeyable_11 : decode cX5_isObeyable 11 = .ok (.getfield 36, 3) := by decide +kernel
theorem dX5_isObeyable_14 : decode cX5_isObeyable 14 = .ok (.iconst 0, 1) := by decide +kernel
theorem dX5_isObeyable_15 : decode cX5_isObeyable 15 = .ok (.invokevirtual 143, 3) := by decide +kernel
theorem dX5_isObeyable_18 : decode cX5_isObeyable 18 = .ok (.aload_n 0, 1) := by decide +kernel
theorem dX5_isObeyable_19 : decode cX5_isObeyable 19 = .ok (.getfield 36, 3) := by decide +kernel
theorem dX5_isObeyable_22 : decode cX5_isObeyable 22 = .ok (.iconst 0, 1) := by decide +kernel
theorem dX5_isObeyable_23 : decode cX5_isObeyable 23 = .ok (.invokevirtual 159, 3) := by decide +kernel
theorem dX5_isObeyable_26 : decode cX5_isObeyable 26 = .ok (.ifCond .ne 7, 3) := by decide +kernel
theorem dX5_isObeyable_29 : decode cX5_isObeyable 29 = .ok (.iconst 1, 1) := by decide +kernel
theorem dX5_isObeyable_30 : decode cX5_isObeyable 30 = .ok (.goto 4, 3) := by decide +kernel
theorem dX5_isObeyable_33 : decode cX5_isObeyable 33 = .ok (.iconst 0, 1) := by decide +kernel
theorem dX5_isObeyable_34 : decode cX5_isObeyable 34 = .ok (.ireturn, 1) := by decide +kernel
set_option maxRecDepth 20000 in
theorem ggX5_placesOfNevers_X5_isIn : GoodIn wsX5_placesOfNevers wsX5_isIn := goodIn_r _ [7] (by decide +kernel) (by decide +kernel)
set_option maxRecDepth 20000 in
theorem gX5_placesOfNevers_X5_isIn : GoodIn wsX5_placesOfNevers (va_wsS RX5 171 yX5_isIn wsX5_isIn) := goodIn_app (goodIn_of _ (by decide +kernel)) ggX5_placesOfNevers_X5_isIn
theorem dX5_placesOfNevers_0 : decode cX5_placesOfNevers 0 = .ok (.iconst 1, 1) := by decide +kernel
theorem dX5_placesOfNevers_1 : decode cX5_placesOfNevers 1 = .ok (.istore_n 2, 1) := by decide +kernel
theorem dX5_placesOfNevers_2 : decode cX5_placesOfNevers 2 = .ok (.iconst 0, 1) := by decide +kernel
theorem dX5_placesOfNevers_3 : decode cX5_placesOfNevers 3 = .ok (.istore_n 3, 1) := by decide +kernel
theorem dX5_placesOfNevers_4 : decode cX5_placesOfNevers 4 = .ok (.iload_n 3, 1) := by decide +kernel
theorem dX5_placesOfNevers_5 : decode cX5_placesOfNevers 5 = .ok (.aload_n 0, 1) := by decide +kernel
theorem dX5_placesOfNevers_6 : decode cX5_placesOfNevers 6 = .ok (.getfield 65, 3) := by decide +kernel
theorem dX5_placesOfNevers_9 : decode cX5_placesOfNevers 9 = .ok (.if_icmp .ge 33, 3) := by decide +kernel
theorem dX5_placesOfNevers_12 : decode cX5_placesOfNevers 12 = .ok (.iload_n 1, 1) := by decide +kernel
theorem dX5_placesOfNevers_13 : decode cX5_placesOfNevers 13 = .ok (.iload_n 3, 1) := by decide +kernel
theorem dX5_placesOfNevers_14 : decode cX5_placesOfNevers 14 = .ok (.invokestatic 171, 3) := by decide +kernel
theorem dX5_placesOfNevers_17 : decode cX5_placesOfNevers 17 = .ok (.ifCond .eq 19, 3) := by decide +kernel
theorem dX5_placesOfNevers_20 : decode cX5_placesOfNevers 20 = .ok (.aload_n 0, 1) := by decide +kernel
theorem dX5_placesOfNevers_21 : decode cX5_placesOfNevers 21 = .ok (.getfield 18, 3) := by decide +kernel
theorem dX5_placesOfNevers_24 : decode cX5_placesOfNevers 24 = .ok (.iload_n 3, 1) := by decide +kernel
theorem dX5_placesOfNevers_25 : decode cX5_placesOfNevers 25 = .ok (.aaload, 1) := by decide +kernel
theorem dX5_placesOfNevers_26 : decode cX5_placesOfNevers 26 = .ok (.getfield 82, 3) := by decide +kernel
theorem dX5_placesOfNevers_29 : decode cX5_placesOfNevers 29 = .ok (.ifCond .ne 7, 3) := by decide +kernel
theorem dX5_placesOfNevers_32 : decode cX5_placesOfNevers 32 = .ok (.iload_n 2, 1) := by decide +kernel
theorem dX5_placesOfNevers_33 : decode cX5_placesOfNevers 33 = .ok (.iconst 4, 1) := by decide +kernel
theorem dX5_placesOfNevers_34 : decode cX5_placesOfNevers 34 = .ok (.imul, 1) := by decide +kernel
theorem dX5_placesOfNevers_35 : decode cX5_placesOfNevers 35 = .ok (.istore_n 2, 1) := by decide +kernel
theorem dX5_placesOfNevers_36 : decode cX5_placesOfNevers 36 = .ok (.iinc 3 1, 3) := by decide +kernel
theorem dX5_placesOfNevers_39 : decode cX5_placesOfNevers 39 = .ok (.goto (-35), 3) := by decide +kernel
theorem dX5_placesOfNevers_42 : decode cX5_placesOfNevers 42 = .ok (.iload_n 2, 1) := by decide +kernel
theorem dX5_placesOfNevers_43 : decode cX5_placesOfNevers 43 = .ok (.ireturn, 1) := by decide +kernel
set_option maxRecDepth 20000 in
theorem ggX5_outsOpen_X0_openTolds : GoodIn wsX5_outsOpen wsX0_openTolds := goodIn_r _ [7, 8, 9, 6, 10, 11, 12, 13, 14, 15, 16, 17, 18, 19, 20, 21, 22, 23, 24, 25, 26, 27, 28, 29, 30, 31, 45, 46, 47, 48, 49, 50, 51, 52, 53, 54] (by decide +kernel) (by decide +kernel)
set_option maxRecDepth 20000 in
theorem gX5_outsOpen_X0_openTolds : GoodIn wsX5_outsOpen (wsV RX5 252 RX0 yX0_openTolds wsX0_openTolds) := goodIn_app (goodIn_of _ (by decide +kernel)) ggX5_outsOpen_X0_openTolds
theorem dX5_outsOpen_0 : decode cX5_outsOpen 0 = .ok (.aload_n 0, 1) := by decide +kernel
theorem dX5_outsOpen_1 : decode cX5_outsOpen 1 = .ok (.getfield 40, 3) := by decide +kernel
theorem dX5_outsOpen_4 : decode cX5_outsOpen 4 = .ok (.aload_n 0, 1) := by decide +kernel
theorem dX5_outsOpen_5 : decode cX5_outsOpen 5 = .ok (.getfield 156, 3) := by decide +kernel
theorem dX5_outsOpen_8 : decode cX5_outsOpen 8 = .ok (.invokevirtual 252, 3) := by decide +kernel
theorem dX5_outsOpen_11 : decode cX5_outsOpen 11 = .ok (.bipush 8, 2) := by decide +kernel
theorem dX5_outsOpen_13 : decode cX5_outsOpen 13 = .ok (.iload_n 1, 1) := by decide +kernel
theorem dX5_outsOpen_14 : decode cX5_outsOpen 14 = .ok (.imul, 1) := by decide +kernel
theorem dX5_outsOpen_15 : decode cX5_outsOpen 15 = .ok (.lushr, 1) := by decide +kernel
theorem dX5_outsOpen_16 : decode cX5_outsOpen 16 = .ok (.l2i, 1) := by decide +kernel
theorem dX5_outsOpen_17 : decode cX5_outsOpen 17 = .ok (.sipush 255, 3) := by decide +kernel
theorem dX5_outsOpen_20 : decode cX5_outsOpen 20 = .ok (.iand, 1) := by decide +kernel
theorem dX5_outsOpen_21 : decode cX5_outsOpen 21 = .ok (.ireturn, 1) := by decide +kernel
set_option maxRecDepth 20000 in
theorem ggX5_firstQuarrelOf_J6_bitCount_0f7a4 : GoodIn wsX5_firstQuarrelOf wsJ6_bitCount_0f7a4 := goodIn_r _ [4, 5, 6, 7] (by decide +kernel) (by decide +kernel)
set_option maxRecDepth 20000 in
theorem gX5_firstQuarrelOf_J6_bitCount_0f7a4 : GoodIn wsX5_firstQuarrelOf (va_wsS RX5 101 yJ6_bitCount_0f7a4 wsJ6_bitCount_0f7a4) := goodIn_app (goodIn_of _ (by decide +kernel)) ggX5_firstQuarrelOf_J6_bitCount_0f7a4
set_option maxRecDepth 20000 in
theorem ggX5_firstQuarrelOf_X5_picked : GoodIn wsX5_firstQuarrelOf wsX5_picked := goodIn_r _ [12, 13, 14, 15, 11, 16, 109, 110, 111, 112, 113, 114, 115, 116, 117, 118, 119, 120, 121] (by decide +kernel) (by decide +kernel)
set_option maxRecDepth 20000 in
theorem gX5_firstQuarrelOf_X5_picked : GoodIn wsX5_firstQuarrelOf (wsV RX5 256 RX5 yX5_picked wsX5_picked) := goodIn_app (goodIn_of _ (by decide +kernel)) ggX5_firstQuarrelOf_X5_picked
set_option maxRecDepth 20000 in
theorem ggX5_firstQuarrelOf_X5_isObeyable : GoodIn wsX5_firstQuarrelOf wsX5_isObeyable := goodIn_r _ [20, 21, 22, 23, 24, 11, 25, 13, 26, 27, 28, 29, 30, 31, 32, 33, 34, 35, 14, 15, 16, 36, 37, 38, 39, 40, 41, 42, 43, 44, 45, 46, 47, 48, 49, 50, 51, 52, 53, 54, 55, 56, 57, 58, 59, 60, 61, 62, 63, 64, 65, 66, 67, 68, 69, 70, 71, 72, 73, 74, 75, 76, 77, 78, 79, 80, 81, 82, 83, 84, 85, 86, 87, 88, 89, 90, 91, 92, 93, 94, 95, 96, 97, 98, 99, 100, 101, 102, 103, 104, 105, 106, 107, 108, 109, 110, 111, 112, 113, 114, 115, 116, 117, 118, 119, 120, 121, 122, 123, 124, 125, 126, 127, 128, 129, 130, 131, 132, 133, 134, 135, 136, 137, 138, 139, 140, 141, 142] (by decide +kernel) (by decide +kernel)
set_option maxRecDepth 20000 in
theorem gX5_firstQuarrelOf_X5_isObeyable : GoodIn wsX5_firstQuarrelOf (wsV RX5 136 RX5 yX5_isObeyable wsX5_isObeyable) := goodIn_app (goodIn_of _ (by decide +kernel)) ggX5_firstQuarrelOf_X5_isObeyable
theorem dX5_firstQuarrelOf_0 : decode cX5_firstQuarrelOf 0 = .ok (.iconst 1, 1) := by decide +kernel
theorem dX5_firstQuarrelOf_1 : decode cX5_firstQuarrelOf 1 = .ok (.iload_n 2, 1) := by decide +kernel
theorem dX5_firstQuarrelOf_2 : decode cX5_firstQuarrelOf 2 = .ok (.ishl, 1) := by decide +kernel
theorem dX5_firstQuarrelOf_3 : decode cX5_firstQuarrelOf 3 = .ok (.iconst 1, 1) := by decide +kernel
theorem dX5_firstQuarrelOf_4 : decode cX5_firstQuarrelOf 4 = .ok (.isub, 1) := by decide +kernel
theorem dX5_firstQuarrelOf_5 : decode cX5_firstQuarrelOf 5 = .ok (.istore 4, 2) := by decide +kernel
theorem dX5_firstQuarrelOf_7 : decode cX5_firstQuarrelOf 7 = .ok (.iload 4, 2) := by decide +kernel
theorem dX5_firstQuarrelOf_9 : decode cX5_firstQuarrelOf 9 = .ok (.ifCond .le 40, 3) := by decide +kernel
theorem dX5_firstQuarrelOf_12 : decode cX5_firstQuarrelOf 12 = .ok (.iload 4, 2) := by decide +kernel
theorem dX5_firstQuarrelOf_14 : decode cX5_firstQuarrelOf 14 = .ok (.invokestatic 101, 3) := by decide +kernel
theorem dX5_firstQuarrelOf_17 : decode cX5_firstQuarrelOf 17 = .ok (.iload_n 3, 1) := by decide +kernel
theorem dX5_firstQuarrelOf_18 : decode cX5_firstQuarrelOf 18 = .ok (.if_icmp .ne 25, 3) := by decide +kernel
theorem dX5_firstQuarrelOf_21 : decode cX5_firstQuarrelOf 21 = .ok (.aload_n 0, 1) := by decide +kernel
theorem dX5_firstQuarrelOf_22 : decode cX5_firstQuarrelOf 22 = .ok (.iload_n 1, 1) := by decide +kernel
theorem dX5_firstQuarrelOf_23 : decode cX5_firstQuarrelOf 23 = .ok (.iload_n 2, 1) := by decide +kernel
theorem dX5_firstQuarrelOf_24 : decode cX5_firstQuarrelOf 24 = .ok (.iload 4, 2) := by decide +kernel
theorem dX5_firstQuarrelOf_26 : decode cX5_firstQuarrelOf 26 = .ok (.invokevirtual 256, 3) := by decide +kernel
theorem dX5_firstQuarrelOf_29 : decode cX5_firstQuarrelOf 29 = .ok (.istore 5, 2) := by decide +kernel
theorem dX5_firstQuarrelOf_31 : decode cX5_firstQuarrelOf 31 = .ok (.aload_n 0, 1) := by decide +kernel
theorem dX5_firstQuarrelOf_32 : decode cX5_firstQuarrelOf 32 = .ok (.iload 5, 2) := by decide +kernel
theorem dX5_firstQuarrelOf_34 : decode cX5_firstQuarrelOf 34 = .ok (.invokevirtual 136, 3) := by decide +kernel
theorem dX5_firstQuarrelOf_37 : decode cX5_firstQuarrelOf 37 = .ok (.ifCond .ne 6, 3) := by decide +kernel
theorem dX5_firstQuarrelOf_40 : decode cX5_firstQuarrelOf 40 = .ok (.iload 5, 2) := by decide +kernel
theorem dX5_firstQuarrelOf_42 : decode cX5_firstQuarrelOf 42 = .ok (.ireturn, 1) := by decide +kernel
theorem dX5_firstQuarrelOf_43 : decode cX5_firstQuarrelOf 43 = .ok (.iinc 4 (-1), 3) := by decide +kernel
theorem dX5_firstQuarrelOf_46 : decode cX5_firstQuarrelOf 46 = .ok (.goto (-39), 3) := by decide +kernel
theorem dX5_firstQuarrelOf_49 : decode cX5_firstQuarrelOf 49 = .ok (.iconst 0, 1) := by decide +kernel
theorem dX5_firstQuarrelOf_50 : decode cX5_firstQuarrelOf 50 = .ok (.ireturn, 1) := by decide +kernel
set_option maxRecDepth 20000 in
theorem ggX5_picked_X5_isIn : GoodIn wsX5_picked wsX5_isIn := goodIn_r _ [5] (by decide +kernel) (by decide +kernel)
set_option maxRecDepth 20000 in
theorem gX5_picked_X5_isIn : GoodIn wsX5_picked (va_wsS RX5 171 yX5_isIn wsX5_isIn) := goodIn_app (goodIn_of _ (by decide +kernel)) ggX5_picked_X5_isIn
theorem dX5_picked_0 : decode cX5_picked 0 = .ok (.iconst 0, 1) := by decide +kernel
theorem dX5_picked_1 : decode cX5_picked 1 = .ok (.istore 4, 2) := by decide +kernel
theorem dX5_picked_3 : decode cX5_picked 3 = .ok (.iload_n 2, 1) := by decide +kernel
theorem dX5_picked_4 : decode cX5_picked 4 = .ok (.iconst 1, 1) := by decide +kernel
theorem dX5_picked_5 : decode cX5_picked 5 = .ok (.isub, 1) := by decide +kernel
theorem dX5_picked_6 : decode cX5_picked 6 = .ok (.istore 5, 2) := by decide +kernel
theorem dX5_picked_8 : decode cX5_picked 8 = .ok (.iconst 0, 1) := by decide +kernel
theorem dX5_picked_9 : decode cX5_picked 9 = .ok (.istore 6, 2) := by decide +kernel
theorem dX5_picked_11 : decode cX5_picked 11 = .ok (.iload 6, 2) := by decide +kernel
theorem dX5_picked_13 : decode cX5_picked 13 = .ok (.aload_n 0, 1) := by decide +kernel
theorem dX5_picked_14 : decode cX5_picked 14 = .ok (.getfield 65, 3) := by decide +kernel
theorem dX5_picked_17 : decode cX5_picked 17 = .ok (.if_icmp .ge 39, 3) := by decide +kernel
theorem dX5_picked_20 : decode cX5_picked 20 = .ok (.iload_n 1, 1) := by decide +kernel
theorem dX5_picked_21 : decode cX5_picked 21 = .ok (.iload 6, 2) := by decide +kernel
theorem dX5_picked_23 : decode cX5_picked 23 = .ok (.invokestatic 171, 3) := by decide +kernel
theorem dX5_picked_26 : decode cX5_picked 26 = .ok (.ifCond .eq 24, 3) := by decide +kernel
theorem dX5_picked_29 : decode cX5_picked 29 = .ok (.iload_n 3, 1) := by decide +kernel
theorem dX5_picked_30 : decode cX5_picked 30 = .ok (.iload 5, 2) := by decide +kernel
theorem dX5_picked_32 : decode cX5_picked 32 = .ok (.invokestatic 171, 3) := by decide +kernel
theorem dX5_picked_35 : decode cX5_picked 35 = .ok (.ifCond .eq 12, 3) := by decide +kernel
theorem dX5_picked_38 : decode cX5_picked 38 = .ok (.iload 4, 2) := by decide +kernel
theorem dX5_picked_40 : decode cX5_picked 40 = .ok (.iconst 1, 1) := by decide +kernel
theorem dX5_picked_41 : decode cX5_picked 41 = .ok (.iload 6, 2) := by decide +kernel
theorem dX5_picked_43 : decode cX5_picked 43 = .ok (.ishl, 1) := by decide +kernel
theorem dX5_picked_44 : decode cX5_picked 44 = .ok (.ior, 1) := by decide +kernel
theorem dX5_picked_45 : decode cX5_picked 45 = .ok (.istore 4, 2) := by decide +kernel
theorem dX5_picked_47 : decode cX5_picked 47 = .ok (.iinc 5 (-1), 3) := by decide +kernel
theorem dX5_picked_50 : decode cX5_picked 50 = .ok (.iinc 6 1, 3) := by decide +kernel
theorem dX5_picked_53 : decode cX5_picked 53 = .ok (.goto (-42), 3) := by decide +kernel
theorem dX5_picked_56 : decode cX5_picked 56 = .ok (.iload 4, 2) := by decide +kernel
theorem dX5_picked_58 : decode cX5_picked 58 = .ok (.ireturn, 1) := by decide +kernel
theorem dX5_isWithin_0 : decode cX5_isWithin 0 = .ok (.iload_n 0, 1) := by decide +kernel
theorem dX5_isWithin_1 : decode cX5_isWithin 1 = .ok (.iload_n 1, 1) := by decide +kernel
theorem dX5_isWithin_2 : decode cX5_isWithin 2 = .ok (.if_icmp .lt 12, 3) := by decide +kernel
theorem dX5_isWithin_5 : decode cX5_isWithin 5 = .ok (.iload_n 0, 1) := by decide +kernel
theorem dX5_isWithin_6 : decode cX5_isWithin 6 = .ok (.iload_n 2, 1) := by decide +kernel
theorem dX5_isWithin_7 : decode cX5_isWithin 7 = .ok (.if_icmp .gt 7, 3) := by decide +kernel
theorem dX5_isWithin_10 : decode cX5_isWithin 10 = .ok (.iconst 1, 1) := by decide +kernel
theorem dX5_isWithin_11 : decode cX5_isWithin 11 = .ok (.goto 4, 3) := by decide +kernel
theorem dX5_isWithin_14 : decode cX5_isWithin 14 = .ok (.iconst 0, 1) := by decide +kernel
theorem dX5_isWithin_15 : decode cX5_isWithin 15 = .ok (.ireturn, 1) := by decide +kernel
theorem dX5_isBit_0 : decode cX5_isBit 0 = .ok (.iload_n 0, 1) := by decide +kernel
theorem dX5_isBit_1 : decode cX5_isBit 1 = .ok (.ifCond .eq 8, 3) := by decide +kernel
theorem dX5_isBit_4 : decode cX5_isBit 4 = .ok (.iload_n 0, 1) := by decide +kernel
theorem dX5_isBit_5 : decode cX5_isBit 5 = .ok (.iconst 1, 1) := by decide +kernel
theorem dX5_isBit_6 : decode cX5_isBit 6 = .ok (.if_icmp .ne 7, 3) := by decide +kernel
theorem dX5_isBit_9 : decode cX5_isBit 9 = .ok (.iconst 1, 1) := by decide +kernel
theorem dX5_isBit_10 : decode cX5_isBit 10 = .ok (.goto 4, 3) := by decide +kernel
theorem dX5_isBit_13 : decode cX5_isBit 13 = .ok (.iconst 0, 1) := by decide +kernel
theorem dX5_isBit_14 : decode cX5_isBit 14 = .ok (.ireturn, 1) := by decide +kernel
set_option maxRecDepth 20000 in
theorem ggX5_isDay_X5_isWithin : GoodIn wsX5_isDay wsX5_isWithin := goodIn_r _ [4] (by decide +kernel) (by decide +kernel)
set_option maxRecDepth 20000 in
theorem gX5_isDay_X5_isWithin : GoodIn wsX5_isDay (va_wsS RX5 61 yX5_isWithin wsX5_isWithin) := goodIn_app (goodIn_of _ (by decide +kernel)) ggX5_isDay_X5_isWithin
theorem dX5_isDay_0 : decode cX5_isDay 0 = .ok (.iload_n 0, 1) := by decide +kernel
theorem dX5_isDay_1 : decode cX5_isDay 1 = .ok (.iconst 0, 1) := by decide +kernel
theorem dX5_isDay_2 : decode cX5_isDay 2 = .ok (.sipush 9999, 3) := by decide +kernel
theorem dX5_isDay_5 : decode cX5_isDay 5 = .ok (.invokestatic 61, 3) := by decide +kernel
theorem dX5_isDay_8 : decode cX5_isDay 8 = .ok (.ireturn, 1) := by decide +kernel
theorem dX5_isIn_0 : decode cX5_isIn 0 = .ok (.iload_n 0, 1) := by decide +kernel
theorem dX5_isIn_1 : decode cX5_isIn 1 = .ok (.iload_n 1, 1) := by decide +kernel
theorem dX5_isIn_2 : decode cX5_isIn 2 = .ok (.iushr, 1) := by decide +kernel
theorem dX5_isIn_3 : decode cX5_isIn 3 = .ok (.iconst 1, 1) := by decide +kernel
theorem dX5_isIn_4 : decode cX5_isIn 4 = .ok (.iand, 1) := by decide +kernel
theorem dX5_isIn_5 : decode cX5_isIn 5 = .ok (.iconst 1, 1) := by decide +kernel
theorem dX5_isIn_6 : decode cX5_isIn 6 = .ok (.if_icmp .ne 7, 3) := by decide +kernel
theorem dX5_isIn_9 : decode cX5_isIn 9 = .ok (.iconst 1, 1) := by decide +kernel
theorem dX5_isIn_10 : decode cX5_isIn 10 = .ok (.goto 4, 3) := by decide +kernel
theorem dX5_isIn_13 : decode cX5_isIn 13 = .ok (.iconst 0, 1) := by decide +kernel
theorem dX5_isIn_14 : decode cX5_isIn 14 = .ok (.ireturn, 1) := by decide +kernel
set_option maxRecDepth 20000 in
theorem ggX5_leastBit_X5_isIn : GoodIn wsX5_leastBit wsX5_isIn := goodIn_r _ [4] (by decide +kernel) (by decide +kernel)
set_option maxRecDepth 20000 in
theorem gX5_leastBit_X5_isIn : GoodIn wsX5_leastBit (va_wsS RX5 171 yX5_isIn wsX5_isIn) := goodIn_app (goodIn_of _ (by decide +kernel)) ggX5_leastBit_X5_isIn
theorem dX5_leastBit_0 : decode cX5_leastBit 0 = .ok (.iconst 0, 1) := by decide +kernel
theorem dX5_leastBit_1 : decode cX5_leastBit 1 = .ok (.istore_n 1, 1) := by decide +kernel
theorem dX5_leastBit_2 : decode cX5_leastBit 2 = .ok (.iload_n 1, 1) := by decide +kernel
theorem dX5_leastBit_3 : decode cX5_leastBit 3 = .ok (.bipush 32, 2) := by decide +kernel
theorem dX5_leastBit_5 : decode cX5_leastBit 5 = .ok (.if_icmp .ge 19, 3) := by decide +kernel
theorem dX5_leastBit_8 : decode cX5_leastBit 8 = .ok (.iload_n 0, 1) := by decide +kernel
theorem dX5_leastBit_9 : decode cX5_leastBit 9 = .ok (.iload_n 1, 1) := by decide +kernel
theorem dX5_leastBit_10 : decode cX5_leastBit 10 = .ok (.invokestatic 171, 3) := by decide +kernel
theorem dX5_leastBit_13 : decode cX5_leastBit 13 = .ok (.ifCond .eq 5, 3) := by decide +kernel
theorem dX5_leastBit_16 : decode cX5_leastBit 16 = .ok (.iload_n 1, 1) := by decide +kernel
theorem dX5_leastBit_17 : decode cX5_leastBit 17 = .ok (.ireturn, 1) := by decide +kernel
theorem dX5_leastBit_18 : decode cX5_leastBit 18 = .ok (.iinc 1 1, 3) := by decide +kernel
theorem dX5_leastBit_21 : decode cX5_leastBit 21 = .ok (.goto (-19), 3) := by decide +kernel
theorem dX5_leastBit_24 : decode cX5_leastBit 24 = .ok (.iconst (-1), 1) := by decide +kernel
theorem dX5_leastBit_25 : decode cX5_leastBit 25 = .ok (.ireturn, 1) := by decide +kernel
theorem dX5_bit_0 : decode cX5_bit 0 = .ok (.iload_n 0, 1) := by decide +kernel
theorem dX5_bit_1 : decode cX5_bit 1 = .ok (.ifCond .eq 7, 3) := by decide +kernel
theorem dX5_bit_4 : decode cX5_bit 4 = .ok (.iconst 1, 1) := by decide +kernel
theorem dX5_bit_5 : decode cX5_bit 5 = .ok (.goto 4, 3) := by decide +kernel
theorem dX5_bit_8 : decode cX5_bit 8 = .ok (.iconst 0, 1) := by decide +kernel
theorem dX5_bit_9 : decode cX5_bit 9 = .ok (.ireturn, 1) := by decide +kernel
theorem dX5_withBit_0 : decode cX5_withBit 0 = .ok (.iload_n 2, 1) := by decide +kernel
theorem dX5_withBit_1 : decode cX5_withBit 1 = .ok (.iconst 1, 1) := by decide +kernel
theorem dX5_withBit_2 : decode cX5_withBit 2 = .ok (.if_icmp .ne 11, 3) := by decide +kernel
theorem dX5_withBit_5 : decode cX5_withBit 5 = .ok (.iload_n 0, 1) := by decide +kernel
theorem dX5_withBit_6 : decode cX5_withBit 6 = .ok (.iconst 1, 1) := by decide +kernel
theorem dX5_withBit_7 : decode cX5_withBit 7 = .ok (.iload_n 1, 1) := by decide +kernel
theorem dX5_withBit_8 : decode cX5_withBit 8 = .ok (.ishl, 1) := by decide +kernel
theorem dX5_withBit_9 : decode cX5_withBit 9 = .ok (.ior, 1) := by decide +kernel
theorem dX5_withBit_10 : decode cX5_withBit 10 = .ok (.goto 10, 3) := by decide +kernel
theorem dX5_withBit_13 : decode cX5_withBit 13 = .ok (.iload_n 0, 1) := by decide +kernel
theorem dX5_withBit_14 : decode cX5_withBit 14 = .ok (.iconst 1, 1) := by decide +kernel
theorem dX5_withBit_15 : decode cX5_withBit 15 = .ok (.iload_n 1, 1) := by decide +kernel
theorem dX5_withBit_16 : decode cX5_withBit 16 = .ok (.ishl, 1) := by decide +kernel
theorem dX5_withBit_17 : decode cX5_withBit 17 = .ok (.iconst (-1), 1) := by decide +kernel
theorem dX5_withBit_18 : decode cX5_withBit 18 = .ok (.ixor, 1) := by decide +kernel
theorem dX5_withBit_19 : decode cX5_withBit 19 = .ok (.iand, 1) := by decide +kernel
theorem dX5_withBit_20 : decode cX5_withBit 20 = .ok (.ireturn, 1) := by decide +kernel
theorem dX6_init_0 : decode cX6_init 0 = .ok (.aload_n 0, 1) := by decide +kernel
theorem dX6_init_1 : decode cX6_init 1 = .ok (.invokespecial 1, 3) := by decide +kernel
theorem dX6_init_4 : decode cX6_init 4 = .ok (.aload_n 0, 1) := by decide +kernel
theorem dX6_init_5 : decode cX6_init 5 = .ok (.bipush 80, 2) := by decide +kernel
theorem dX6_init_7 : decode cX6_init 7 = .ok (.newarray .int, 2) := by decide +kernel
theorem dX6_init_9 : decode cX6_init 9 = .ok (.putfield 9, 3) := by decide +kernel
theorem dX6_init_12 : decode cX6_init 12 = .ok (.aload_n 0, 1) := by decide +kernel
theorem dX6_init_13 : decode cX6_init 13 = .ok (.bipush 20, 2) := by decide +kernel
theorem dX6_init_15 : decode cX6_init 15 = .ok (.newarray .int, 2) := by decide +kernel
theorem dX6_init_17 : decode cX6_init 17 = .ok (.putfield 13, 3) := by decide +kernel
theorem dX6_init_20 : decode cX6_init 20 = .ok (.aload_n 0, 1) := by decide +kernel
theorem dX6_init_21 : decode cX6_init 21 = .ok (.bipush 20, 2) := by decide +kernel
theorem dX6_init_23 : decode cX6_init 23 = .ok (.newarray .int, 2) := by decide +kernel
theorem dX6_init_25 : decode cX6_init 25 = .ok (.putfield 16, 3) := by decide +kernel
theorem dX6_init_28 : decode cX6_init 28 = .ok (.aload_n 0, 1) := by decide +kernel
theorem dX6_init_29 : decode cX6_init 29 = .ok (.bipush 20, 2) := by decide +kernel
theorem dX6_init_31 : decode cX6_init 31 = .ok (.newarray .long, 2) := by decide +kernel
theorem dX6_init_33 : decode cX6_init 33 = .ok (.putfield 19, 3) := by decide +kernel
theorem dX6_init_36 : decode cX6_init 36 = .ok (.aload_n 0, 1) := by decide +kernel
theorem dX6_init_37 : decode cX6_init 37 = .ok (.bipush 20, 2) := by decide +kernel
theorem dX6_init_39 : decode cX6_init 39 = .ok (.newarray .long, 2) := by decide +kernel
theorem dX6_init_41 : decode cX6_init 41 = .ok (.putfield 23, 3) := by decide +kernel
theorem dX6_init_44 : decode cX6_init 44 = .ok (.aload_n 0, 1) := by decide +kernel
theorem dX6_init_45 : decode cX6_init 45 = .ok (.bipush 20, 2) := by decide +kernel
theorem dX6_init_47 : decode cX6_init 47 = .ok (.newarray .int, 2) := by decide +kernel
theorem dX6_init_49 : decode cX6_init 49 = .ok (.putfield 26, 3) := by decide +kernel
theorem dX6_init_52 : decode cX6_init 52 = .ok (.aload_n 0, 1) := by decide +kernel
theorem dX6_init_53 : decode cX6_init 53 = .ok (.bipush 20, 2) := by decide +kernel
theorem dX6_init_55 : decode cX6_init 55 = .ok (.newarray .int, 2) := by decide +kernel
theorem dX6_init_57 : decode cX6_init 57 = .ok (.putfield 29, 3) := by decide +kernel
theorem dX6_init_60 : decode cX6_init 60 = .ok (.aload_n 0, 1) := by decide +kernel
theorem dX6_init_61 : decode cX6_init 61 = .ok (.bipush 20, 2) := by decide +kernel
theorem dX6_init_63 : decode cX6_init 63 = .ok (.newarray .int, 2) := by decide +kernel
theorem dX6_init_65 : decode cX6_init 65 = .ok (.putfield 32, 3) := by decide +kernel
theorem dX6_init_68 : decode cX6_init 68 = .ok (.aload_n 0, 1) := by decide +kernel
theorem dX6_init_69 : decode cX6_init 69 = .ok (.bipush 20, 2) := by decide +kernel
theorem dX6_init_71 : decode cX6_init 71 = .ok (.newarray .int, 2) := by decide +kernel
theorem dX6_init_73 : decode cX6_init 73 = .ok (.putfield 35, 3) := by decide +kernel
theorem dX6_init_76 : decode cX6_init 76 = .ok (.aload_n 0, 1) := by decide +kernel
theorem dX6_init_77 : decode cX6_init 77 = .ok (.bipush 20, 2) := by decide +kernel
theorem dX6_init_79 : decode cX6_init 79 = .ok (.newarray .int, 2) := by decide +kernel
theorem dX6_init_81 : decode cX6_init 81 = .ok (.putfield 38, 3) := by decide +kernel
theorem dX6_init_84 : decode cX6_init 84 = .ok (.aload_n 0, 1) := by decide +kernel
theorem dX6_init_85 : decode cX6_init 85 = .ok (.bipush 20, 2) := by decide +kernel
theorem dX6_init_87 : decode cX6_init 87 = .ok (.newarray .int, 2) := by decide +kernel
theorem dX6_init_89 : decode cX6_init 89 = .ok (.putfield 41, 3) := by decide +kernel
theorem dX6_init_92 : decode cX6_init 92 = .ok (.aload_n 0, 1) := by decide +kernel
theorem dX6_init_93 : decode cX6_init 93 = .ok (.iconst 5, 1) := by decide +kernel
theorem dX6_init_94 : decode cX6_init 94 = .ok (.newarray .int, 2) := by decide +kernel
theorem dX6_init_96 : decode cX6_init 96 = .ok (.putfield 44, 3) := by decide +kernel
theorem dX6_init_99 : decode cX6_init 99 = .ok (.aload_n 0, 1) := by decide +kernel
theorem dX6_init_100 : decode cX6_init 100 = .ok (.iconst 5, 1) := by decide +kernel
theorem dX6_init_101 : decode cX6_init 101 = .ok (.newarray .int, 2) := by decide +kernel
theorem dX6_init_103 : decode cX6_init 103 = .ok (.putfield 47, 3) := by decide +kernel
theorem dX6_init_106 : decode cX6_init 106 = .ok (.aload_n 0, 1) := by decide +kernel
theorem dX6_init_107 : decode cX6_init 107 = .ok (.sipush 1280, 3) := by decide +kernel
theorem dX6_init_110 : decode cX6_init 110 = .ok (.newarray .int, 2) := by decide +kernel
theorem dX6_init_112 : decode cX6_init 112 = .ok (.putfield 50, 3) := by decide +kernel
theorem dX6_init_115 : decode cX6_init 115 = .ok (.aload_n 0, 1) := by decide +kernel
theorem dX6_init_116 : decode cX6_init 116 = .ok (.sipush 1024, 3) := by decide +kernel
theorem dX6_init_119 : decode cX6_init 119 = .ok (.newarray .boolean, 2) := by decide +kernel
theorem dX6_init_121 : decode cX6_init 121 = .ok (.putfield 53, 3) := by decide +kernel
theorem dX6_init_124 : decode cX6_init 124 = .ok (.aload_n 0, 1) := by decide +kernel
theorem dX6_init_125 : decode cX6_init 125 = .ok (.sipush 1024, 3) := by decide +kernel
theorem dX6_init_128 : decode cX6_init 128 = .ok (.newarray .int, 2) := by decide +kernel
theorem dX6_init_130 : decode cX6_init 130 = .ok (.putfield 57, 3) := by decide +kernel
theorem dX6_init_133 : decode cX6_init 133 = .ok (.aload_n 0, 1) := by decide +kernel
theorem dX6_init_134 : decode cX6_init 134 = .ok (.iconst 5, 1) := by decide +kernel
theorem dX6_init_135 : decode cX6_init 135 = .ok (.newarray .int, 2) := by decide +kernel
theorem dX6_init_137 : decode cX6_init 137 = .ok (.putfield 60, 3) := by decide +kernel
theorem dX6_init_140 : decode cX6_init 140 = .ok (.aload_n 0, 1) := by decide +kernel
theorem dX6_init_141 : decode cX6_init 141 = .ok (.iconst 5, 1) := by decide +kernel
theorem dX6_init_142 : decode cX6_init 142 = .ok (.newarray .int, 2) := by decide +kernel
theorem dX6_init_144 : decode cX6_init 144 = .ok (.putfield 63, 3) := by decide +kernel
theorem dX6_init_147 : decode cX6_init 147 = .ok (.aload_n 0, 1) := by decide +kernel
theorem dX6_init_148 : decode cX6_init 148 = .ok (.sipush 3125, 3) := by decide +kernel
theorem dX6_init_151 : decode cX6_init 151 = .ok (.newarray .int, 2) := by decide +kernel
theorem dX6_init_153 : decode cX6_init 153 = .ok (.putfield 66, 3) := by decide +kernel
theorem dX6_init_156 : decode cX6_init 156 = .ok (.aload_n 0, 1) := by decide +kernel
theorem dX6_init_157 : decode cX6_init 157 = .ok (.sipush 200, 3) := by decide +kernel
theorem dX6_init_160 : decode cX6_init 160 = .ok (.newarray .int, 2) := by decide +kernel
theorem dX6_init_162 : decode cX6_init 162 = .ok (.putfield 69, 3) := by decide +kernel
theorem dX6_init_165 : decode cX6_init 165 = .ok (.aload_n 0, 1) := by decide +kernel
theorem dX6_init_166 : decode cX6_init 166 = .ok (.bipush 20, 2) := by decide +kernel
theorem dX6_init_168 : decode cX6_init 168 = .ok (.newarray .int, 2) := by decide +kernel
theorem dX6_init_170 : decode cX6_init 170 = .ok (.putfield 72, 3) := by decide +kernel
theorem dX6_init_173 : decode cX6_init 173 = .ok (.aload_n 0, 1) := by decide +kernel
theorem dX6_init_174 : decode cX6_init 174 = .ok (.bipush 20, 2) := by decide +kernel
theorem dX6_init_176 : decode cX6_init 176 = .ok (.newarray .int, 2) := by decide +kernel
theorem dX6_init_178 : decode cX6_init 178 = .ok (.putfield 75, 3) := by decide +kernel
theorem dX6_init_181 : decode cX6_init 181 = .ok (.aload_n 0, 1) := by decide +kernel
theorem dX6_init_182 : decode cX6_init 182 = .ok (.sipush 1024, 3) := by decide +kernel
theorem dX6_init_185 : decode cX6_init 185 = .ok (.newarray .int, 2) := by decide +kernel
theorem dX6_init_187 : decode cX6_init 187 = .ok (.putfield 78, 3) := by decide +kernel
theorem dX6_init_190 : decode cX6_init 190 = .ok (.aload_n 0, 1) := by decide +kernel
theorem dX6_init_191 : decode cX6_init 191 = .ok (.sipush 1024, 3) := by decide +kernel
theorem dX6_init_194 : decode cX6_init 194 = .ok (.newarray .boolean, 2) := by decide +kernel
theorem dX6_init_196 : decode cX6_init 196 = .ok (.putfield 81, 3) := by decide +kernel
theorem dX6_init_199 : decode cX6_init 199 = .ok (.aload_n 0, 1) := by decide +kernel
theorem dX6_init_200 : decode cX6_init 200 = .ok (.iconst 5, 1) := by decide +kernel
theorem dX6_init_201 : decode cX6_init 201 = .ok (.newarray .int, 2) := by decide +kernel
theorem dX6_init_203 : decode cX6_init 203 = .ok (.putfield 84, 3) := by decide +kernel
theorem dX6_init_206 : decode cX6_init 206 = .ok (.return_, 1) := by decide +kernel
theorem dX6_within_0 : decode cX6_within 0 = .ok (.iload_n 0, 1) := by decide +kernel
theorem dX6_within_1 : decode cX6_within 1 = .ok (.iload_n 1, 1) := by decide +kernel
theorem dX6_within_2 : decode cX6_within 2 = .ok (.if_icmp .lt 12, 3) := by decide +kernel
theorem dX6_within_5 : decode cX6_within 5 = .ok (.iload_n 0, 1) := by decide +kernel
theorem dX6_within_6 : decode cX6_within 6 = .ok (.iload_n 2, 1) := by decide +kernel
theorem dX6_within_7 : decode cX6_within 7 = .ok (.if_icmp .gt 7, 3) := by decide +kernel
theorem dX6_within_10 : decode cX6_within 10 = .ok (.iconst 1, 1) := by decide +kernel
theorem dX6_within_11 : decode cX6_within 11 = .ok (.goto 4, 3) := by decide +kernel
theorem dX6_within_14 : decode cX6_within 14 = .ok (.iconst 0, 1) := by decide +kernel
theorem dX6_within_15 : decode cX6_within 15 = .ok (.ireturn, 1) := by decide +kernel
theorem dX6_isWant_0 : decode cX6_isWant 0 = .ok (.iload_n 1, 1) := by decide +kernel
theorem dX6_isWant_1 : decode cX6_isWant 1 = .ok (.ifCond .lt 15, 3) := by decide +kernel
theorem dX6_isWant_4 : decode cX6_isWant 4 = .ok (.iload_n 1, 1) := by decide +kernel
theorem dX6_isWant_5 : decode cX6_isWant 5 = .ok (.aload_n 0, 1) := by decide +kernel
theorem dX6_isWant_6 : decode cX6_isWant 6 = .ok (.getfield 87, 3) := by decide +kernel
theorem dX6_isWant_9 : decode cX6_isWant 9 = .ok (.if_icmp .ge 7, 3) := by decide +kernel
theorem dX6_isWant_12 : decode cX6_isWant 12 = .ok (.iconst 1, 1) := by decide +kernel
theorem dX6_isWant_13 : decode cX6_isWant 13 = .ok (.goto 4, 3) := by decide +kernel
theorem dX6_isWant_16 : decode cX6_isWant 16 = .ok (.iconst 0, 1) := by decide +kernel
theorem dX6_isWant_17 : decode cX6_isWant 17 = .ok (.ireturn, 1) := by decide +kernel
set_option maxRecDepth 20000 in
theorem ggX6_today_X6_within : GoodIn wsX6_today wsX6_within := goodIn_r _ [5] (by decide +kernel) (by decide +kernel)
set_option maxRecDepth 20000 in
theorem gX6_today_X6_within : GoodIn wsX6_today (va_wsS RX6 94 yX6_within wsX6_within) := goodIn_app (goodIn_of _ (by decide +kernel)) ggX6_today_X6_within
theorem dX6_today_0 : decode cX6_today 0 = .ok (.iload_n 1, 1) := by decide +kernel
theorem dX6_today_1 : decode cX6_today 1 = .ok (.aload_n 0, 1) := by decide +kernel
theorem dX6_today_2 : decode cX6_today 2 = .ok (.getfield 91, 3) := by decide +kernel
theorem dX6_today_5 : decode cX6_today 5 = .ok (.sipush 9999, 3) := by decide +kernel
theorem dX6_today_8 : decode cX6_today 8 = .ok (.invokestatic 94, 3) := by decide +kernel
theorem dX6_today_11 : decode cX6_today 11 = .ok (.ifCond .ne 5, 3) := by decide +kernel
theorem dX6_today_14 : decode cX6_today 14 = .ok (.iconst (-1), 1) := by decide +kernel
theorem dX6_today_15 : decode cX6_today 15 = .ok (.ireturn, 1) := by decide +kernel
theorem dX6_today_16 : decode cX6_today 16 = .ok (.aload_n 0, 1) := by decide +kernel
theorem dX6_today_17 : decode cX6_today 17 = .ok (.getfield 91, 3) := by decide +kernel
theorem dX6_today_20 : decode cX6_today 20 = .ok (.istore_n 2, 1) := by decide +kernel
theorem dX6_today_21 : decode cX6_today 21 = .ok (.aload_n 0, 1) := by decide +kernel
theorem dX6_today_22 : decode cX6_today 22 = .ok (.iload_n 1, 1) := by decide +kernel
theorem dX6_today_23 : decode cX6_today 23 = .ok (.putfield 91, 3) := by decide +kernel
theorem dX6_today_26 : decode cX6_today 26 = .ok (.iload_n 2, 1) := by decide +kernel
theorem dX6_today_27 : decode cX6_today 27 = .ok (.ireturn, 1) := by decide +kernel
set_option maxRecDepth 20000 in
theorem ggX6_feed_X6_within : GoodIn wsX6_feed wsX6_within := goodIn_r _ [6] (by decide +kernel) (by decide +kernel)
set_option maxRecDepth 20000 in
theorem gX6_feed_X6_within : GoodIn wsX6_feed (va_wsS RX6 94 yX6_within wsX6_within) := goodIn_app (goodIn_of _ (by decide +kernel)) ggX6_feed_X6_within
theorem dX6_feed_0 : decode cX6_feed 0 = .ok (.iload_n 1, 1) := by decide +kernel
theorem dX6_feed_1 : decode cX6_feed 1 = .ok (.iconst 1, 1) := by decide +kernel
theorem dX6_feed_2 : decode cX6_feed 2 = .ok (.iconst 4, 1) := by decide +kernel
theorem dX6_feed_3 : decode cX6_feed 3 = .ok (.invokestatic 94, 3) := by decide +kernel
theorem dX6_feed_6 : decode cX6_feed 6 = .ok (.ifCond .ne 5, 3) := by decide +kernel
theorem dX6_feed_9 : decode cX6_feed 9 = .ok (.iconst (-1), 1) := by decide +kernel
theorem dX6_feed_10 : decode cX6_feed 10 = .ok (.ireturn, 1) := by decide +kernel
theorem dX6_feed_11 : decode cX6_feed 11 = .ok (.aload_n 0, 1) := by decide +kernel
theorem dX6_feed_12 : decode cX6_feed 12 = .ok (.getfield 98, 3) := by decide +kernel
theorem dX6_feed_15 : decode cX6_feed 15 = .ok (.iload_n 1, 1) := by decide +kernel
theorem dX6_feed_16 : decode cX6_feed 16 = .ok (.iadd, 1) := by decide +kernel
theorem dX6_feed_17 : decode cX6_feed 17 = .ok (.bipush 80, 2) := by decide +kernel
theorem dX6_feed_19 : decode cX6_feed 19 = .ok (.if_icmp .le 6, 3) := by decide +kernel
theorem dX6_feed_22 : decode cX6_feed 22 = .ok (.bipush (-2), 2) := by decide +kernel
theorem dX6_feed_24 : decode cX6_feed 24 = .ok (.ireturn, 1) := by decide +kernel
theorem dX6_feed_25 : decode cX6_feed 25 = .ok (.iconst 0, 1) := by decide +kernel
theorem dX6_feed_26 : decode cX6_feed 26 = .ok (.istore_n 3, 1) := by decide +kernel
theorem dX6_feed_27 : decode cX6_feed 27 = .ok (.iload_n 3, 1) := by decide +kernel
theorem dX6_feed_28 : decode cX6_feed 28 = .ok (.iload_n 1, 1) := by decide +kernel
theorem dX6_feed_29 : decode cX6_feed 29 = .ok (.if_icmp .ge 38, 3) := by decide +kernel
theorem dX6_feed_32 : decode cX6_feed 32 = .ok (.aload_n 0, 1) := by decide +kernel
theorem dX6_feed_33 : decode cX6_feed 33 = .ok (.getfield 9, 3) := by decide +kernel
theorem dX6_feed_36 : decode cX6_feed 36 = .ok (.aload_n 0, 1) := by decide +kernel
theorem dX6_feed_37 : decode cX6_feed 37 = .ok (.getfield 98, 3) := by decide +kernel
theorem dX6_feed_40 : decode cX6_feed 40 = .ok (.iload_n 2, 1) := by decide +kernel
theorem dX6_feed_41 : decode cX6_feed 41 = .ok (.bipush 8, 2) := by decide +kernel
theorem dX6_feed_43 : decode cX6_feed 43 = .ok (.iload_n 3, 1) := by decide +kernel
theorem dX6_feed_44 : decode cX6_feed 44 = .ok (.imul, 1) := by decide +kernel
theorem dX6_feed_45 : decode cX6_feed 45 = .ok (.ishr, 1) := by decide +kernel
theorem dX6_feed_46 : decode cX6_feed 46 = .ok (.sipush 255, 3) := by decide +kernel
theorem dX6_feed_49 : decode cX6_feed 49 = .ok (.iand, 1) := by decide +kernel
theorem dX6_feed_50 : decode cX6_feed 50 = .ok (.iastore, 1) := by decide +kernel
theorem dX6_feed_51 : decode cX6_feed 51 = .ok (.aload_n 0, 1) := by decide +kernel
theorem dX6_feed_52 : decode cX6_feed 52 = .ok (.dup, 1) := by decide +kernel
theorem dX6_feed_53 : decode cX6_feed 53 = .ok (.getfield 98, 3) := by decide +kernel
theorem dX6_feed_56 : decode cX6_feed 56 = .ok (.iconst 1, 1) := by decide +kernel
theorem dX6_feed_57 : decode cX6_feed 57 = .ok (.iadd, 1) := by decide +kernel
theorem dX6_feed_58 : decode cX6_feed 58 = .ok (.putfield 98, 3) := by decide +kernel
theorem dX6_feed_61 : decode cX6_feed 61 = .ok (.iinc 3 1, 3) := by decide +kernel
theorem dX6_feed_64 : decode cX6_feed 64 = .ok (.goto (-37), 3) := by decide +kernel
theorem dX6_feed_67 : decode cX6_feed 67 = .ok (.aload_n 0, 1) := by decide +kernel
theorem dX6_feed_68 : decode cX6_feed 68 = .ok (.getfield 98, 3) := by decide +kernel
theorem dX6_feed_71 : decode cX6_feed 71 = .ok (.ireturn, 1) := by decide +kernel
theorem dX6_byteAt_0 : decode cX6_byteAt 0 = .ok (.aload_n 0, 1) := by decide +kernel
theorem dX6_byteAt_1 : decode cX6_byteAt 1 = .ok (.getfield 101, 3) := by decide +kernel
theorem dX6_byteAt_4 : decode cX6_byteAt 4 = .ok (.aload_n 0, 1) := by decide +kernel
theorem dX6_byteAt_5 : decode cX6_byteAt 5 = .ok (.getfield 98, 3) := by decide +kernel
theorem dX6_byteAt_8 : decode cX6_byteAt 8 = .ok (.if_icmp .ge 15, 3) := by decide +kernel
theorem dX6_byteAt_11 : decode cX6_byteAt 11 = .ok (.aload_n 0, 1) := by decide +kernel
theorem dX6_byteAt_12 : decode cX6_byteAt 12 = .ok (.getfield 9, 3) := by decide +kernel
theorem dX6_byteAt_15 : decode cX6_byteAt 15 = .ok (.aload_n 0, 1) := by decide +kernel
theorem dX6_byteAt_16 : decode cX6_byteAt 16 = .ok (.getfield 101, 3) := by decide +kernel
theorem dX6_byteAt_19 : decode cX6_byteAt 19 = .ok (.iaload, 1) := by decide +kernel
theorem dX6_byteAt_20 : decode cX6_byteAt 20 = .ok (.goto 4, 3) := by decide +kernel
theorem dX6_byteAt_23 : decode cX6_byteAt 23 = .ok (.iconst 0, 1) := by decide +kernel
theorem dX6_byteAt_24 : decode cX6_byteAt 24 = .ok (.ireturn, 1) := by decide +kernel
theorem dX6_wrong_0 : decode cX6_wrong 0 = .ok (.aload_n 0, 1) := by decide +kernel
theorem dX6_wrong_1 : decode cX6_wrong 1 = .ok (.aload_n 0, 1) := by decide +kernel
theorem dX6_wrong_2 : decode cX6_wrong 2 = .ok (.getfield 104, 3) := by decide +kernel
theorem dX6_wrong_5 : decode cX6_wrong 5 = .ok (.ifCond .ge 10, 3) := by decide +kernel
theorem dX6_wrong_8 : decode cX6_wrong 8 = .ok (.aload_n 0, 1) := by decide +kernel
theorem dX6_wrong_9 : decode cX6_wrong 9 = .ok (.getfield 101, 3) := by decide +kernel
theorem dX6_wrong_12 : decode cX6_wrong 12 = .ok (.goto 7, 3) := by decide +kernel
theorem dX6_wrong_15 : decode cX6_wrong 15 = .ok (.aload_n 0, 1) := by decide +kernel
theorem dX6_wrong_16 : decode cX6_wrong 16 = .ok (.getfield 104, 3) := by decide +kernel
theorem dX6_wrong_19 : decode cX6_wrong 19 = .ok (.putfield 104, 3) := by decide +kernel
theorem dX6_wrong_22 : decode cX6_wrong 22 = .ok (.lconst 0, 1) := by decide +kernel
theorem dX6_wrong_23 : decode cX6_wrong 23 = .ok (.lreturn, 1) := by decide +kernel
theorem dX6_letter_0 : decode cX6_letter 0 = .ok (.lconst 0, 1) := by decide +kernel
theorem dX6_letter_1 : decode cX6_letter 1 = .ok (.lstore_n 1, 1) := by decide +kernel
theorem dX6_letter_2 : decode cX6_letter 2 = .ok (.iconst 0, 1) := by decide +kernel
theorem dX6_letter_3 : decode cX6_letter 3 = .ok (.istore_n 3, 1) := by decide +kernel
theorem dX6_letter_4 : decode cX6_letter 4 = .ok (.iload_n 3, 1) := by decide +kernel
theorem dX6_letter_5 : decode cX6_letter 5 = .ok (.bipush 64, 2) := by decide +kernel
theorem dX6_letter_7 : decode cX6_letter 7 = .ok (.if_icmp .ge 28, 3) := by decide +kernel
theorem dX6_letter_10 : decode cX6_letter 10 = .ok (.lload_n 1, 1) := by decide +kernel
theorem dX6_letter_11 : decode cX6_letter 11 = .ok (.iload_n 3, 1) := by decide +kernel
theorem dX6_letter_12 : decode cX6_letter 12 = .ok (.iload_n 0, 1) := by decide +kernel
theorem dX6_letter_13 : decode cX6_letter 13 = .ok (.ishr, 1) := by decide +kernel
theorem dX6_letter_14 : decode cX6_letter 14 = .ok (.iconst 1, 1) := by decide +kernel
theorem dX6_letter_15 : decode cX6_letter 15 = .ok (.iand, 1) := by decide +kernel
theorem dX6_letter_16 : decode cX6_letter 16 = .ok (.iconst 1, 1) := by decide +kernel
theorem dX6_letter_17 : decode cX6_letter 17 = .ok (.if_icmp .ne 9, 3) := by decide +kernel
theorem dX6_letter_20 : decode cX6_letter 20 = .ok (.lconst 1, 1) := by decide +kernel
theorem dX6_letter_21 : decode cX6_letter 21 = .ok (.iload_n 3, 1) := by decide +kernel
theorem dX6_letter_22 : decode cX6_letter 22 = .ok (.lshl, 1) := by decide +kernel
theorem dX6_letter_23 : decode cX6_letter 23 = .ok (.goto 4, 3) := by decide +kernel
theorem dX6_letter_26 : decode cX6_letter 26 = .ok (.lconst 0, 1) := by decide +kernel
theorem dX6_letter_27 : decode cX6_letter 27 = .ok (.lor, 1) := by decide +kernel
theorem dX6_letter_28 : decode cX6_letter 28 = .ok (.lstore_n 1, 1) := by decide +kernel
theorem dX6_letter_29 : decode cX6_letter 29 = .ok (.iinc 3 1, 3) := by decide +kernel
theorem dX6_letter_32 : decode cX6_letter 32 = .ok (.goto (-28), 3) := by decide +kernel
theorem dX6_letter_35 : decode cX6_letter 35 = .ok (.lload_n 1, 1) := by decide +kernel
theorem dX6_letter_36 : decode cX6_letter 36 = .ok (.lreturn, 1) := by decide +kernel
set_option maxRecDepth 20000 in
theorem ggX6_any_X6_all : GoodIn wsX6_any wsX6_all := goodIn_r _ [13, 1, 2, 14, 15, 16, 6, 7, 8, 9, 10, 11, 12, 0, 3, 4, 5, 17, 18, 19, 20, 21, 22, 23, 24, 25, 26, 27, 28, 29, 30, 31, 32, 33, 34, 35, 36, 37, 38, 39, 40, 41, 42, 43, 44, 45, 46, 47, 48, 49, 50, 51, 52, 53, 54, 55, 56, 57, 58, 59, 60, 61, 62, 63, 64, 65, 66, 67, 68, 69, 70, 71, 72, 73, 74, 75, 76] (by decide +kernel) (by decide +kernel)
set_option maxRecDepth 20000 in
theorem gX6_any_X6_all : GoodIn wsX6_any (wsV RX6 107 RX6 yX6_all wsX6_all) := goodIn_app (goodIn_of _ (by decide +kernel)) ggX6_any_X6_all
set_option maxRecDepth 20000 in
theorem ggX6_any_X6_byteAt : GoodIn wsX6_any wsX6_byteAt := goodIn_r _ [10, 2, 11, 12, 34, 35, 36, 37, 38, 39, 40, 41, 42, 43, 44, 45, 46, 47, 48, 49, 50, 51, 52, 53, 54, 55, 56, 57, 58, 59, 60, 61, 62, 63, 64, 65, 66, 67, 68, 69, 70, 71, 72, 73, 74, 75, 76] (by decide +kernel) (by decide +kernel)
set_option maxRecDepth 20000 in
theorem gX6_any_X6_byteAt : GoodIn wsX6_any (wsV RX6 111 RX6 yX6_byteAt wsX6_byteAt) := goodIn_app (goodIn_of _ (by decide +kernel)) ggX6_any_X6_byteAt
theorem dX6_any_0 : decode cX6_any 0 = .ok (.aload_n 0, 1) := by decide +kernel
theorem dX6_any_1 : decode cX6_any 1 = .ok (.invokevirtual 107, 3) := by decide +kernel
theorem dX6_any_4 : decode cX6_any 4 = .ok (.lstore_n 1, 1) := by decide +kernel
theorem dX6_any_5 : decode cX6_any 5 = .ok (.aload_n 0, 1) := by decide +kernel
theorem dX6_any_6 : decode cX6_any 6 = .ok (.getfield 104, 3) := by decide +kernel
theorem dX6_any_9 : decode cX6_any 9 = .ok (.ifCond .ge 32, 3) := by decide +kernel
theorem dX6_any_12 : decode cX6_any 12 = .ok (.aload_n 0, 1) := by decide +kernel
theorem dX6_any_13 : decode cX6_any 13 = .ok (.invokevirtual 111, 3) := by decide +kernel
theorem dX6_any_16 : decode cX6_any 16 = .ok (.bipush 124, 2) := by decide +kernel
theorem dX6_any_18 : decode cX6_any 18 = .ok (.if_icmp .ne 23, 3) := by decide +kernel
theorem dX6_any_21 : decode cX6_any 21 = .ok (.aload_n 0, 1) := by decide +kernel
theorem dX6_any_22 : decode cX6_any 22 = .ok (.dup, 1) := by decide +kernel
theorem dX6_any_23 : decode cX6_any 23 = .ok (.getfield 101, 3) := by decide +kernel
theorem dX6_any_26 : decode cX6_any 26 = .ok (.iconst 1, 1) := by decide +kernel
theorem dX6_any_27 : decode cX6_any 27 = .ok (.iadd, 1) := by decide +kernel
theorem dX6_any_28 : decode cX6_any 28 = .ok (.putfield 101, 3) := by decide +kernel
theorem dX6_any_31 : decode cX6_any 31 = .ok (.lload_n 1, 1) := by decide +kernel
theorem dX6_any_32 : decode cX6_any 32 = .ok (.aload_n 0, 1) := by decide +kernel
theorem dX6_any_33 : decode cX6_any 33 = .ok (.invokevirtual 107, 3) := by decide +kernel
theorem dX6_any_36 : decode cX6_any 36 = .ok (.lor, 1) := by decide +kernel
theorem dX6_any_37 : decode cX6_any 37 = .ok (.lstore_n 1, 1) := by decide +kernel
theorem dX6_any_38 : decode cX6_any 38 = .ok (.goto (-33), 3) := by decide +kernel
theorem dX6_any_41 : decode cX6_any 41 = .ok (.lload_n 1, 1) := by decide +kernel
theorem dX6_any_42 : decode cX6_any 42 = .ok (.lreturn, 1) := by decide +kernel
set_option maxRecDepth 20000 in
theorem ggX6_all_X6_one : GoodIn wsX6_all wsX6_one := goodIn_r _ [17, 1, 18, 19, 2, 7, 8, 9, 6, 10, 11, 12, 20, 21, 22, 23, 24, 25, 26, 27, 3, 4, 5, 28, 29, 30, 31, 32, 33, 0, 13, 14, 15, 16, 34, 35, 36, 37, 38, 39, 40, 41, 42, 43, 44, 45, 46, 47, 48, 49, 50, 51, 52, 53, 54, 55, 56, 57, 58, 59, 60, 61, 62, 63, 64, 65, 66, 67, 68, 69, 70, 71, 72, 73, 74, 75, 76] (by decide +kernel) (by decide +kernel)
set_option maxRecDepth 20000 in
theorem gX6_all_X6_one : GoodIn wsX6_all (wsV RX6 115 RX6 yX6_one wsX6_one) := goodIn_app (goodIn_of _ (by decide +kernel)) ggX6_all_X6_one
set_option maxRecDepth 20000 in
theorem ggX6_all_X6_byteAt : GoodIn wsX6_all wsX6_byteAt := goodIn_r _ [10, 2, 11, 12, 34, 35, 36, 37, 38, 39, 40, 41, 42, 43, 44, 45, 46, 47, 48, 49, 50, 51, 52, 53, 54, 55, 56, 57, 58, 59, 60, 61, 62, 63, 64, 65, 66, 67, 68, 69, 70, 71, 72, 73, 74, 75, 76] (by decide +kernel) (by decide +kernel)
set_option maxRecDepth 20000 in
theorem gX6_all_X6_byteAt : GoodIn wsX6_all (wsV RX6 111 RX6 yX6_byteAt wsX6_byteAt) := goodIn_app (goodIn_of _ (by decide +kernel)) ggX6_all_X6_byteAt
theorem dX6_all_0 : decode cX6_all 0 = .ok (.aload_n 0, 1) := by decide +kernel
theorem dX6_all_1 : decode cX6_all 1 = .ok (.invokevirtual 115, 3) := by decide +kernel
theorem dX6_all_4 : decode cX6_all 4 = .ok (.lstore_n 1, 1) := by decide +kernel
theorem dX6_all_5 : decode cX6_all 5 = .ok (.aload_n 0, 1) := by decide +kernel
theorem dX6_all_6 : decode cX6_all 6 = .ok (.getfield 104, 3) := by decide +kernel
theorem dX6_all_9 : decode cX6_all 9 = .ok (.ifCond .ge 32, 3) := by decide +kernel
theorem dX6_all_12 : decode cX6_all 12 = .ok (.aload_n 0, 1) := by decide +kernel
theorem dX6_all_13 : decode cX6_all 13 = .ok (.invokevirtual 111, 3) := by decide +kernel
theorem dX6_all_16 : decode cX6_all 16 = .ok (.bipush 38, 2) := by decide +kernel
theorem dX6_all_18 : decode cX6_all 18 = .ok (.if_icmp .ne 23, 3) := by decide +kernel
theorem dX6_all_21 : decode cX6_all 21 = .ok (.aload_n 0, 1) := by decide +kernel
theorem dX6_all_22 : decode cX6_all 22 = .ok (.dup, 1) := by decide +kernel
theorem dX6_all_23 : decode cX6_all 23 = .ok (.getfield 101, 3) := by decide +kernel
theorem dX6_all_26 : decode cX6_all 26 = .ok (.iconst 1, 1) := by decide +kernel
theorem dX6_all_27 : decode cX6_all 27 = .ok (.iadd, 1) := by decide +kernel
theorem dX6_all_28 : decode cX6_all 28 = .ok (.putfield 101, 3) := by decide +kernel
theorem dX6_all_31 : decode cX6_all 31 = .ok (.lload_n 1, 1) := by decide +kernel
theorem dX6_all_32 : decode cX6_all 32 = .ok (.aload_n 0, 1) := by decide +kernel
theorem dX6_all_33 : decode cX6_all 33 = .ok (.invokevirtual 115, 3) := by decide +kernel
theorem dX6_all_36 : decode cX6_all 36 = .ok (.land, 1) := by decide +kernel
theorem dX6_all_37 : decode cX6_all 37 = .ok (.lstore_n 1, 1) := by decide +kernel
theorem dX6_all_38 : decode cX6_all 38 = .ok (.goto (-33), 3) := by decide +kernel
theorem dX6_all_41 : decode cX6_all 41 = .ok (.lload_n 1, 1) := by decide +kernel
theorem dX6_all_42 : decode cX6_all 42 = .ok (.lreturn, 1) := by decide +kernel
set_option maxRecDepth 20000 in
theorem ggX6_opens_X6_wrong : GoodIn wsX6_opens wsX6_wrong := goodIn_r _ [7, 8, 2, 9, 10, 11, 12, 13, 14, 15, 16, 17, 18, 19, 20, 21, 22, 23, 24, 25, 26, 27, 28, 29, 30, 31, 32, 33, 34, 35, 36, 37, 38, 39, 40, 41, 42, 43, 44, 45, 46, 47, 48, 49, 50, 51] (by decide +kernel) (by decide +kernel)
set_option maxRecDepth 20000 in
theorem gX6_opens_X6_wrong : GoodIn wsX6_opens (wsV RX6 121 RX6 yX6_wrong wsX6_wrong) := goodIn_app (goodIn_of _ (by decide +kernel)) ggX6_opens_X6_wrong
theorem dX6_opens_0 : decode cX6_opens 0 = .ok (.aload_n 0, 1) := by decide +kernel
theorem dX6_opens_1 : decode cX6_opens 1 = .ok (.getfield 118, 3) := by decide +kernel
theorem dX6_opens_4 : decode cX6_opens 4 = .ok (.bipush 10, 2) := by decide +kernel
theorem dX6_opens_6 : decode cX6_opens 6 = .ok (.if_icmp .ne 10, 3) := by decide +kernel
theorem dX6_opens_9 : decode cX6_opens 9 = .ok (.aload_n 0, 1) := by decide +kernel
theorem dX6_opens_10 : decode cX6_opens 10 = .ok (.invokevirtual 121, 3) := by decide +kernel
theorem dX6_opens_13 : decode cX6_opens 13 = .ok (.lstore_n 1, 1) := by decide +kernel
theorem dX6_opens_14 : decode cX6_opens 14 = .ok (.iconst 0, 1) := by decide +kernel
theorem dX6_opens_15 : decode cX6_opens 15 = .ok (.ireturn, 1) := by decide +kernel
theorem dX6_opens_16 : decode cX6_opens 16 = .ok (.aload_n 0, 1) := by decide +kernel
theorem dX6_opens_17 : decode cX6_opens 17 = .ok (.dup, 1) := by decide +kernel
theorem dX6_opens_18 : decode cX6_opens 18 = .ok (.getfield 118, 3) := by decide +kernel
theorem dX6_opens_21 : decode cX6_opens 21 = .ok (.iconst 1, 1) := by decide +kernel
theorem dX6_opens_22 : decode cX6_opens 22 = .ok (.iadd, 1) := by decide +kernel
theorem dX6_opens_23 : decode cX6_opens 23 = .ok (.putfield 118, 3) := by decide +kernel
theorem dX6_opens_26 : decode cX6_opens 26 = .ok (.aload_n 0, 1) := by decide +kernel
theorem dX6_opens_27 : decode cX6_opens 27 = .ok (.dup, 1) := by decide +kernel
theorem dX6_opens_28 : decode cX6_opens 28 = .ok (.getfield 101, 3) := by decide +kernel
theorem dX6_opens_31 : decode cX6_opens 31 = .ok (.iconst 1, 1) := by decide +kernel
theorem dX6_opens_32 : decode cX6_opens 32 = .ok (.iadd, 1) := by decide +kernel
theorem dX6_opens_33 : decode cX6_opens 33 = .ok (.putfield 101, 3) := by decide +kernel
theorem dX6_opens_36 : decode cX6_opens 36 = .ok (.iconst 1, 1) := by decide +kernel
theorem dX6_opens_37 : decode cX6_opens 37 = .ok (.ireturn, 1) := by decide +kernel
set_option maxRecDepth 20000 in
theorem ggX6_one_X6_byteAt : GoodIn wsX6_one wsX6_byteAt := goodIn_r _ [9, 4, 10, 11, 34, 35, 36, 37, 38, 39, 40, 41, 42, 43, 44, 45, 46, 47, 48, 49, 50, 51, 52, 53, 54, 55, 56, 57, 58, 59, 60, 61, 62, 63, 64, 65, 66, 67, 68, 69, 70, 71, 72, 73, 74, 75, 76] (by decide +kernel) (by decide +kernel)
set_option maxRecDepth 20000 in
theorem gX6_one_X6_byteAt : GoodIn wsX6_one (wsV RX6 111 RX6 yX6_byteAt wsX6_byteAt) := goodIn_app (goodIn_of _ (by decide +kernel)) ggX6_one_X6_byteAt
set_option maxRecDepth 20000 in
theorem ggX6_one_X6_opens : GoodIn wsX6_one wsX6_opens := goodIn_r _ [15, 3, 4, 16, 17, 18, 8, 19, 1, 34, 35, 36, 37, 38, 39, 40, 41, 42, 43, 44, 45, 46, 47, 48, 49, 50, 51, 52, 53, 54, 55, 56, 57, 58, 59, 60, 61, 62, 63, 64, 65, 66, 67, 68, 69, 70, 71, 72, 73, 74, 75, 76] (by decide +kernel) (by decide +kernel)
set_option maxRecDepth 20000 in
theorem gX6_one_X6_opens : GoodIn wsX6_one (wsV RX6 124 RX6 yX6_opens wsX6_opens) := goodIn_app (goodIn_of _ (by decide +kernel)) ggX6_one_X6_opens
set_option maxRecDepth 20000 in
theorem ggX6_one_X6_one : GoodIn wsX6_one wsX6_one := goodIn_r _ [0, 1, 2, 3, 4, 5, 6, 7, 8, 9, 10, 11, 12, 13, 14, 15, 16, 17, 18, 19, 20, 21, 22, 23, 24, 25, 26, 27, 28, 29, 30, 31, 32, 33, 34, 35, 36, 37, 38, 39, 40, 41, 42, 43, 44, 45, 46, 47, 48, 49, 50, 51, 52, 53, 54, 55, 56, 57, 58, 59, 60, 61, 62, 63, 64, 65, 66, 67, 68, 69, 70, 71, 72, 73, 74, 75, 76] (by decide +kernel) (by decide +kernel)
set_option maxRecDepth 20000 in
theorem gX6_one_X6_one : GoodIn wsX6_one (wsV RX6 115 RX6 yX6_one wsX6_one) := goodIn_app (goodIn_of _ (by decide +kernel)) ggX6_one_X6_one
set_option maxRecDepth 20000 in
theorem ggX6_one_X6_any : GoodIn wsX6_one wsX6_any := goodIn_r _ [30, 1, 4, 31, 32, 33, 8, 5, 6, 7, 9, 10, 11, 29, 20, 21, 22, 0, 2, 3, 12, 13, 14, 15, 16, 17, 18, 19, 23, 24, 25, 26, 27, 28, 34, 35, 36, 37, 38, 39, 40, 41, 42, 43, 44, 45, 46, 47, 48, 49, 50, 51, 52, 53, 54, 55, 56, 57, 58, 59, 60, 61, 62, 63, 64, 65, 66, 67, 68, 69, 70, 71, 72, 73, 74, 75, 76] (by decide +kernel) (by decide +kernel)
set_option maxRecDepth 20000 in
theorem gX6_one_X6_any : GoodIn wsX6_one (wsV RX6 130 RX6 yX6_any wsX6_any) := goodIn_app (goodIn_of _ (by decide +kernel)) ggX6_one_X6_any
set_option maxRecDepth 20000 in
theorem ggX6_one_X6_wrong : GoodIn wsX6_one wsX6_wrong := goodIn_r _ [19, 1, 4, 34, 35, 36, 37, 38, 39, 40, 41, 42, 43, 44, 45, 46, 47, 48, 49, 50, 51, 52, 53, 54, 55, 56, 57, 58, 59, 60, 61, 62, 63, 64, 65, 66, 67, 68, 69, 70, 71, 72, 73, 74, 75, 76] (by decide +kernel) (by decide +kernel)
set_option maxRecDepth 20000 in
theorem gX6_one_X6_wrong : GoodIn wsX6_one (wsV RX6 121 RX6 yX6_wrong wsX6_wrong) := goodIn_app (goodIn_of _ (by decide +kernel)) ggX6_one_X6_wrong
set_option maxRecDepth 20000 in
theorem ggX6_one_X6_letter : GoodIn wsX6_one wsX6_letter := goodIn_r _ [28] (by decide +kernel) (by decide +kernel)
set_option maxRecDepth 20000 in
theorem gX6_one_X6_letter : GoodIn wsX6_one (va_wsS RX6 133 yX6_letter wsX6_letter) := goodIn_app (goodIn_of _ (by decide +kernel)) ggX6_one_X6_letter
theorem dX6_one_0 : decode cX6_one 0 = .ok (.aload_n 0, 1) := by decide +kernel
theorem dX6_one_1 : decode cX6_one 1 = .ok (.getfield 104, 3) := by decide +kernel
theorem dX6_one_4 : decode cX6_one 4 = .ok (.ifCond .lt 5, 3) := by decide +kernel
theorem dX6_one_7 : decode cX6_one 7 = .ok (.lconst 0, 1) := by decide +kernel
theorem dX6_one_8 : decode cX6_one 8 = .ok (.lreturn, 1) := by decide +kernel
theorem dX6_one_9 : decode cX6_one 9 = .ok (.aload_n 0, 1) := by decide +kernel
theorem dX6_one_10 : decode cX6_one 10 = .ok (.invokevirtual 111, 3) := by decide +kernel
theorem dX6_one_13 : decode cX6_one 13 = .ok (.istore_n 1, 1) := by decide +kernel
theorem dX6_one_14 : decode cX6_one 14 = .ok (.iload_n 1, 1) := by decide +kernel
theorem dX6_one_15 : decode cX6_one 15 = .ok (.bipush 126, 2) := by decide +kernel
theorem dX6_one_17 : decode cX6_one 17 = .ok (.if_icmp .ne 33, 3) := by decide +kernel
theorem dX6_one_20 : decode cX6_one 20 = .ok (.aload_n 0, 1) := by decide +kernel
theorem dX6_one_21 : decode cX6_one 21 = .ok (.invokevirtual 124, 3) := by decide +kernel
theorem dX6_one_24 : decode cX6_one 24 = .ok (.ifCond .ne 5, 3) := by decide +kernel
theorem dX6_one_27 : decode cX6_one 27 = .ok (.lconst 0, 1) := by decide +kernel
theorem dX6_one_28 : decode cX6_one 28 = .ok (.lreturn, 1) := by decide +kernel
theorem dX6_one_29 : decode cX6_one 29 = .ok (.aload_n 0, 1) := by decide +kernel
theorem dX6_one_30 : decode cX6_one 30 = .ok (.invokevirtual 115, 3) := by decide +kernel
theorem dX6_one_33 : decode cX6_one 33 = .ok (.ldc2_w 128, 3) := by decide +kernel
theorem dX6_one_36 : decode cX6_one 36 = .ok (.lxor, 1) := by decide +kernel
theorem dX6_one_37 : decode cX6_one 37 = .ok (.lstore_n 2, 1) := by decide +kernel
theorem dX6_one_38 : decode cX6_one 38 = .ok (.aload_n 0, 1) := by decide +kernel
theorem dX6_one_39 : decode cX6_one 39 = .ok (.dup, 1) := by decide +kernel
theorem dX6_one_40 : decode cX6_one 40 = .ok (.getfield 118, 3) := by decide +kernel
theorem dX6_one_43 : decode cX6_one 43 = .ok (.iconst 1, 1) := by decide +kernel
theorem dX6_one_44 : decode cX6_one 44 = .ok (.isub, 1) := by decide +kernel
theorem dX6_one_45 : decode cX6_one 45 = .ok (.putfield 118, 3) := by decide +kernel
theorem dX6_one_48 : decode cX6_one 48 = .ok (.lload_n 2, 1) := by decide +kernel
theorem dX6_one_49 : decode cX6_one 49 = .ok (.lreturn, 1) := by decide +kernel
theorem dX6_one_50 : decode cX6_one 50 = .ok (.iload_n 1, 1) := by decide +kernel
theorem dX6_one_51 : decode cX6_one 51 = .ok (.bipush 40, 2) := by decide +kernel
theorem dX6_one_53 : decode cX6_one 53 = .ok (.if_icmp .ne 60, 3) := by decide +kernel
theorem dX6_one_56 : decode cX6_one 56 = .ok (.aload_n 0, 1) := by decide +kernel
theorem dX6_one_57 : decode cX6_one 57 = .ok (.invokevirtual 124, 3) := by decide +kernel
theorem dX6_one_60 : decode cX6_one 60 = .ok (.ifCond .ne 5, 3) := by decide +kernel
theorem dX6_one_63 : decode cX6_one 63 = .ok (.lconst 0, 1) := by decide +kernel
theorem dX6_one_64 : decode cX6_one 64 = .ok (.lreturn, 1) := by decide +kernel
theorem dX6_one_65 : decode cX6_one 65 = .ok (.aload_n 0, 1) := by decide +kernel
theorem dX6_one_66 : decode cX6_one 66 = .ok (.invokevirtual 130, 3) := by decide +kernel
theorem dX6_one_69 : decode cX6_one 69 = .ok (.lstore_n 2, 1) := by decide +kernel
theorem dX6_one_70 : decode cX6_one 70 = .ok (.aload_n 0, 1) := by decide +kernel
theorem dX6_one_71 : decode cX6_one 71 = .ok (.getfield 104, 3) := by decide +kernel
theorem dX6_one_74 : decode cX6_one 74 = .ok (.ifCond .ge 17, 3) := by decide +kernel
theorem dX6_one_77 : decode cX6_one 77 = .ok (.aload_n 0, 1) := by decide +kernel
theorem dX6_one_78 : decode cX6_one 78 = .ok (.invokevirtual 111, 3) := by decide +kernel
theorem dX6_one_81 : decode cX6_one 81 = .ok (.bipush 41, 2) := by decide +kernel
theorem dX6_one_83 : decode cX6_one 83 = .ok (.if_icmp .eq 8, 3) := by decide +kernel
theorem dX6_one_86 : decode cX6_one 86 = .ok (.aload_n 0, 1) := by decide +kernel
theorem dX6_one_87 : decode cX6_one 87 = .ok (.invokevirtual 121, 3) := by decide +kernel
theorem dX6_one_90 : decode cX6_one 90 = .ok (.lreturn, 1) := by decide +kernel
theorem dX6_one_91 : decode cX6_one 91 = .ok (.aload_n 0, 1) := by decide +kernel
theorem dX6_one_92 : decode cX6_one 92 = .ok (.dup, 1) := by decide +kernel
theorem dX6_one_93 : decode cX6_one 93 = .ok (.getfield 101, 3) := by decide +kernel
theorem dX6_one_96 : decode cX6_one 96 = .ok (.iconst 1, 1) := by decide +kernel
theorem dX6_one_97 : decode cX6_one 97 = .ok (.iadd, 1) := by decide +kernel
theorem dX6_one_98 : decode cX6_one 98 = .ok (.putfield 101, 3) := by decide +kernel
theorem dX6_one_101 : decode cX6_one 101 = .ok (.aload_n 0, 1) := by decide +kernel
theorem dX6_one_102 : decode cX6_one 102 = .ok (.dup, 1) := by decide +kernel
theorem dX6_one_103 : decode cX6_one 103 = .ok (.getfield 118, 3) := by decide +kernel
theorem dX6_one_106 : decode cX6_one 106 = .ok (.iconst 1, 1) := by decide +kernel
theorem dX6_one_107 : decode cX6_one 107 = .ok (.isub, 1) := by decide +kernel
theorem dX6_one_108 : decode cX6_one 108 = .ok (.putfield 118, 3) := by decide +kernel
theorem dX6_one_111 : decode cX6_one 111 = .ok (.lload_n 2, 1) := by decide +kernel
theorem dX6_one_112 : decode cX6_one 112 = .ok (.lreturn, 1) := by decide +kernel
theorem dX6_one_113 : decode cX6_one 113 = .ok (.iload_n 1, 1) := by decide +kernel
theorem dX6_one_114 : decode cX6_one 114 = .ok (.bipush 97, 2) := by decide +kernel
theorem dX6_one_116 : decode cX6_one 116 = .ok (.if_icmp .lt 13, 3) := by decide +kernel
theorem dX6_one_119 : decode cX6_one 119 = .ok (.iload_n 1, 1) := by decide +kernel
theorem dX6_one_120 : decode cX6_one 120 = .ok (.bipush 99, 2) := by decide +kernel
theorem dX6_one_122 : decode cX6_one 122 = .ok (.if_icmp .gt 7, 3) := by decide +kernel
theorem dX6_one_125 : decode cX6_one 125 = .ok (.iconst 1, 1) := by decide +kernel
theorem dX6_one_126 : decode cX6_one 126 = .ok (.goto 4, 3) := by decide +kernel
theorem dX6_one_129 : decode cX6_one 129 = .ok (.iconst 0, 1) := by decide +kernel
theorem dX6_one_130 : decode cX6_one 130 = .ok (.istore_n 2, 1) := by decide +kernel
theorem dX6_one_131 : decode cX6_one 131 = .ok (.iload_n 1, 1) := by decide +kernel
theorem dX6_one_132 : decode cX6_one 132 = .ok (.bipush 120, 2) := by decide +kernel
theorem dX6_one_134 : decode cX6_one 134 = .ok (.if_icmp .lt 13, 3) := by decide +kernel
theorem dX6_one_137 : decode cX6_one 137 = .ok (.iload_n 1, 1) := by decide +kernel
theorem dX6_one_138 : decode cX6_one 138 = .ok (.bipush 122, 2) := by decide +kernel
theorem dX6_one_140 : decode cX6_one 140 = .ok (.if_icmp .gt 7, 3) := by decide +kernel
theorem dX6_one_143 : decode cX6_one 143 = .ok (.iconst 1, 1) := by decide +kernel
theorem dX6_one_144 : decode cX6_one 144 = .ok (.goto 4, 3) := by decide +kernel
theorem dX6_one_147 : decode cX6_one 147 = .ok (.iconst 0, 1) := by decide +kernel
theorem dX6_one_148 : decode cX6_one 148 = .ok (.istore_n 3, 1) := by decide +kernel
theorem dX6_one_149 : decode cX6_one 149 = .ok (.iload_n 2, 1) := by decide +kernel
theorem dX6_one_150 : decode cX6_one 150 = .ok (.ifCond .ne 24, 3) := by decide +kernel
theorem dX6_one_153 : decode cX6_one 153 = .ok (.iload_n 3, 1) := by decide +kernel
theorem dX6_one_154 : decode cX6_one 154 = .ok (.ifCond .ne 20, 3) := by decide +kernel
theorem dX6_one_157 : decode cX6_one 157 = .ok (.iload_n 1, 1) := by decide +kernel
theorem dX6_one_158 : decode cX6_one 158 = .ok (.bipush 48, 2) := by decide +kernel
theorem dX6_one_160 : decode cX6_one 160 = .ok (.if_icmp .eq 14, 3) := by decide +kernel
