set_option maxRecDepth 20000 in
theorem gX5_tick_X5_leastBit : GoodIn wsX5_tick (va_wsS RX5 165 yX5_leastBit wsX5_leastBit) := goodIn_app (goodIn_of _ (by decide +kernel)) ggX5_tick_X5_leastBit
set_option maxRecDepth 20000 in
theorem ggX5_tick_X0_placeAfter : GoodIn wsX5_tick wsX0_placeAfter := goodIn_r _ [50, 24, 38, 39, 40, 51, 52, 53, 54, 68, 69, 70, 71, 72, 73, 74, 75, 76, 77] (by decide +kernel) (by decide +kernel)
set_option maxRecDepth 20000 in
theorem gX5_tick_X0_placeAfter : GoodIn wsX5_tick (wsV RX5 168 RX0 yX0_placeAfter wsX0_placeAfter) := goodIn_app (goodIn_of _ (by decide +kernel)) ggX5_tick_X0_placeAfter
theorem dX5_tick_0 : decode cX5_tick 0 = .ok (.aload_n 0, 1) := by decide +kernel
theorem dX5_tick_1 : decode cX5_tick 1 = .ok (.getfield 153, 3) := by decide +kernel
theorem dX5_tick_4 : decode cX5_tick 4 = .ok (.ifCond .eq 13, 3) := by decide +kernel
theorem dX5_tick_7 : decode cX5_tick 7 = .ok (.iload_n 1, 1) := by decide +kernel
theorem dX5_tick_8 : decode cX5_tick 8 = .ok (.iconst 0, 1) := by decide +kernel
theorem dX5_tick_9 : decode cX5_tick 9 = .ok (.bipush 7, 2) := by decide +kernel
theorem dX5_tick_11 : decode cX5_tick 11 = .ok (.invokestatic 61, 3) := by decide +kernel
theorem dX5_tick_14 : decode cX5_tick 14 = .ok (.ifCond .ne 5, 3) := by decide +kernel
theorem dX5_tick_17 : decode cX5_tick 17 = .ok (.iconst (-1), 1) := by decide +kernel
theorem dX5_tick_18 : decode cX5_tick 18 = .ok (.ireturn, 1) := by decide +kernel
theorem dX5_tick_19 : decode cX5_tick 19 = .ok (.aload_n 0, 1) := by decide +kernel
theorem dX5_tick_20 : decode cX5_tick 20 = .ok (.iload_n 1, 1) := by decide +kernel
theorem dX5_tick_21 : decode cX5_tick 21 = .ok (.invokevirtual 162, 3) := by decide +kernel
theorem dX5_tick_24 : decode cX5_tick 24 = .ok (.istore_n 2, 1) := by decide +kernel
theorem dX5_tick_25 : decode cX5_tick 25 = .ok (.iload_n 2, 1) := by decide +kernel
theorem dX5_tick_26 : decode cX5_tick 26 = .ok (.ifCond .ne 11, 3) := by decide +kernel
theorem dX5_tick_29 : decode cX5_tick 29 = .ok (.aload_n 0, 1) := by decide +kernel
theorem dX5_tick_30 : decode cX5_tick 30 = .ok (.iconst 0, 1) := by decide +kernel
theorem dX5_tick_31 : decode cX5_tick 31 = .ok (.putfield 153, 3) := by decide +kernel
theorem dX5_tick_34 : decode cX5_tick 34 = .ok (.bipush (-4), 2) := by decide +kernel
theorem dX5_tick_36 : decode cX5_tick 36 = .ok (.ireturn, 1) := by decide +kernel
theorem dX5_tick_37 : decode cX5_tick 37 = .ok (.iload_n 2, 1) := by decide +kernel
theorem dX5_tick_38 : decode cX5_tick 38 = .ok (.invokestatic 165, 3) := by decide +kernel
theorem dX5_tick_41 : decode cX5_tick 41 = .ok (.istore_n 3, 1) := by decide +kernel
theorem dX5_tick_42 : decode cX5_tick 42 = .ok (.aload_n 0, 1) := by decide +kernel
theorem dX5_tick_43 : decode cX5_tick 43 = .ok (.aload_n 0, 1) := by decide +kernel
theorem dX5_tick_44 : decode cX5_tick 44 = .ok (.getfield 40, 3) := by decide +kernel
theorem dX5_tick_47 : decode cX5_tick 47 = .ok (.aload_n 0, 1) := by decide +kernel
theorem dX5_tick_48 : decode cX5_tick 48 = .ok (.getfield 156, 3) := by decide +kernel
theorem dX5_tick_51 : decode cX5_tick 51 = .ok (.bipush 8, 2) := by decide +kernel
theorem dX5_tick_53 : decode cX5_tick 53 = .ok (.iload_n 1, 1) := by decide +kernel
theorem dX5_tick_54 : decode cX5_tick 54 = .ok (.imul, 1) := by decide +kernel
theorem dX5_tick_55 : decode cX5_tick 55 = .ok (.iload_n 3, 1) := by decide +kernel
theorem dX5_tick_56 : decode cX5_tick 56 = .ok (.iadd, 1) := by decide +kernel
theorem dX5_tick_57 : decode cX5_tick 57 = .ok (.invokevirtual 168, 3) := by decide +kernel
theorem dX5_tick_60 : decode cX5_tick 60 = .ok (.putfield 156, 3) := by decide +kernel
theorem dX5_tick_63 : decode cX5_tick 63 = .ok (.iload_n 3, 1) := by decide +kernel
theorem dX5_tick_64 : decode cX5_tick 64 = .ok (.ireturn, 1) := by decide +kernel
set_option maxRecDepth 20000 in
theorem ggX5_open_X5_isWithin : GoodIn wsX5_open wsX5_isWithin := goodIn_r _ [5] (by decide +kernel) (by decide +kernel)
set_option maxRecDepth 20000 in
theorem gX5_open_X5_isWithin : GoodIn wsX5_open (va_wsS RX5 61 yX5_isWithin wsX5_isWithin) := goodIn_app (goodIn_of _ (by decide +kernel)) ggX5_open_X5_isWithin
set_option maxRecDepth 20000 in
theorem ggX5_open_X5_outsOpen : GoodIn wsX5_open wsX5_outsOpen := goodIn_r _ [9, 10, 11, 12, 13, 14, 15, 16, 17, 18, 19, 20, 21, 22, 23, 24, 25, 26, 27, 28, 29, 30, 31, 32, 33, 34, 35, 36, 37, 38, 39, 40, 48, 49, 50, 51, 52, 53, 54, 55, 56, 57, 58, 59, 60, 61, 62, 63, 64, 65, 66, 67, 68, 69, 70] (by decide +kernel) (by decide +kernel)
set_option maxRecDepth 20000 in
theorem gX5_open_X5_outsOpen : GoodIn wsX5_open (wsV RX5 162 RX5 yX5_outsOpen wsX5_outsOpen) := goodIn_app (goodIn_of _ (by decide +kernel)) ggX5_open_X5_outsOpen
set_option maxRecDepth 20000 in
theorem ggX5_open_J6_bitCount_0f7a4 : GoodIn wsX5_open wsJ6_bitCount_0f7a4 := goodIn_r _ [44, 45, 46, 47] (by decide +kernel) (by decide +kernel)
set_option maxRecDepth 20000 in
theorem gX5_open_J6_bitCount_0f7a4 : GoodIn wsX5_open (va_wsS RX5 101 yJ6_bitCount_0f7a4 wsJ6_bitCount_0f7a4) := goodIn_app (goodIn_of _ (by decide +kernel)) ggX5_open_J6_bitCount_0f7a4
theorem dX5_open_0 : decode cX5_open 0 = .ok (.aload_n 0, 1) := by decide +kernel
theorem dX5_open_1 : decode cX5_open 1 = .ok (.getfield 153, 3) := by decide +kernel
theorem dX5_open_4 : decode cX5_open 4 = .ok (.ifCond .eq 13, 3) := by decide +kernel
theorem dX5_open_7 : decode cX5_open 7 = .ok (.iload_n 1, 1) := by decide +kernel
theorem dX5_open_8 : decode cX5_open 8 = .ok (.iconst 0, 1) := by decide +kernel
theorem dX5_open_9 : decode cX5_open 9 = .ok (.bipush 7, 2) := by decide +kernel
theorem dX5_open_11 : decode cX5_open 11 = .ok (.invokestatic 61, 3) := by decide +kernel
theorem dX5_open_14 : decode cX5_open 14 = .ok (.ifCond .ne 5, 3) := by decide +kernel
theorem dX5_open_17 : decode cX5_open 17 = .ok (.iconst (-1), 1) := by decide +kernel
theorem dX5_open_18 : decode cX5_open 18 = .ok (.ireturn, 1) := by decide +kernel
theorem dX5_open_19 : decode cX5_open 19 = .ok (.aload_n 0, 1) := by decide +kernel
theorem dX5_open_20 : decode cX5_open 20 = .ok (.iload_n 1, 1) := by decide +kernel
theorem dX5_open_21 : decode cX5_open 21 = .ok (.invokevirtual 162, 3) := by decide +kernel
theorem dX5_open_24 : decode cX5_open 24 = .ok (.invokestatic 101, 3) := by decide +kernel
theorem dX5_open_27 : decode cX5_open 27 = .ok (.ireturn, 1) := by decide +kernel
set_option maxRecDepth 20000 in
theorem ggX5_state_X5_isWithin : GoodIn wsX5_state wsX5_isWithin := goodIn_r _ [6] (by decide +kernel) (by decide +kernel)
set_option maxRecDepth 20000 in
theorem gX5_state_X5_isWithin : GoodIn wsX5_state (va_wsS RX5 61 yX5_isWithin wsX5_isWithin) := goodIn_app (goodIn_of _ (by decide +kernel)) ggX5_state_X5_isWithin
set_option maxRecDepth 20000 in
theorem ggX5_state_X5_isIn : GoodIn wsX5_state wsX5_isIn := goodIn_r _ [9] (by decide +kernel) (by decide +kernel)
set_option maxRecDepth 20000 in
theorem gX5_state_X5_isIn : GoodIn wsX5_state (va_wsS RX5 171 yX5_isIn wsX5_isIn) := goodIn_app (goodIn_of _ (by decide +kernel)) ggX5_state_X5_isIn
set_option maxRecDepth 20000 in
theorem ggX5_state_J6_bitCount_0f7a4 : GoodIn wsX5_state wsJ6_bitCount_0f7a4 := goodIn_r _ [13, 14, 15, 16] (by decide +kernel) (by decide +kernel)
set_option maxRecDepth 20000 in
theorem gX5_state_J6_bitCount_0f7a4 : GoodIn wsX5_state (va_wsS RX5 101 yJ6_bitCount_0f7a4 wsJ6_bitCount_0f7a4) := goodIn_app (goodIn_of _ (by decide +kernel)) ggX5_state_J6_bitCount_0f7a4
set_option maxRecDepth 20000 in
theorem ggX5_state_X0_stateAt : GoodIn wsX5_state wsX0_stateAt := goodIn_r _ [20] (by decide +kernel) (by decide +kernel)
set_option maxRecDepth 20000 in
theorem gX5_state_X0_stateAt : GoodIn wsX5_state (va_wsS RX5 174 yX0_stateAt wsX0_stateAt) := goodIn_app (goodIn_of _ (by decide +kernel)) ggX5_state_X0_stateAt
theorem dX5_state_0 : decode cX5_state 0 = .ok (.iload_n 1, 1) := by decide +kernel
theorem dX5_state_1 : decode cX5_state 1 = .ok (.iconst 0, 1) := by decide +kernel
theorem dX5_state_2 : decode cX5_state 2 = .ok (.bipush 19, 2) := by decide +kernel
theorem dX5_state_4 : decode cX5_state 4 = .ok (.invokestatic 61, 3) := by decide +kernel
theorem dX5_state_7 : decode cX5_state 7 = .ok (.ifCond .eq 14, 3) := by decide +kernel
theorem dX5_state_10 : decode cX5_state 10 = .ok (.aload_n 0, 1) := by decide +kernel
theorem dX5_state_11 : decode cX5_state 11 = .ok (.getfield 153, 3) := by decide +kernel
theorem dX5_state_14 : decode cX5_state 14 = .ok (.iload_n 1, 1) := by decide +kernel
theorem dX5_state_15 : decode cX5_state 15 = .ok (.invokestatic 171, 3) := by decide +kernel
theorem dX5_state_18 : decode cX5_state 18 = .ok (.ifCond .ne 5, 3) := by decide +kernel
theorem dX5_state_21 : decode cX5_state 21 = .ok (.iconst (-1), 1) := by decide +kernel
theorem dX5_state_22 : decode cX5_state 22 = .ok (.ireturn, 1) := by decide +kernel
theorem dX5_state_23 : decode cX5_state 23 = .ok (.aload_n 0, 1) := by decide +kernel
theorem dX5_state_24 : decode cX5_state 24 = .ok (.getfield 153, 3) := by decide +kernel
theorem dX5_state_27 : decode cX5_state 27 = .ok (.iconst 1, 1) := by decide +kernel
theorem dX5_state_28 : decode cX5_state 28 = .ok (.iload_n 1, 1) := by decide +kernel
theorem dX5_state_29 : decode cX5_state 29 = .ok (.ishl, 1) := by decide +kernel
theorem dX5_state_30 : decode cX5_state 30 = .ok (.iconst 1, 1) := by decide +kernel
theorem dX5_state_31 : decode cX5_state 31 = .ok (.isub, 1) := by decide +kernel
theorem dX5_state_32 : decode cX5_state 32 = .ok (.iand, 1) := by decide +kernel
theorem dX5_state_33 : decode cX5_state 33 = .ok (.invokestatic 101, 3) := by decide +kernel
theorem dX5_state_36 : decode cX5_state 36 = .ok (.istore_n 2, 1) := by decide +kernel
theorem dX5_state_37 : decode cX5_state 37 = .ok (.aload_n 0, 1) := by decide +kernel
theorem dX5_state_38 : decode cX5_state 38 = .ok (.getfield 156, 3) := by decide +kernel
theorem dX5_state_41 : decode cX5_state 41 = .ok (.iload_n 2, 1) := by decide +kernel
theorem dX5_state_42 : decode cX5_state 42 = .ok (.invokestatic 174, 3) := by decide +kernel
theorem dX5_state_45 : decode cX5_state 45 = .ok (.ireturn, 1) := by decide +kernel
set_option maxRecDepth 20000 in
theorem ggX5_loses_X5_isSet : GoodIn wsX5_loses wsX5_isSet := goodIn_r _ [6, 7, 8, 9, 10, 11, 12, 13, 14, 109, 110, 111, 112, 113, 114, 115, 116, 117, 118, 119, 120, 121] (by decide +kernel) (by decide +kernel)
set_option maxRecDepth 20000 in
theorem gX5_loses_X5_isSet : GoodIn wsX5_loses (wsV RX5 133 RX5 yX5_isSet wsX5_isSet) := goodIn_app (goodIn_of _ (by decide +kernel)) ggX5_loses_X5_isSet
set_option maxRecDepth 20000 in
theorem ggX5_loses_X5_isObeyable : GoodIn wsX5_loses wsX5_isObeyable := goodIn_r _ [18, 1, 19, 20, 21, 5, 22, 7, 23, 24, 25, 26, 27, 28, 29, 30, 31, 32, 33, 34, 35, 36, 37, 38, 39, 40, 41, 42, 43, 44, 45, 46, 47, 48, 49, 50, 51, 52, 53, 54, 55, 56, 57, 58, 59, 60, 61, 62, 63, 64, 65, 66, 67, 68, 69, 70, 71, 72, 73, 74, 75, 76, 77, 78, 79, 80, 81, 82, 83, 84, 85, 86, 87, 88, 89, 90, 91, 92, 93, 94, 95, 96, 97, 98, 99, 100, 101, 102, 103, 104, 105, 106, 107, 108, 109, 110, 111, 112, 113, 114, 115, 116, 117, 118, 119, 120, 121, 122, 123, 124, 125, 126, 127, 128, 129, 130, 131, 132, 133, 134, 135, 136, 137, 138, 139, 140, 141, 142] (by decide +kernel) (by decide +kernel)
set_option maxRecDepth 20000 in
theorem gX5_loses_X5_isObeyable : GoodIn wsX5_loses (wsV RX5 136 RX5 yX5_isObeyable wsX5_isObeyable) := goodIn_app (goodIn_of _ (by decide +kernel)) ggX5_loses_X5_isObeyable
set_option maxRecDepth 20000 in
theorem ggX5_loses_X0_lostIn : GoodIn wsX5_loses wsX0_lostIn := goodIn_r _ [105, 78, 106, 107, 28, 108, 133, 134, 135, 136, 137, 138, 139, 140, 141, 142] (by decide +kernel) (by decide +kernel)
set_option maxRecDepth 20000 in
theorem gX5_loses_X0_lostIn : GoodIn wsX5_loses (wsV RX5 159 RX0 yX0_lostIn wsX0_lostIn) := goodIn_app (goodIn_of _ (by decide +kernel)) ggX5_loses_X0_lostIn
theorem dX5_loses_0 : decode cX5_loses 0 = .ok (.aload_n 0, 1) := by decide +kernel
theorem dX5_loses_1 : decode cX5_loses 1 = .ok (.iload_n 1, 1) := by decide +kernel
theorem dX5_loses_2 : decode cX5_loses 2 = .ok (.iconst 5, 1) := by decide +kernel
theorem dX5_loses_3 : decode cX5_loses 3 = .ok (.invokevirtual 133, 3) := by decide +kernel
theorem dX5_loses_6 : decode cX5_loses 6 = .ok (.ifCond .ne 5, 3) := by decide +kernel
theorem dX5_loses_9 : decode cX5_loses 9 = .ok (.iconst (-1), 1) := by decide +kernel
theorem dX5_loses_10 : decode cX5_loses 10 = .ok (.ireturn, 1) := by decide +kernel
theorem dX5_loses_11 : decode cX5_loses 11 = .ok (.aload_n 0, 1) := by decide +kernel
theorem dX5_loses_12 : decode cX5_loses 12 = .ok (.iload_n 1, 1) := by decide +kernel
theorem dX5_loses_13 : decode cX5_loses 13 = .ok (.invokevirtual 136, 3) := by decide +kernel
theorem dX5_loses_16 : decode cX5_loses 16 = .ok (.ifCond .eq 8, 3) := by decide +kernel
theorem dX5_loses_19 : decode cX5_loses 19 = .ok (.bipush (-4), 2) := by decide +kernel
theorem dX5_loses_21 : decode cX5_loses 21 = .ok (.goto 11, 3) := by decide +kernel
theorem dX5_loses_24 : decode cX5_loses 24 = .ok (.aload_n 0, 1) := by decide +kernel
theorem dX5_loses_25 : decode cX5_loses 25 = .ok (.getfield 36, 3) := by decide +kernel
theorem dX5_loses_28 : decode cX5_loses 28 = .ok (.iconst 0, 1) := by decide +kernel
theorem dX5_loses_29 : decode cX5_loses 29 = .ok (.invokevirtual 159, 3) := by decide +kernel
theorem dX5_loses_32 : decode cX5_loses 32 = .ok (.ireturn, 1) := by decide +kernel
set_option maxRecDepth 20000 in
theorem ggX5_world_X5_isSet : GoodIn wsX5_world wsX5_isSet := goodIn_r _ [6, 7, 8, 9, 10, 11, 12, 13, 14, 113, 114, 115, 116, 117, 118, 119, 120, 121, 122, 123, 124, 125] (by decide +kernel) (by decide +kernel)
set_option maxRecDepth 20000 in
theorem gX5_world_X5_isSet : GoodIn wsX5_world (wsV RX5 133 RX5 yX5_isSet wsX5_isSet) := goodIn_app (goodIn_of _ (by decide +kernel)) ggX5_world_X5_isSet
set_option maxRecDepth 20000 in
theorem ggX5_world_X5_isObeyable : GoodIn wsX5_world wsX5_isObeyable := goodIn_r _ [18, 1, 19, 20, 21, 5, 22, 7, 23, 24, 25, 26, 27, 28, 29, 30, 31, 32, 33, 34, 35, 36, 37, 38, 39, 40, 41, 42, 43, 44, 45, 46, 47, 48, 49, 50, 51, 52, 53, 54, 55, 56, 57, 58, 59, 60, 61, 62, 63, 64, 65, 66, 67, 68, 69, 70, 71, 72, 73, 74, 75, 76, 77, 78, 79, 80, 81, 82, 83, 84, 85, 86, 87, 88, 89, 90, 91, 92, 93, 94, 95, 96, 97, 98, 99, 100, 101, 102, 103, 104, 105, 106, 107, 108, 113, 114, 115, 116, 117, 118, 119, 120, 121, 122, 123, 124, 125, 126, 127, 128, 129, 130, 131, 132, 133, 134, 135, 136, 137, 138, 139, 140, 141, 142, 143, 144, 145, 146] (by decide +kernel) (by decide +kernel)
set_option maxRecDepth 20000 in
theorem gX5_world_X5_isObeyable : GoodIn wsX5_world (wsV RX5 136 RX5 yX5_isObeyable wsX5_isObeyable) := goodIn_app (goodIn_of _ (by decide +kernel)) ggX5_world_X5_isObeyable
set_option maxRecDepth 20000 in
theorem ggX5_world_X0_winningIn : GoodIn wsX5_world wsX0_winningIn := goodIn_r _ [112, 78, 106, 107, 28, 108, 88, 89, 90, 91, 30, 92, 93, 83, 84, 85, 86, 87, 40, 94, 95, 96, 97, 41, 42, 43, 98, 99, 100, 101, 137, 138, 139, 140, 141, 142, 143, 144, 145, 146] (by decide +kernel) (by decide +kernel)
set_option maxRecDepth 20000 in
theorem gX5_world_X0_winningIn : GoodIn wsX5_world (wsV RX5 177 RX0 yX0_winningIn wsX0_winningIn) := goodIn_app (goodIn_of _ (by decide +kernel)) ggX5_world_X0_winningIn
theorem dX5_world_0 : decode cX5_world 0 = .ok (.aload_n 0, 1) := by decide +kernel
theorem dX5_world_1 : decode cX5_world 1 = .ok (.iload_n 1, 1) := by decide +kernel
theorem dX5_world_2 : decode cX5_world 2 = .ok (.iconst 5, 1) := by decide +kernel
theorem dX5_world_3 : decode cX5_world 3 = .ok (.invokevirtual 133, 3) := by decide +kernel
theorem dX5_world_6 : decode cX5_world 6 = .ok (.ifCond .ne 5, 3) := by decide +kernel
theorem dX5_world_9 : decode cX5_world 9 = .ok (.iconst (-1), 1) := by decide +kernel
theorem dX5_world_10 : decode cX5_world 10 = .ok (.ireturn, 1) := by decide +kernel
theorem dX5_world_11 : decode cX5_world 11 = .ok (.aload_n 0, 1) := by decide +kernel
theorem dX5_world_12 : decode cX5_world 12 = .ok (.iload_n 1, 1) := by decide +kernel
theorem dX5_world_13 : decode cX5_world 13 = .ok (.invokevirtual 136, 3) := by decide +kernel
theorem dX5_world_16 : decode cX5_world 16 = .ok (.ifCond .eq 8, 3) := by decide +kernel
theorem dX5_world_19 : decode cX5_world 19 = .ok (.bipush (-4), 2) := by decide +kernel
theorem dX5_world_21 : decode cX5_world 21 = .ok (.goto 11, 3) := by decide +kernel
theorem dX5_world_24 : decode cX5_world 24 = .ok (.aload_n 0, 1) := by decide +kernel
theorem dX5_world_25 : decode cX5_world 25 = .ok (.getfield 36, 3) := by decide +kernel
theorem dX5_world_28 : decode cX5_world 28 = .ok (.iconst 0, 1) := by decide +kernel
theorem dX5_world_29 : decode cX5_world 29 = .ok (.invokevirtual 177, 3) := by decide +kernel
theorem dX5_world_32 : decode cX5_world 32 = .ok (.ireturn, 1) := by decide +kernel
set_option maxRecDepth 20000 in
theorem ggX5_quarrel_X5_isSet : GoodIn wsX5_quarrel wsX5_isSet := goodIn_r _ [5, 6, 7, 8, 9, 10, 11, 12, 13, 117, 118, 119, 120, 121, 122, 123, 124, 125, 126, 127, 128, 129] (by decide +kernel) (by decide +kernel)
set_option maxRecDepth 20000 in
theorem gX5_quarrel_X5_isSet : GoodIn wsX5_quarrel (wsV RX5 133 RX5 yX5_isSet wsX5_isSet) := goodIn_app (goodIn_of _ (by decide +kernel)) ggX5_quarrel_X5_isSet
set_option maxRecDepth 20000 in
theorem ggX5_quarrel_X5_isObeyable : GoodIn wsX5_quarrel wsX5_isObeyable := goodIn_r _ [17, 18, 19, 20, 21, 4, 22, 6, 23, 24, 25, 26, 27, 28, 29, 30, 31, 32, 33, 34, 35, 36, 37, 38, 39, 40, 41, 42, 43, 44, 45, 46, 47, 48, 49, 50, 51, 52, 53, 54, 55, 56, 57, 58, 59, 60, 61, 62, 63, 64, 65, 66, 67, 68, 69, 70, 71, 72, 73, 74, 75, 76, 77, 78, 79, 80, 81, 82, 83, 84, 85, 86, 87, 88, 89, 90, 91, 92, 93, 94, 95, 96, 97, 98, 99, 100, 101, 102, 103, 104, 105, 106, 107, 108, 117, 118, 119, 120, 121, 122, 123, 124, 125, 126, 127, 128, 129, 130, 131, 132, 133, 134, 135, 136, 137, 138, 139, 140, 141, 142, 143, 144, 145, 146, 147, 148, 149, 150] (by decide +kernel) (by decide +kernel)
set_option maxRecDepth 20000 in
theorem gX5_quarrel_X5_isObeyable : GoodIn wsX5_quarrel (wsV RX5 136 RX5 yX5_isObeyable wsX5_isObeyable) := goodIn_app (goodIn_of _ (by decide +kernel)) ggX5_quarrel_X5_isObeyable
set_option maxRecDepth 20000 in
theorem ggX5_quarrel_J6_bitCount_0f7a4 : GoodIn wsX5_quarrel wsJ6_bitCount_0f7a4 := goodIn_r _ [10, 11, 12, 13] (by decide +kernel) (by decide +kernel)
set_option maxRecDepth 20000 in
theorem gX5_quarrel_J6_bitCount_0f7a4 : GoodIn wsX5_quarrel (va_wsS RX5 101 yJ6_bitCount_0f7a4 wsJ6_bitCount_0f7a4) := goodIn_app (goodIn_of _ (by decide +kernel)) ggX5_quarrel_J6_bitCount_0f7a4
set_option maxRecDepth 20000 in
theorem ggX5_quarrel_X5_firstQuarrelOf : GoodIn wsX5_quarrel wsX5_firstQuarrelOf := goodIn_r _ [112, 7, 8, 9, 10, 11, 12, 13, 113, 114, 115, 4, 116, 6, 33, 34, 35, 14, 15, 16, 17, 18, 19, 20, 21, 22, 23, 24, 25, 26, 27, 28, 29, 30, 31, 32, 36, 37, 38, 39, 40, 41, 42, 43, 44, 45, 46, 47, 48, 49, 50, 51, 52, 53, 54, 55, 56, 57, 58, 59, 60, 61, 62, 63, 64, 65, 66, 67, 68, 69, 70, 71, 72, 73, 74, 75, 76, 77, 78, 79, 80, 81, 82, 83, 84, 85, 86, 87, 88, 89, 90, 91, 92, 93, 94, 95, 96, 97, 98, 99, 100, 101, 102, 103, 104, 105, 106, 107, 108, 117, 118, 119, 120, 121, 122, 123, 124, 125, 126, 127, 128, 129, 130, 131, 132, 133, 134, 135, 136, 137, 138, 139, 140, 141, 142, 143, 144, 145, 146, 147, 148, 149, 150] (by decide +kernel) (by decide +kernel)
set_option maxRecDepth 20000 in
theorem gX5_quarrel_X5_firstQuarrelOf : GoodIn wsX5_quarrel (wsV RX5 180 RX5 yX5_firstQuarrelOf wsX5_firstQuarrelOf) := goodIn_app (goodIn_of _ (by decide +kernel)) ggX5_quarrel_X5_firstQuarrelOf
theorem dX5_quarrel_0 : decode cX5_quarrel 0 = .ok (.aload_n 0, 1) := by decide +kernel
theorem dX5_quarrel_1 : decode cX5_quarrel 1 = .ok (.iload_n 1, 1) := by decide +kernel
theorem dX5_quarrel_2 : decode cX5_quarrel 2 = .ok (.iconst 5, 1) := by decide +kernel
theorem dX5_quarrel_3 : decode cX5_quarrel 3 = .ok (.invokevirtual 133, 3) := by decide +kernel
theorem dX5_quarrel_6 : decode cX5_quarrel 6 = .ok (.ifCond .ne 5, 3) := by decide +kernel
theorem dX5_quarrel_9 : decode cX5_quarrel 9 = .ok (.iconst (-1), 1) := by decide +kernel
theorem dX5_quarrel_10 : decode cX5_quarrel 10 = .ok (.ireturn, 1) := by decide +kernel
theorem dX5_quarrel_11 : decode cX5_quarrel 11 = .ok (.aload_n 0, 1) := by decide +kernel
theorem dX5_quarrel_12 : decode cX5_quarrel 12 = .ok (.iload_n 1, 1) := by decide +kernel
theorem dX5_quarrel_13 : decode cX5_quarrel 13 = .ok (.invokevirtual 136, 3) := by decide +kernel
theorem dX5_quarrel_16 : decode cX5_quarrel 16 = .ok (.ifCond .eq 6, 3) := by decide +kernel
theorem dX5_quarrel_19 : decode cX5_quarrel 19 = .ok (.bipush (-4), 2) := by decide +kernel
theorem dX5_quarrel_21 : decode cX5_quarrel 21 = .ok (.ireturn, 1) := by decide +kernel
theorem dX5_quarrel_22 : decode cX5_quarrel 22 = .ok (.iload_n 1, 1) := by decide +kernel
theorem dX5_quarrel_23 : decode cX5_quarrel 23 = .ok (.invokestatic 101, 3) := by decide +kernel
theorem dX5_quarrel_26 : decode cX5_quarrel 26 = .ok (.istore_n 2, 1) := by decide +kernel
theorem dX5_quarrel_27 : decode cX5_quarrel 27 = .ok (.iconst 1, 1) := by decide +kernel
theorem dX5_quarrel_28 : decode cX5_quarrel 28 = .ok (.istore_n 3, 1) := by decide +kernel
theorem dX5_quarrel_29 : decode cX5_quarrel 29 = .ok (.iload_n 3, 1) := by decide +kernel
theorem dX5_quarrel_30 : decode cX5_quarrel 30 = .ok (.iload_n 2, 1) := by decide +kernel
theorem dX5_quarrel_31 : decode cX5_quarrel 31 = .ok (.if_icmp .ge 26, 3) := by decide +kernel
theorem dX5_quarrel_34 : decode cX5_quarrel 34 = .ok (.aload_n 0, 1) := by decide +kernel
theorem dX5_quarrel_35 : decode cX5_quarrel 35 = .ok (.iload_n 1, 1) := by decide +kernel
theorem dX5_quarrel_36 : decode cX5_quarrel 36 = .ok (.iload_n 2, 1) := by decide +kernel
theorem dX5_quarrel_37 : decode cX5_quarrel 37 = .ok (.iload_n 3, 1) := by decide +kernel
theorem dX5_quarrel_38 : decode cX5_quarrel 38 = .ok (.invokevirtual 180, 3) := by decide +kernel
theorem dX5_quarrel_41 : decode cX5_quarrel 41 = .ok (.istore 4, 2) := by decide +kernel
theorem dX5_quarrel_43 : decode cX5_quarrel 43 = .ok (.iload 4, 2) := by decide +kernel
theorem dX5_quarrel_45 : decode cX5_quarrel 45 = .ok (.ifCond .eq 6, 3) := by decide +kernel
theorem dX5_quarrel_48 : decode cX5_quarrel 48 = .ok (.iload 4, 2) := by decide +kernel
theorem dX5_quarrel_50 : decode cX5_quarrel 50 = .ok (.ireturn, 1) := by decide +kernel
theorem dX5_quarrel_51 : decode cX5_quarrel 51 = .ok (.iinc 3 1, 3) := by decide +kernel
theorem dX5_quarrel_54 : decode cX5_quarrel 54 = .ok (.goto (-25), 3) := by decide +kernel
theorem dX5_quarrel_57 : decode cX5_quarrel 57 = .ok (.iload_n 1, 1) := by decide +kernel
theorem dX5_quarrel_58 : decode cX5_quarrel 58 = .ok (.ireturn, 1) := by decide +kernel
set_option maxRecDepth 20000 in
theorem ggX5_follows_X5_lawOf : GoodIn wsX5_follows wsX5_lawOf := goodIn_r _ [7, 8, 9, 10, 11, 6, 12, 107, 108, 109, 110, 111, 112, 113, 114, 115, 116, 117, 118, 119] (by decide +kernel) (by decide +kernel)
set_option maxRecDepth 20000 in
theorem gX5_follows_X5_lawOf : GoodIn wsX5_follows (wsV RX5 75 RX5 yX5_lawOf wsX5_lawOf) := goodIn_app (goodIn_of _ (by decide +kernel)) ggX5_follows_X5_lawOf
set_option maxRecDepth 20000 in
theorem ggX5_follows_X5_isSet : GoodIn wsX5_follows wsX5_isSet := goodIn_r _ [16, 8, 17, 18, 19, 20, 21, 22, 23, 107, 108, 109, 110, 111, 112, 113, 114, 115, 116, 117, 118, 119] (by decide +kernel) (by decide +kernel)
set_option maxRecDepth 20000 in
theorem gX5_follows_X5_isSet : GoodIn wsX5_follows (wsV RX5 133 RX5 yX5_isSet wsX5_isSet) := goodIn_app (goodIn_of _ (by decide +kernel)) ggX5_follows_X5_isSet
set_option maxRecDepth 20000 in
theorem ggX5_follows_X5_isIn : GoodIn wsX5_follows wsX5_isIn := goodIn_r _ [26] (by decide +kernel) (by decide +kernel)
set_option maxRecDepth 20000 in
theorem gX5_follows_X5_isIn : GoodIn wsX5_follows (va_wsS RX5 171 yX5_isIn wsX5_isIn) := goodIn_app (goodIn_of _ (by decide +kernel)) ggX5_follows_X5_isIn
set_option maxRecDepth 20000 in
theorem ggX5_follows_X5_lay : GoodIn wsX5_follows wsX5_lay := goodIn_r _ [30, 8, 9, 2, 31, 32, 33, 34, 35, 36, 37, 38, 24, 25, 6, 26, 39, 40, 41, 42, 43, 44, 45, 46, 47, 48, 49, 50, 51, 52, 53, 54, 55, 56, 57, 58, 59, 60, 61, 62, 63, 64, 65, 66, 67, 68, 69, 70, 71, 72, 73, 74, 75, 76, 107, 108, 109, 110, 111, 112, 113, 114, 115, 116, 117, 118, 119, 120, 121, 122, 123, 124, 125, 126, 127, 128, 129, 130, 131, 132, 133, 134, 135, 136, 137, 138, 139, 140] (by decide +kernel) (by decide +kernel)
set_option maxRecDepth 20000 in
theorem gX5_follows_X5_lay : GoodIn wsX5_follows (wsV RX5 139 RX5 yX5_lay wsX5_lay) := goodIn_app (goodIn_of _ (by decide +kernel)) ggX5_follows_X5_lay
set_option maxRecDepth 20000 in
theorem ggX5_follows_X0_enter : GoodIn wsX5_follows wsX0_enter := goodIn_r _ [42, 36, 43, 44, 45, 46, 47, 48, 49, 50, 51, 52, 53, 54, 55, 56, 57, 58, 59, 60, 61, 62, 63, 64, 65, 66, 67, 68, 69, 70, 71, 72, 73, 74, 75, 34, 76, 38, 37, 131, 132, 133, 134, 135, 136, 137, 138, 139, 140, 120, 121, 122, 123, 124, 125, 126, 127, 128, 129, 130] (by decide +kernel) (by decide +kernel)
set_option maxRecDepth 20000 in
theorem gX5_follows_X0_enter : GoodIn wsX5_follows (wsV RX5 184 RX0 yX0_enter wsX0_enter) := goodIn_app (goodIn_of _ (by decide +kernel)) ggX5_follows_X0_enter
set_option maxRecDepth 20000 in
theorem ggX5_follows_X0_lastMayBreakAlone : GoodIn wsX5_follows wsX0_lastMayBreakAlone := goodIn_r _ [80, 38, 81, 37, 82, 83, 84, 34, 85, 36, 43, 86, 87, 88, 89, 90, 91, 92, 93, 94, 95, 96, 97, 98, 99, 100, 101, 102, 103, 44, 45, 46, 131, 132, 133, 134, 135, 136, 137, 138, 139, 140] (by decide +kernel) (by decide +kernel)
set_option maxRecDepth 20000 in
theorem gX5_follows_X0_lastMayBreakAlone : GoodIn wsX5_follows (wsV RX5 188 RX0 yX0_lastMayBreakAlone wsX0_lastMayBreakAlone) := goodIn_app (goodIn_of _ (by decide +kernel)) ggX5_follows_X0_lastMayBreakAlone
set_option maxRecDepth 20000 in
theorem ggX5_follows_X5_bit : GoodIn wsX5_follows wsX5_bit := goodIn_r _ [106] (by decide +kernel) (by decide +kernel)
set_option maxRecDepth 20000 in
theorem gX5_follows_X5_bit : GoodIn wsX5_follows (va_wsS RX5 125 yX5_bit wsX5_bit) := goodIn_app (goodIn_of _ (by decide +kernel)) ggX5_follows_X5_bit
theorem dX5_follows_0 : decode cX5_follows 0 = .ok (.aload_n 0, 1) := by decide +kernel
theorem dX5_follows_1 : decode cX5_follows 1 = .ok (.iload_n 1, 1) := by decide +kernel
theorem dX5_follows_2 : decode cX5_follows 2 = .ok (.invokevirtual 75, 3) := by decide +kernel
theorem dX5_follows_5 : decode cX5_follows 5 = .ok (.astore_n 3, 1) := by decide +kernel
theorem dX5_follows_6 : decode cX5_follows 6 = .ok (.aload_n 3, 1) := by decide +kernel
theorem dX5_follows_7 : decode cX5_follows 7 = .ok (.ifnull 20, 3) := by decide +kernel
theorem dX5_follows_10 : decode cX5_follows 10 = .ok (.aload_n 0, 1) := by decide +kernel
theorem dX5_follows_11 : decode cX5_follows 11 = .ok (.iload_n 2, 1) := by decide +kernel
theorem dX5_follows_12 : decode cX5_follows 12 = .ok (.iconst 4, 1) := by decide +kernel
theorem dX5_follows_13 : decode cX5_follows 13 = .ok (.invokevirtual 133, 3) := by decide +kernel
theorem dX5_follows_16 : decode cX5_follows 16 = .ok (.ifCond .eq 11, 3) := by decide +kernel
theorem dX5_follows_19 : decode cX5_follows 19 = .ok (.iload_n 2, 1) := by decide +kernel
theorem dX5_follows_20 : decode cX5_follows 20 = .ok (.iload_n 1, 1) := by decide +kernel
theorem dX5_follows_21 : decode cX5_follows 21 = .ok (.invokestatic 171, 3) := by decide +kernel
theorem dX5_follows_24 : decode cX5_follows 24 = .ok (.ifCond .eq 5, 3) := by decide +kernel
theorem dX5_follows_27 : decode cX5_follows 27 = .ok (.iconst (-1), 1) := by decide +kernel
theorem dX5_follows_28 : decode cX5_follows 28 = .ok (.ireturn, 1) := by decide +kernel
theorem dX5_follows_29 : decode cX5_follows 29 = .ok (.aload_n 0, 1) := by decide +kernel
theorem dX5_follows_30 : decode cX5_follows 30 = .ok (.aload_n 0, 1) := by decide +kernel
theorem dX5_follows_31 : decode cX5_follows 31 = .ok (.getfield 36, 3) := by decide +kernel
theorem dX5_follows_34 : decode cX5_follows 34 = .ok (.iload_n 2, 1) := by decide +kernel
theorem dX5_follows_35 : decode cX5_follows 35 = .ok (.iconst 0, 1) := by decide +kernel
theorem dX5_follows_36 : decode cX5_follows 36 = .ok (.invokevirtual 139, 3) := by decide +kernel
theorem dX5_follows_39 : decode cX5_follows 39 = .ok (.aload_n 0, 1) := by decide +kernel
theorem dX5_follows_40 : decode cX5_follows 40 = .ok (.getfield 36, 3) := by decide +kernel
theorem dX5_follows_43 : decode cX5_follows 43 = .ok (.aload_n 3, 1) := by decide +kernel
theorem dX5_follows_44 : decode cX5_follows 44 = .ok (.aload_n 3, 1) := by decide +kernel
theorem dX5_follows_45 : decode cX5_follows 45 = .ok (.getfield 85, 3) := by decide +kernel
theorem dX5_follows_48 : decode cX5_follows 48 = .ok (.iconst 0, 1) := by decide +kernel
theorem dX5_follows_49 : decode cX5_follows 49 = .ok (.invokevirtual 184, 3) := by decide +kernel
theorem dX5_follows_52 : decode cX5_follows 52 = .ok (.aload_n 0, 1) := by decide +kernel
theorem dX5_follows_53 : decode cX5_follows 53 = .ok (.getfield 36, 3) := by decide +kernel
theorem dX5_follows_56 : decode cX5_follows 56 = .ok (.invokevirtual 188, 3) := by decide +kernel
theorem dX5_follows_59 : decode cX5_follows 59 = .ok (.ifCond .ne 7, 3) := by decide +kernel
theorem dX5_follows_62 : decode cX5_follows 62 = .ok (.iconst 1, 1) := by decide +kernel
theorem dX5_follows_63 : decode cX5_follows 63 = .ok (.goto 4, 3) := by decide +kernel
theorem dX5_follows_66 : decode cX5_follows 66 = .ok (.iconst 0, 1) := by decide +kernel
theorem dX5_follows_67 : decode cX5_follows 67 = .ok (.invokestatic 125, 3) := by decide +kernel
theorem dX5_follows_70 : decode cX5_follows 70 = .ok (.ireturn, 1) := by decide +kernel
set_option maxRecDepth 20000 in
theorem ggX5_peace_X5_isSet : GoodIn wsX5_peace wsX5_isSet := goodIn_r _ [11, 2, 12, 13, 14, 15, 16, 17, 18, 149, 150, 151, 152, 153, 154, 155, 156, 157, 158, 159, 160, 161] (by decide +kernel) (by decide +kernel)
set_option maxRecDepth 20000 in
theorem gX5_peace_X5_isSet : GoodIn wsX5_peace (wsV RX5 133 RX5 yX5_isSet wsX5_isSet) := goodIn_app (goodIn_of _ (by decide +kernel)) ggX5_peace_X5_isSet
set_option maxRecDepth 20000 in
theorem ggX5_peace_X4_begin : GoodIn wsX5_peace wsX4_begin := goodIn_r _ [23, 24, 25, 162, 163, 164, 165, 166] (by decide +kernel) (by decide +kernel)
set_option maxRecDepth 20000 in
theorem gX5_peace_X4_begin : GoodIn wsX5_peace (wsV RX5 192 RX4 yX4_begin wsX4_begin) := goodIn_app (goodIn_of _ (by decide +kernel)) ggX5_peace_X4_begin
set_option maxRecDepth 20000 in
theorem ggX5_peace_X5_isIn : GoodIn wsX5_peace wsX5_isIn := goodIn_r _ [28] (by decide +kernel) (by decide +kernel)
set_option maxRecDepth 20000 in
theorem gX5_peace_X5_isIn : GoodIn wsX5_peace (va_wsS RX5 171 yX5_isIn wsX5_isIn) := goodIn_app (goodIn_of _ (by decide +kernel)) ggX5_peace_X5_isIn
set_option maxRecDepth 20000 in
theorem ggX5_peace_X4_invite : GoodIn wsX5_peace wsX4_invite := goodIn_r _ [32, 24, 33, 162, 163, 164, 165, 166] (by decide +kernel) (by decide +kernel)
set_option maxRecDepth 20000 in
theorem gX5_peace_X4_invite : GoodIn wsX5_peace (wsV RX5 195 RX4 yX4_invite wsX4_invite) := goodIn_app (goodIn_of _ (by decide +kernel)) ggX5_peace_X4_invite
set_option maxRecDepth 20000 in
theorem ggX5_peace_X4_settle : GoodIn wsX5_peace wsX4_settle := goodIn_r _ [36, 24, 37, 38, 39, 40, 41, 42, 25, 43, 44, 45, 22, 46, 33, 47, 48, 49, 50, 51, 52, 53, 54, 55, 56, 57, 58, 59, 60, 61, 62, 63, 64, 65, 66, 67, 68, 69, 70, 71, 72, 73, 74, 75, 76, 77, 78, 79, 80, 81, 82, 83, 84, 85, 86, 87, 88, 89, 90, 91, 92, 93, 94, 95, 96, 97, 98, 99, 100, 101, 102, 103, 104, 105, 106, 107, 108, 109, 110, 111, 112, 113, 114, 115, 116, 117, 118, 119, 120, 121, 122, 123, 124, 125, 126, 127, 128, 129, 130, 131, 132, 133, 134, 135, 136, 137, 138, 139, 140, 141, 142, 143, 144, 145, 146, 147, 148, 34, 35, 162, 163, 164, 165, 166, 167, 168, 169, 170, 171, 172, 173, 174, 175, 176, 177, 178, 179, 180, 181, 182, 183, 184, 185, 186, 187] (by decide +kernel) (by decide +kernel)
set_option maxRecDepth 20000 in
theorem gX5_peace_X4_settle_n202 : GoodIn wsX5_peace (wsX4_settle) := ggX5_peace_X4_settle
theorem dX5_peace_0 : decode cX5_peace 0 = .ok (.aload_n 0, 1) := by decide +kernel
theorem dX5_peace_1 : decode cX5_peace 1 = .ok (.iload_n 1, 1) := by decide +kernel
theorem dX5_peace_2 : decode cX5_peace 2 = .ok (.iconst 4, 1) := by decide +kernel
theorem dX5_peace_3 : decode cX5_peace 3 = .ok (.invokevirtual 133, 3) := by decide +kernel
theorem dX5_peace_6 : decode cX5_peace 6 = .ok (.ifCond .ne 5, 3) := by decide +kernel
theorem dX5_peace_9 : decode cX5_peace 9 = .ok (.iconst (-1), 1) := by decide +kernel
theorem dX5_peace_10 : decode cX5_peace 10 = .ok (.ireturn, 1) := by decide +kernel
theorem dX5_peace_11 : decode cX5_peace 11 = .ok (.aload_n 0, 1) := by decide +kernel
theorem dX5_peace_12 : decode cX5_peace 12 = .ok (.getfield 46, 3) := by decide +kernel
theorem dX5_peace_15 : decode cX5_peace 15 = .ok (.invokevirtual 192, 3) := by decide +kernel
theorem dX5_peace_18 : decode cX5_peace 18 = .ok (.iconst 0, 1) := by decide +kernel
theorem dX5_peace_19 : decode cX5_peace 19 = .ok (.istore_n 2, 1) := by decide +kernel
theorem dX5_peace_20 : decode cX5_peace 20 = .ok (.iload_n 2, 1) := by decide +kernel
theorem dX5_peace_21 : decode cX5_peace 21 = .ok (.aload_n 0, 1) := by decide +kernel
theorem dX5_peace_22 : decode cX5_peace 22 = .ok (.getfield 65, 3) := by decide +kernel
theorem dX5_peace_25 : decode cX5_peace 25 = .ok (.if_icmp .ge 30, 3) := by decide +kernel
theorem dX5_peace_28 : decode cX5_peace 28 = .ok (.iload_n 1, 1) := by decide +kernel
theorem dX5_peace_29 : decode cX5_peace 29 = .ok (.iload_n 2, 1) := by decide +kernel
theorem dX5_peace_30 : decode cX5_peace 30 = .ok (.invokestatic 171, 3) := by decide +kernel
theorem dX5_peace_33 : decode cX5_peace 33 = .ok (.ifCond .eq 16, 3) := by decide +kernel
theorem dX5_peace_36 : decode cX5_peace 36 = .ok (.aload_n 0, 1) := by decide +kernel
theorem dX5_peace_37 : decode cX5_peace 37 = .ok (.getfield 46, 3) := by decide +kernel
theorem dX5_peace_40 : decode cX5_peace 40 = .ok (.aload_n 0, 1) := by decide +kernel
theorem dX5_peace_41 : decode cX5_peace 41 = .ok (.getfield 18, 3) := by decide +kernel
theorem dX5_peace_44 : decode cX5_peace 44 = .ok (.iload_n 2, 1) := by decide +kernel
theorem dX5_peace_45 : decode cX5_peace 45 = .ok (.aaload, 1) := by decide +kernel
theorem dX5_peace_46 : decode cX5_peace 46 = .ok (.invokevirtual 195, 3) := by decide +kernel
theorem dX5_peace_49 : decode cX5_peace 49 = .ok (.iinc 2 1, 3) := by decide +kernel
theorem dX5_peace_52 : decode cX5_peace 52 = .ok (.goto (-32), 3) := by decide +kernel
theorem dX5_peace_55 : decode cX5_peace 55 = .ok (.aload_n 0, 1) := by decide +kernel
theorem dX5_peace_56 : decode cX5_peace 56 = .ok (.iload_n 1, 1) := by decide +kernel
theorem dX5_peace_57 : decode cX5_peace 57 = .ok (.putfield 199, 3) := by decide +kernel
theorem dX5_peace_60 : decode cX5_peace 60 = .ok (.aload_n 0, 1) := by decide +kernel
theorem dX5_peace_61 : decode cX5_peace 61 = .ok (.getfield 46, 3) := by decide +kernel
theorem dX5_peace_64 : decode cX5_peace 64 = .ok (.aload_n 0, 1) := by decide +kernel
theorem dX5_peace_65 : decode cX5_peace 65 = .ok (.getfield 36, 3) := by decide +kernel
theorem dX5_peace_68 : decode cX5_peace 68 = .ok (.iconst 0, 1) := by decide +kernel
theorem dX5_peace_69 : decode cX5_peace 69 = .ok (.iconst 0, 1) := by decide +kernel
theorem dX5_peace_70 : decode cX5_peace 70 = .ok (.invokevirtual 202, 3) := by decide +kernel
theorem dX5_peace_73 : decode cX5_peace 73 = .ok (.aload_n 0, 1) := by decide +kernel
theorem dX5_peace_74 : decode cX5_peace 74 = .ok (.getfield 46, 3) := by decide +kernel
theorem dX5_peace_77 : decode cX5_peace 77 = .ok (.getfield 206, 3) := by decide +kernel
theorem dX5_peace_80 : decode cX5_peace 80 = .ok (.ireturn, 1) := by decide +kernel
set_option maxRecDepth 20000 in
theorem ggX5_made_X5_isWithin : GoodIn wsX5_made wsX5_isWithin := goodIn_r _ [6] (by decide +kernel) (by decide +kernel)
set_option maxRecDepth 20000 in
theorem gX5_made_X5_isWithin : GoodIn wsX5_made (va_wsS RX5 61 yX5_isWithin wsX5_isWithin) := goodIn_app (goodIn_of _ (by decide +kernel)) ggX5_made_X5_isWithin
set_option maxRecDepth 20000 in
theorem ggX5_made_X5_isIn : GoodIn wsX5_made wsX5_isIn := goodIn_r _ [9] (by decide +kernel) (by decide +kernel)
set_option maxRecDepth 20000 in
theorem gX5_made_X5_isIn : GoodIn wsX5_made (va_wsS RX5 171 yX5_isIn wsX5_isIn) := goodIn_app (goodIn_of _ (by decide +kernel)) ggX5_made_X5_isIn
set_option maxRecDepth 20000 in
theorem ggX5_made_J6_bitCount_0f7a4 : GoodIn wsX5_made wsJ6_bitCount_0f7a4 := goodIn_r _ [13, 14, 15, 16] (by decide +kernel) (by decide +kernel)
set_option maxRecDepth 20000 in
theorem gX5_made_J6_bitCount_0f7a4 : GoodIn wsX5_made (va_wsS RX5 101 yJ6_bitCount_0f7a4 wsJ6_bitCount_0f7a4) := goodIn_app (goodIn_of _ (by decide +kernel)) ggX5_made_J6_bitCount_0f7a4
set_option maxRecDepth 20000 in
theorem ggX5_made_X4_termOf : GoodIn wsX5_made wsX4_termOf := goodIn_r _ [21, 22, 23, 37, 38, 39, 40, 41] (by decide +kernel) (by decide +kernel)
set_option maxRecDepth 20000 in
theorem gX5_made_X4_termOf : GoodIn wsX5_made (wsV RX5 209 RX4 yX4_termOf wsX4_termOf) := goodIn_app (goodIn_of _ (by decide +kernel)) ggX5_made_X4_termOf
theorem dX5_made_0 : decode cX5_made 0 = .ok (.iload_n 1, 1) := by decide +kernel
theorem dX5_made_1 : decode cX5_made 1 = .ok (.iconst 0, 1) := by decide +kernel
theorem dX5_made_2 : decode cX5_made 2 = .ok (.bipush 19, 2) := by decide +kernel
theorem dX5_made_4 : decode cX5_made 4 = .ok (.invokestatic 61, 3) := by decide +kernel
theorem dX5_made_7 : decode cX5_made 7 = .ok (.ifCond .eq 14, 3) := by decide +kernel
theorem dX5_made_10 : decode cX5_made 10 = .ok (.aload_n 0, 1) := by decide +kernel
theorem dX5_made_11 : decode cX5_made 11 = .ok (.getfield 199, 3) := by decide +kernel
theorem dX5_made_14 : decode cX5_made 14 = .ok (.iload_n 1, 1) := by decide +kernel
theorem dX5_made_15 : decode cX5_made 15 = .ok (.invokestatic 171, 3) := by decide +kernel
theorem dX5_made_18 : decode cX5_made 18 = .ok (.ifCond .ne 5, 3) := by decide +kernel
theorem dX5_made_21 : decode cX5_made 21 = .ok (.iconst (-1), 1) := by decide +kernel
theorem dX5_made_22 : decode cX5_made 22 = .ok (.ireturn, 1) := by decide +kernel
theorem dX5_made_23 : decode cX5_made 23 = .ok (.aload_n 0, 1) := by decide +kernel
theorem dX5_made_24 : decode cX5_made 24 = .ok (.getfield 46, 3) := by decide +kernel
theorem dX5_made_27 : decode cX5_made 27 = .ok (.aload_n 0, 1) := by decide +kernel
theorem dX5_made_28 : decode cX5_made 28 = .ok (.getfield 199, 3) := by decide +kernel
theorem dX5_made_31 : decode cX5_made 31 = .ok (.iconst 1, 1) := by decide +kernel
theorem dX5_made_32 : decode cX5_made 32 = .ok (.iload_n 1, 1) := by decide +kernel
theorem dX5_made_33 : decode cX5_made 33 = .ok (.ishl, 1) := by decide +kernel
theorem dX5_made_34 : decode cX5_made 34 = .ok (.iconst 1, 1) := by decide +kernel
theorem dX5_made_35 : decode cX5_made 35 = .ok (.isub, 1) := by decide +kernel
theorem dX5_made_36 : decode cX5_made 36 = .ok (.iand, 1) := by decide +kernel
theorem dX5_made_37 : decode cX5_made 37 = .ok (.invokestatic 101, 3) := by decide +kernel
theorem dX5_made_40 : decode cX5_made 40 = .ok (.invokevirtual 209, 3) := by decide +kernel
theorem dX5_made_43 : decode cX5_made 43 = .ok (.ireturn, 1) := by decide +kernel
set_option maxRecDepth 20000 in
theorem ggX5_told_X5_isWithin : GoodIn wsX5_told wsX5_isWithin := goodIn_r _ [6] (by decide +kernel) (by decide +kernel)
set_option maxRecDepth 20000 in
theorem gX5_told_X5_isWithin : GoodIn wsX5_told (va_wsS RX5 61 yX5_isWithin wsX5_isWithin) := goodIn_app (goodIn_of _ (by decide +kernel)) ggX5_told_X5_isWithin
theorem dX5_told_0 : decode cX5_told 0 = .ok (.iload_n 1, 1) := by decide +kernel
theorem dX5_told_1 : decode cX5_told 1 = .ok (.iconst 0, 1) := by decide +kernel
theorem dX5_told_2 : decode cX5_told 2 = .ok (.bipush 7, 2) := by decide +kernel
theorem dX5_told_4 : decode cX5_told 4 = .ok (.invokestatic 61, 3) := by decide +kernel
theorem dX5_told_7 : decode cX5_told 7 = .ok (.ifCond .eq 13, 3) := by decide +kernel
theorem dX5_told_10 : decode cX5_told 10 = .ok (.iload_n 2, 1) := by decide +kernel
theorem dX5_told_11 : decode cX5_told 11 = .ok (.iconst 0, 1) := by decide +kernel
theorem dX5_told_12 : decode cX5_told 12 = .ok (.bipush 7, 2) := by decide +kernel
theorem dX5_told_14 : decode cX5_told 14 = .ok (.invokestatic 61, 3) := by decide +kernel
theorem dX5_told_17 : decode cX5_told 17 = .ok (.ifCond .ne 5, 3) := by decide +kernel
theorem dX5_told_20 : decode cX5_told 20 = .ok (.iconst (-1), 1) := by decide +kernel
theorem dX5_told_21 : decode cX5_told 21 = .ok (.ireturn, 1) := by decide +kernel
theorem dX5_told_22 : decode cX5_told 22 = .ok (.aload_n 0, 1) := by decide +kernel
theorem dX5_told_23 : decode cX5_told 23 = .ok (.getfield 212, 3) := by decide +kernel
theorem dX5_told_26 : decode cX5_told 26 = .ok (.sipush 200, 3) := by decide +kernel
theorem dX5_told_29 : decode cX5_told 29 = .ok (.if_icmp .lt 6, 3) := by decide +kernel
theorem dX5_told_32 : decode cX5_told 32 = .ok (.bipush (-2), 2) := by decide +kernel
theorem dX5_told_34 : decode cX5_told 34 = .ok (.ireturn, 1) := by decide +kernel
theorem dX5_told_35 : decode cX5_told 35 = .ok (.aload_n 0, 1) := by decide +kernel
theorem dX5_told_36 : decode cX5_told 36 = .ok (.getfield 22, 3) := by decide +kernel
theorem dX5_told_39 : decode cX5_told 39 = .ok (.aload_n 0, 1) := by decide +kernel
theorem dX5_told_40 : decode cX5_told 40 = .ok (.getfield 212, 3) := by decide +kernel
theorem dX5_told_43 : decode cX5_told 43 = .ok (.bipush 8, 2) := by decide +kernel
theorem dX5_told_45 : decode cX5_told 45 = .ok (.iload_n 1, 1) := by decide +kernel
theorem dX5_told_46 : decode cX5_told 46 = .ok (.imul, 1) := by decide +kernel
theorem dX5_told_47 : decode cX5_told 47 = .ok (.iload_n 2, 1) := by decide +kernel
theorem dX5_told_48 : decode cX5_told 48 = .ok (.iadd, 1) := by decide +kernel
theorem dX5_told_49 : decode cX5_told 49 = .ok (.i2b, 1) := by decide +kernel
theorem dX5_told_50 : decode cX5_told 50 = .ok (.bastore, 1) := by decide +kernel
theorem dX5_told_51 : decode cX5_told 51 = .ok (.aload_n 0, 1) := by decide +kernel
theorem dX5_told_52 : decode cX5_told 52 = .ok (.dup, 1) := by decide +kernel
theorem dX5_told_53 : decode cX5_told 53 = .ok (.getfield 212, 3) := by decide +kernel
theorem dX5_told_56 : decode cX5_told 56 = .ok (.iconst 1, 1) := by decide +kernel
theorem dX5_told_57 : decode cX5_told 57 = .ok (.iadd, 1) := by decide +kernel
theorem dX5_told_58 : decode cX5_told 58 = .ok (.putfield 212, 3) := by decide +kernel
theorem dX5_told_61 : decode cX5_told 61 = .ok (.aload_n 0, 1) := by decide +kernel
theorem dX5_told_62 : decode cX5_told 62 = .ok (.getfield 212, 3) := by decide +kernel
theorem dX5_told_65 : decode cX5_told 65 = .ok (.ireturn, 1) := by decide +kernel
theorem dX5_clear_0 : decode cX5_clear 0 = .ok (.aload_n 0, 1) := by decide +kernel
theorem dX5_clear_1 : decode cX5_clear 1 = .ok (.getfield 212, 3) := by decide +kernel
theorem dX5_clear_4 : decode cX5_clear 4 = .ok (.istore_n 1, 1) := by decide +kernel
theorem dX5_clear_5 : decode cX5_clear 5 = .ok (.aload_n 0, 1) := by decide +kernel
theorem dX5_clear_6 : decode cX5_clear 6 = .ok (.iconst 0, 1) := by decide +kernel
theorem dX5_clear_7 : decode cX5_clear 7 = .ok (.putfield 212, 3) := by decide +kernel
theorem dX5_clear_10 : decode cX5_clear 10 = .ok (.iload_n 1, 1) := by decide +kernel
theorem dX5_clear_11 : decode cX5_clear 11 = .ok (.ireturn, 1) := by decide +kernel
set_option maxRecDepth 20000 in
theorem ggX5_held_X5_lawOf : GoodIn wsX5_held wsX5_lawOf := goodIn_r _ [7, 8, 9, 10, 11, 6, 12, 50, 51, 52, 53, 54, 55, 56, 57, 58, 59, 60, 61, 62] (by decide +kernel) (by decide +kernel)
set_option maxRecDepth 20000 in
theorem gX5_held_X5_lawOf : GoodIn wsX5_held (wsV RX5 75 RX5 yX5_lawOf wsX5_lawOf) := goodIn_app (goodIn_of _ (by decide +kernel)) ggX5_held_X5_lawOf
set_option maxRecDepth 20000 in
theorem ggX5_held_X1_firstBroken : GoodIn wsX5_held wsX1_firstBroken := goodIn_r _ [17, 18, 19, 20, 16, 21, 22, 23, 24, 25, 26, 27, 28, 29, 30, 31, 32, 33, 34, 35, 36, 37, 38, 39, 40, 41, 42, 43, 44, 45, 46, 47, 48, 49, 63, 64, 65, 66, 67, 68, 69, 70, 71, 72, 73] (by decide +kernel) (by decide +kernel)
set_option maxRecDepth 20000 in
theorem gX5_held_X1_firstBroken : GoodIn wsX5_held (wsV RX5 215 RX1 yX1_firstBroken wsX1_firstBroken) := goodIn_app (goodIn_of _ (by decide +kernel)) ggX5_held_X1_firstBroken
theorem dX5_held_0 : decode cX5_held 0 = .ok (.aload_n 0, 1) := by decide +kernel
theorem dX5_held_1 : decode cX5_held 1 = .ok (.iload_n 1, 1) := by decide +kernel
theorem dX5_held_2 : decode cX5_held 2 = .ok (.invokevirtual 75, 3) := by decide +kernel
theorem dX5_held_5 : decode cX5_held 5 = .ok (.astore_n 2, 1) := by decide +kernel
theorem dX5_held_6 : decode cX5_held 6 = .ok (.aload_n 2, 1) := by decide +kernel
theorem dX5_held_7 : decode cX5_held 7 = .ok (.ifnonnull 7, 3) := by decide +kernel
theorem dX5_held_10 : decode cX5_held 10 = .ok (.iconst (-1), 1) := by decide +kernel
theorem dX5_held_11 : decode cX5_held 11 = .ok (.goto 15, 3) := by decide +kernel
theorem dX5_held_14 : decode cX5_held 14 = .ok (.aload_n 2, 1) := by decide +kernel
theorem dX5_held_15 : decode cX5_held 15 = .ok (.aload_n 0, 1) := by decide +kernel
theorem dX5_held_16 : decode cX5_held 16 = .ok (.getfield 22, 3) := by decide +kernel
theorem dX5_held_19 : decode cX5_held 19 = .ok (.aload_n 0, 1) := by decide +kernel
theorem dX5_held_20 : decode cX5_held 20 = .ok (.getfield 212, 3) := by decide +kernel
theorem dX5_held_23 : decode cX5_held 23 = .ok (.invokevirtual 215, 3) := by decide +kernel
theorem dX5_held_26 : decode cX5_held 26 = .ok (.ireturn, 1) := by decide +kernel
set_option maxRecDepth 20000 in
theorem ggX5_kept_X5_isDay : GoodIn wsX5_kept wsX5_isDay := goodIn_r _ [8, 9, 10, 7, 11] (by decide +kernel) (by decide +kernel)
set_option maxRecDepth 20000 in
theorem gX5_kept_X5_isDay : GoodIn wsX5_kept (va_wsS RX5 219 yX5_isDay wsX5_isDay) := goodIn_app (goodIn_of _ (by decide +kernel)) ggX5_kept_X5_isDay
set_option maxRecDepth 20000 in
theorem ggX5_kept_X1_isKnown : GoodIn wsX5_kept wsX1_isKnown := goodIn_r _ [16, 17, 18, 68, 69, 70, 71, 72, 73, 74, 75, 76, 77, 78] (by decide +kernel) (by decide +kernel)
set_option maxRecDepth 20000 in
theorem gX5_kept_X1_isKnown : GoodIn wsX5_kept (wsV RX5 222 RX1 yX1_isKnown wsX1_isKnown) := goodIn_app (goodIn_of _ (by decide +kernel)) ggX5_kept_X1_isKnown
set_option maxRecDepth 20000 in
theorem ggX5_kept_X1_firstBroken : GoodIn wsX5_kept wsX1_firstBroken := goodIn_r _ [22, 23, 24, 25, 15, 26, 27, 28, 29, 30, 31, 32, 33, 34, 35, 36, 37, 38, 39, 40, 41, 42, 43, 44, 45, 46, 47, 48, 49, 50, 51, 52, 53, 54, 68, 69, 70, 71, 72, 73, 74, 75, 76, 77, 78] (by decide +kernel) (by decide +kernel)
set_option maxRecDepth 20000 in
theorem gX5_kept_X1_firstBroken : GoodIn wsX5_kept (wsV RX5 215 RX1 yX1_firstBroken wsX1_firstBroken) := goodIn_app (goodIn_of _ (by decide +kernel)) ggX5_kept_X1_firstBroken
theorem dX5_kept_0 : decode cX5_kept 0 = .ok (.iload_n 1, 1) := by decide +kernel
theorem dX5_kept_1 : decode cX5_kept 1 = .ok (.invokestatic 219, 3) := by decide +kernel
theorem dX5_kept_4 : decode cX5_kept 4 = .ok (.ifCond .ne 5, 3) := by decide +kernel
theorem dX5_kept_7 : decode cX5_kept 7 = .ok (.iconst (-1), 1) := by decide +kernel
theorem dX5_kept_8 : decode cX5_kept 8 = .ok (.ireturn, 1) := by decide +kernel
theorem dX5_kept_9 : decode cX5_kept 9 = .ok (.iconst 0, 1) := by decide +kernel
theorem dX5_kept_10 : decode cX5_kept 10 = .ok (.istore_n 2, 1) := by decide +kernel
theorem dX5_kept_11 : decode cX5_kept 11 = .ok (.iconst 0, 1) := by decide +kernel
theorem dX5_kept_12 : decode cX5_kept 12 = .ok (.istore_n 3, 1) := by decide +kernel
theorem dX5_kept_13 : decode cX5_kept 13 = .ok (.iload_n 3, 1) := by decide +kernel
theorem dX5_kept_14 : decode cX5_kept 14 = .ok (.aload_n 0, 1) := by decide +kernel
theorem dX5_kept_15 : decode cX5_kept 15 = .ok (.getfield 65, 3) := by decide +kernel
theorem dX5_kept_18 : decode cX5_kept 18 = .ok (.if_icmp .ge 47, 3) := by decide +kernel
theorem dX5_kept_21 : decode cX5_kept 21 = .ok (.aload_n 0, 1) := by decide +kernel
theorem dX5_kept_22 : decode cX5_kept 22 = .ok (.getfield 18, 3) := by decide +kernel
theorem dX5_kept_25 : decode cX5_kept 25 = .ok (.iload_n 3, 1) := by decide +kernel
theorem dX5_kept_26 : decode cX5_kept 26 = .ok (.aaload, 1) := by decide +kernel
theorem dX5_kept_27 : decode cX5_kept 27 = .ok (.iload_n 1, 1) := by decide +kernel
theorem dX5_kept_28 : decode cX5_kept 28 = .ok (.invokevirtual 222, 3) := by decide +kernel
theorem dX5_kept_31 : decode cX5_kept 31 = .ok (.ifCond .eq 28, 3) := by decide +kernel
theorem dX5_kept_34 : decode cX5_kept 34 = .ok (.aload_n 0, 1) := by decide +kernel
theorem dX5_kept_35 : decode cX5_kept 35 = .ok (.getfield 18, 3) := by decide +kernel
theorem dX5_kept_38 : decode cX5_kept 38 = .ok (.iload_n 3, 1) := by decide +kernel
theorem dX5_kept_39 : decode cX5_kept 39 = .ok (.aaload, 1) := by decide +kernel
theorem dX5_kept_40 : decode cX5_kept 40 = .ok (.aload_n 0, 1) := by decide +kernel
theorem dX5_kept_41 : decode cX5_kept 41 = .ok (.getfield 22, 3) := by decide +kernel
theorem dX5_kept_44 : decode cX5_kept 44 = .ok (.aload_n 0, 1) := by decide +kernel
theorem dX5_kept_45 : decode cX5_kept 45 = .ok (.getfield 212, 3) := by decide +kernel
theorem dX5_kept_48 : decode cX5_kept 48 = .ok (.invokevirtual 215, 3) := by decide +kernel
theorem dX5_kept_51 : decode cX5_kept 51 = .ok (.bipush (-4), 2) := by decide +kernel
theorem dX5_kept_53 : decode cX5_kept 53 = .ok (.if_icmp .ne 6, 3) := by decide +kernel
theorem dX5_kept_56 : decode cX5_kept 56 = .ok (.iinc 2 1, 3) := by decide +kernel
theorem dX5_kept_59 : decode cX5_kept 59 = .ok (.iinc 3 1, 3) := by decide +kernel
theorem dX5_kept_62 : decode cX5_kept 62 = .ok (.goto (-49), 3) := by decide +kernel
theorem dX5_kept_65 : decode cX5_kept 65 = .ok (.iload_n 2, 1) := by decide +kernel
theorem dX5_kept_66 : decode cX5_kept 66 = .ok (.ireturn, 1) := by decide +kernel
set_option maxRecDepth 20000 in
theorem ggX5_part_X2_add : GoodIn wsX5_part wsX2_add := goodIn_r _ [6, 7, 21, 22] (by decide +kernel) (by decide +kernel)
set_option maxRecDepth 20000 in
theorem gX5_part_X2_add : GoodIn wsX5_part (wsV RX5 225 RX2 yX2_add wsX2_add) := goodIn_app (goodIn_of _ (by decide +kernel)) ggX5_part_X2_add
theorem dX5_part_0 : decode cX5_part 0 = .ok (.aload_n 0, 1) := by decide +kernel
theorem dX5_part_1 : decode cX5_part 1 = .ok (.getfield 29, 3) := by decide +kernel
theorem dX5_part_4 : decode cX5_part 4 = .ok (.invokevirtual 225, 3) := by decide +kernel
theorem dX5_part_7 : decode cX5_part 7 = .ok (.ireturn, 1) := by decide +kernel
set_option maxRecDepth 20000 in
theorem ggX5_use_X5_isBit : GoodIn wsX5_use wsX5_isBit := goodIn_r _ [5] (by decide +kernel) (by decide +kernel)
set_option maxRecDepth 20000 in
theorem gX5_use_X5_isBit : GoodIn wsX5_use (va_wsS RX5 110 yX5_isBit wsX5_isBit) := goodIn_app (goodIn_of _ (by decide +kernel)) ggX5_use_X5_isBit
set_option maxRecDepth 20000 in
theorem ggX5_use_X2_link : GoodIn wsX5_use wsX2_link := goodIn_r _ [10, 11, 12, 13, 14, 9, 15, 16, 17, 4, 18, 19, 20, 21, 22, 36, 37] (by decide +kernel) (by decide +kernel)
set_option maxRecDepth 20000 in
theorem gX5_use_X2_link : GoodIn wsX5_use (wsV RX5 228 RX2 yX2_link wsX2_link) := goodIn_app (goodIn_of _ (by decide +kernel)) ggX5_use_X2_link
theorem dX5_use_0 : decode cX5_use 0 = .ok (.iload_n 3, 1) := by decide +kernel
theorem dX5_use_1 : decode cX5_use 1 = .ok (.invokestatic 110, 3) := by decide +kernel
theorem dX5_use_4 : decode cX5_use 4 = .ok (.ifCond .eq 16, 3) := by decide +kernel
theorem dX5_use_7 : decode cX5_use 7 = .ok (.aload_n 0, 1) := by decide +kernel
theorem dX5_use_8 : decode cX5_use 8 = .ok (.getfield 29, 3) := by decide +kernel
theorem dX5_use_11 : decode cX5_use 11 = .ok (.iload_n 1, 1) := by decide +kernel
theorem dX5_use_12 : decode cX5_use 12 = .ok (.iload_n 2, 1) := by decide +kernel
theorem dX5_use_13 : decode cX5_use 13 = .ok (.iload_n 3, 1) := by decide +kernel
theorem dX5_use_14 : decode cX5_use 14 = .ok (.invokevirtual 228, 3) := by decide +kernel
theorem dX5_use_17 : decode cX5_use 17 = .ok (.goto 4, 3) := by decide +kernel
theorem dX5_use_20 : decode cX5_use 20 = .ok (.iconst (-1), 1) := by decide +kernel
theorem dX5_use_21 : decode cX5_use 21 = .ok (.ireturn, 1) := by decide +kernel
set_option maxRecDepth 20000 in
theorem ggX5_lead_X5_lawOf : GoodIn wsX5_lead wsX5_lawOf := goodIn_r _ [7, 8, 9, 10, 11, 6, 12, 31, 32, 33, 34, 35, 36, 37, 38, 39, 40, 41, 42, 43] (by decide +kernel) (by decide +kernel)
set_option maxRecDepth 20000 in
theorem gX5_lead_X5_lawOf : GoodIn wsX5_lead (wsV RX5 75 RX5 yX5_lawOf wsX5_lawOf) := goodIn_app (goodIn_of _ (by decide +kernel)) ggX5_lead_X5_lawOf
set_option maxRecDepth 20000 in
theorem ggX5_lead_X2_has : GoodIn wsX5_lead wsX2_has := goodIn_r _ [17, 18, 55, 56] (by decide +kernel) (by decide +kernel)
set_option maxRecDepth 20000 in
theorem gX5_lead_X2_has : GoodIn wsX5_lead (wsV RX5 231 RX2 yX2_has wsX2_has) := goodIn_app (goodIn_of _ (by decide +kernel)) ggX5_lead_X2_has
set_option maxRecDepth 20000 in
theorem ggX5_lead_X5_isBit : GoodIn wsX5_lead wsX5_isBit := goodIn_r _ [21] (by decide +kernel) (by decide +kernel)
set_option maxRecDepth 20000 in
theorem gX5_lead_X5_isBit : GoodIn wsX5_lead (va_wsS RX5 110 yX5_isBit wsX5_isBit) := goodIn_app (goodIn_of _ (by decide +kernel)) ggX5_lead_X5_isBit
set_option maxRecDepth 20000 in
theorem ggX5_lead_X5_isIn : GoodIn wsX5_lead wsX5_isIn := goodIn_r _ [24] (by decide +kernel) (by decide +kernel)
set_option maxRecDepth 20000 in
theorem gX5_lead_X5_isIn : GoodIn wsX5_lead (va_wsS RX5 171 yX5_isIn wsX5_isIn) := goodIn_app (goodIn_of _ (by decide +kernel)) ggX5_lead_X5_isIn
set_option maxRecDepth 20000 in
theorem ggX5_lead_X5_bit : GoodIn wsX5_lead wsX5_bit := goodIn_r _ [27] (by decide +kernel) (by decide +kernel)
set_option maxRecDepth 20000 in
theorem gX5_lead_X5_bit : GoodIn wsX5_lead (va_wsS RX5 125 yX5_bit wsX5_bit) := goodIn_app (goodIn_of _ (by decide +kernel)) ggX5_lead_X5_bit
set_option maxRecDepth 20000 in
theorem ggX5_lead_X5_withBit : GoodIn wsX5_lead wsX5_withBit := goodIn_r _ [30] (by decide +kernel) (by decide +kernel)
set_option maxRecDepth 20000 in
theorem gX5_lead_X5_withBit : GoodIn wsX5_lead (va_wsS RX5 233 yX5_withBit wsX5_withBit) := goodIn_app (goodIn_of _ (by decide +kernel)) ggX5_lead_X5_withBit
theorem dX5_lead_0 : decode cX5_lead 0 = .ok (.aload_n 0, 1) := by decide +kernel
theorem dX5_lead_1 : decode cX5_lead 1 = .ok (.iload_n 1, 1) := by decide +kernel
theorem dX5_lead_2 : decode cX5_lead 2 = .ok (.invokevirtual 75, 3) := by decide +kernel
theorem dX5_lead_5 : decode cX5_lead 5 = .ok (.astore 4, 2) := by decide +kernel
theorem dX5_lead_7 : decode cX5_lead 7 = .ok (.aload 4, 2) := by decide +kernel
theorem dX5_lead_9 : decode cX5_lead 9 = .ok (.ifnull 21, 3) := by decide +kernel
theorem dX5_lead_12 : decode cX5_lead 12 = .ok (.aload_n 0, 1) := by decide +kernel
theorem dX5_lead_13 : decode cX5_lead 13 = .ok (.getfield 29, 3) := by decide +kernel
theorem dX5_lead_16 : decode cX5_lead 16 = .ok (.iload_n 2, 1) := by decide +kernel
theorem dX5_lead_17 : decode cX5_lead 17 = .ok (.invokevirtual 231, 3) := by decide +kernel
theorem dX5_lead_20 : decode cX5_lead 20 = .ok (.ifCond .eq 10, 3) := by decide +kernel
theorem dX5_lead_23 : decode cX5_lead 23 = .ok (.iload_n 3, 1) := by decide +kernel
theorem dX5_lead_24 : decode cX5_lead 24 = .ok (.invokestatic 110, 3) := by decide +kernel
theorem dX5_lead_27 : decode cX5_lead 27 = .ok (.ifCond .ne 5, 3) := by decide +kernel
theorem dX5_lead_30 : decode cX5_lead 30 = .ok (.iconst (-1), 1) := by decide +kernel
theorem dX5_lead_31 : decode cX5_lead 31 = .ok (.ireturn, 1) := by decide +kernel
theorem dX5_lead_32 : decode cX5_lead 32 = .ok (.aload 4, 2) := by decide +kernel
theorem dX5_lead_34 : decode cX5_lead 34 = .ok (.getfield 98, 3) := by decide +kernel
theorem dX5_lead_37 : decode cX5_lead 37 = .ok (.iload_n 2, 1) := by decide +kernel
theorem dX5_lead_38 : decode cX5_lead 38 = .ok (.invokestatic 171, 3) := by decide +kernel
theorem dX5_lead_41 : decode cX5_lead 41 = .ok (.invokestatic 125, 3) := by decide +kernel
theorem dX5_lead_44 : decode cX5_lead 44 = .ok (.istore 5, 2) := by decide +kernel
theorem dX5_lead_46 : decode cX5_lead 46 = .ok (.aload 4, 2) := by decide +kernel
theorem dX5_lead_48 : decode cX5_lead 48 = .ok (.aload 4, 2) := by decide +kernel
theorem dX5_lead_50 : decode cX5_lead 50 = .ok (.getfield 98, 3) := by decide +kernel
theorem dX5_lead_53 : decode cX5_lead 53 = .ok (.iload_n 2, 1) := by decide +kernel
theorem dX5_lead_54 : decode cX5_lead 54 = .ok (.iload_n 3, 1) := by decide +kernel
theorem dX5_lead_55 : decode cX5_lead 55 = .ok (.invokestatic 233, 3) := by decide +kernel
theorem dX5_lead_58 : decode cX5_lead 58 = .ok (.putfield 98, 3) := by decide +kernel
theorem dX5_lead_61 : decode cX5_lead 61 = .ok (.iload 5, 2) := by decide +kernel
theorem dX5_lead_63 : decode cX5_lead 63 = .ok (.ireturn, 1) := by decide +kernel
set_option maxRecDepth 20000 in
theorem ggX5_gaps_X5_isDay : GoodIn wsX5_gaps wsX5_isDay := goodIn_r _ [7, 8, 9, 6, 10] (by decide +kernel) (by decide +kernel)
set_option maxRecDepth 20000 in
theorem gX5_gaps_X5_isDay : GoodIn wsX5_gaps (va_wsS RX5 219 yX5_isDay wsX5_isDay) := goodIn_app (goodIn_of _ (by decide +kernel)) ggX5_gaps_X5_isDay
set_option maxRecDepth 20000 in
theorem ggX5_gaps_X1_isKnown : GoodIn wsX5_gaps wsX1_isKnown := goodIn_r _ [15, 16, 17, 31, 32, 33, 34, 35, 36, 37, 38, 39, 40, 41] (by decide +kernel) (by decide +kernel)
set_option maxRecDepth 20000 in
theorem gX5_gaps_X1_isKnown : GoodIn wsX5_gaps (wsV RX5 222 RX1 yX1_isKnown wsX1_isKnown) := goodIn_app (goodIn_of _ (by decide +kernel)) ggX5_gaps_X1_isKnown
theorem dX5_gaps_0 : decode cX5_gaps 0 = .ok (.iload_n 1, 1) := by decide +kernel
theorem dX5_gaps_1 : decode cX5_gaps 1 = .ok (.invokestatic 219, 3) := by decide +kernel
theorem dX5_gaps_4 : decode cX5_gaps 4 = .ok (.ifCond .ne 5, 3) := by decide +kernel
theorem dX5_gaps_7 : decode cX5_gaps 7 = .ok (.iconst (-1), 1) := by decide +kernel
theorem dX5_gaps_8 : decode cX5_gaps 8 = .ok (.ireturn, 1) := by decide +kernel
theorem dX5_gaps_9 : decode cX5_gaps 9 = .ok (.iconst 0, 1) := by decide +kernel
theorem dX5_gaps_10 : decode cX5_gaps 10 = .ok (.istore_n 2, 1) := by decide +kernel
theorem dX5_gaps_11 : decode cX5_gaps 11 = .ok (.iconst 0, 1) := by decide +kernel
theorem dX5_gaps_12 : decode cX5_gaps 12 = .ok (.istore_n 3, 1) := by decide +kernel
theorem dX5_gaps_13 : decode cX5_gaps 13 = .ok (.iload_n 3, 1) := by decide +kernel
theorem dX5_gaps_14 : decode cX5_gaps 14 = .ok (.aload_n 0, 1) := by decide +kernel
theorem dX5_gaps_15 : decode cX5_gaps 15 = .ok (.getfield 65, 3) := by decide +kernel
theorem dX5_gaps_18 : decode cX5_gaps 18 = .ok (.if_icmp .ge 40, 3) := by decide +kernel
theorem dX5_gaps_21 : decode cX5_gaps 21 = .ok (.aload_n 0, 1) := by decide +kernel
theorem dX5_gaps_22 : decode cX5_gaps 22 = .ok (.getfield 18, 3) := by decide +kernel
theorem dX5_gaps_25 : decode cX5_gaps 25 = .ok (.iload_n 3, 1) := by decide +kernel
theorem dX5_gaps_26 : decode cX5_gaps 26 = .ok (.aaload, 1) := by decide +kernel
theorem dX5_gaps_27 : decode cX5_gaps 27 = .ok (.iload_n 1, 1) := by decide +kernel
theorem dX5_gaps_28 : decode cX5_gaps 28 = .ok (.invokevirtual 222, 3) := by decide +kernel
theorem dX5_gaps_31 : decode cX5_gaps 31 = .ok (.ifCond .eq 21, 3) := by decide +kernel
theorem dX5_gaps_34 : decode cX5_gaps 34 = .ok (.aload_n 0, 1) := by decide +kernel
theorem dX5_gaps_35 : decode cX5_gaps 35 = .ok (.getfield 18, 3) := by decide +kernel
theorem dX5_gaps_38 : decode cX5_gaps 38 = .ok (.iload_n 3, 1) := by decide +kernel
theorem dX5_gaps_39 : decode cX5_gaps 39 = .ok (.aaload, 1) := by decide +kernel
theorem dX5_gaps_40 : decode cX5_gaps 40 = .ok (.getfield 98, 3) := by decide +kernel
theorem dX5_gaps_43 : decode cX5_gaps 43 = .ok (.ifCond .ne 9, 3) := by decide +kernel
theorem dX5_gaps_46 : decode cX5_gaps 46 = .ok (.iload_n 2, 1) := by decide +kernel
theorem dX5_gaps_47 : decode cX5_gaps 47 = .ok (.iconst 1, 1) := by decide +kernel
theorem dX5_gaps_48 : decode cX5_gaps 48 = .ok (.iload_n 3, 1) := by decide +kernel
theorem dX5_gaps_49 : decode cX5_gaps 49 = .ok (.ishl, 1) := by decide +kernel
theorem dX5_gaps_50 : decode cX5_gaps 50 = .ok (.ior, 1) := by decide +kernel
theorem dX5_gaps_51 : decode cX5_gaps 51 = .ok (.istore_n 2, 1) := by decide +kernel
theorem dX5_gaps_52 : decode cX5_gaps 52 = .ok (.iinc 3 1, 3) := by decide +kernel
theorem dX5_gaps_55 : decode cX5_gaps 55 = .ok (.goto (-42), 3) := by decide +kernel
theorem dX5_gaps_58 : decode cX5_gaps 58 = .ok (.iload_n 2, 1) := by decide +kernel
theorem dX5_gaps_59 : decode cX5_gaps 59 = .ok (.ireturn, 1) := by decide +kernel
set_option maxRecDepth 20000 in
theorem ggX5_bare_X5_isDay : GoodIn wsX5_bare wsX5_isDay := goodIn_r _ [8, 9, 10, 7, 11] (by decide +kernel) (by decide +kernel)
set_option maxRecDepth 20000 in
theorem gX5_bare_X5_isDay : GoodIn wsX5_bare (va_wsS RX5 219 yX5_isDay wsX5_isDay) := goodIn_app (goodIn_of _ (by decide +kernel)) ggX5_bare_X5_isDay
set_option maxRecDepth 20000 in
theorem ggX5_bare_X1_isKnown : GoodIn wsX5_bare wsX1_isKnown := goodIn_r _ [16, 17, 18, 45, 46, 47, 48, 49, 50, 51, 52, 53, 54, 55] (by decide +kernel) (by decide +kernel)
set_option maxRecDepth 20000 in
theorem gX5_bare_X1_isKnown : GoodIn wsX5_bare (wsV RX5 222 RX1 yX1_isKnown wsX1_isKnown) := goodIn_app (goodIn_of _ (by decide +kernel)) ggX5_bare_X1_isKnown
set_option maxRecDepth 20000 in
theorem ggX5_bare_X2_all : GoodIn wsX5_bare wsX2_all := goodIn_r _ [23, 24, 56, 57] (by decide +kernel) (by decide +kernel)
set_option maxRecDepth 20000 in
theorem gX5_bare_X2_all : GoodIn wsX5_bare (wsV RX5 236 RX2 yX2_all wsX2_all) := goodIn_app (goodIn_of _ (by decide +kernel)) ggX5_bare_X2_all
set_option maxRecDepth 20000 in
theorem ggX5_bare_X2_withUsed : GoodIn wsX5_bare wsX2_withUsed := goodIn_r _ [28, 24, 29, 30, 7, 31, 56, 57] (by decide +kernel) (by decide +kernel)
set_option maxRecDepth 20000 in
theorem gX5_bare_X2_withUsed : GoodIn wsX5_bare (wsV RX5 239 RX2 yX2_withUsed wsX2_withUsed) := goodIn_app (goodIn_of _ (by decide +kernel)) ggX5_bare_X2_withUsed
theorem dX5_bare_0 : decode cX5_bare 0 = .ok (.iload_n 1, 1) := by decide +kernel
theorem dX5_bare_1 : decode cX5_bare 1 = .ok (.invokestatic 219, 3) := by decide +kernel
theorem dX5_bare_4 : decode cX5_bare 4 = .ok (.ifCond .ne 5, 3) := by decide +kernel
theorem dX5_bare_7 : decode cX5_bare 7 = .ok (.iconst (-1), 1) := by decide +kernel
theorem dX5_bare_8 : decode cX5_bare 8 = .ok (.ireturn, 1) := by decide +kernel
theorem dX5_bare_9 : decode cX5_bare 9 = .ok (.iconst 0, 1) := by decide +kernel
theorem dX5_bare_10 : decode cX5_bare 10 = .ok (.istore_n 2, 1) := by decide +kernel
theorem dX5_bare_11 : decode cX5_bare 11 = .ok (.iconst 0, 1) := by decide +kernel
theorem dX5_bare_12 : decode cX5_bare 12 = .ok (.istore_n 3, 1) := by decide +kernel
theorem dX5_bare_13 : decode cX5_bare 13 = .ok (.iload_n 3, 1) := by decide +kernel
theorem dX5_bare_14 : decode cX5_bare 14 = .ok (.aload_n 0, 1) := by decide +kernel
theorem dX5_bare_15 : decode cX5_bare 15 = .ok (.getfield 65, 3) := by decide +kernel
theorem dX5_bare_18 : decode cX5_bare 18 = .ok (.if_icmp .ge 34, 3) := by decide +kernel
theorem dX5_bare_21 : decode cX5_bare 21 = .ok (.aload_n 0, 1) := by decide +kernel
theorem dX5_bare_22 : decode cX5_bare 22 = .ok (.getfield 18, 3) := by decide +kernel
theorem dX5_bare_25 : decode cX5_bare 25 = .ok (.iload_n 3, 1) := by decide +kernel
theorem dX5_bare_26 : decode cX5_bare 26 = .ok (.aaload, 1) := by decide +kernel
theorem dX5_bare_27 : decode cX5_bare 27 = .ok (.iload_n 1, 1) := by decide +kernel
theorem dX5_bare_28 : decode cX5_bare 28 = .ok (.invokevirtual 222, 3) := by decide +kernel
theorem dX5_bare_31 : decode cX5_bare 31 = .ok (.ifCond .eq 15, 3) := by decide +kernel
theorem dX5_bare_34 : decode cX5_bare 34 = .ok (.iload_n 2, 1) := by decide +kernel
theorem dX5_bare_35 : decode cX5_bare 35 = .ok (.aload_n 0, 1) := by decide +kernel
theorem dX5_bare_36 : decode cX5_bare 36 = .ok (.getfield 18, 3) := by decide +kernel
theorem dX5_bare_39 : decode cX5_bare 39 = .ok (.iload_n 3, 1) := by decide +kernel
theorem dX5_bare_40 : decode cX5_bare 40 = .ok (.aaload, 1) := by decide +kernel
theorem dX5_bare_41 : decode cX5_bare 41 = .ok (.getfield 98, 3) := by decide +kernel
theorem dX5_bare_44 : decode cX5_bare 44 = .ok (.ior, 1) := by decide +kernel
theorem dX5_bare_45 : decode cX5_bare 45 = .ok (.istore_n 2, 1) := by decide +kernel
theorem dX5_bare_46 : decode cX5_bare 46 = .ok (.iinc 3 1, 3) := by decide +kernel
theorem dX5_bare_49 : decode cX5_bare 49 = .ok (.goto (-36), 3) := by decide +kernel
theorem dX5_bare_52 : decode cX5_bare 52 = .ok (.aload_n 0, 1) := by decide +kernel
theorem dX5_bare_53 : decode cX5_bare 53 = .ok (.getfield 29, 3) := by decide +kernel
theorem dX5_bare_56 : decode cX5_bare 56 = .ok (.invokevirtual 236, 3) := by decide +kernel
theorem dX5_bare_59 : decode cX5_bare 59 = .ok (.aload_n 0, 1) := by decide +kernel
theorem dX5_bare_60 : decode cX5_bare 60 = .ok (.getfield 29, 3) := by decide +kernel
theorem dX5_bare_63 : decode cX5_bare 63 = .ok (.iload_n 2, 1) := by decide +kernel
theorem dX5_bare_64 : decode cX5_bare 64 = .ok (.invokevirtual 239, 3) := by decide +kernel
theorem dX5_bare_67 : decode cX5_bare 67 = .ok (.iconst (-1), 1) := by decide +kernel
theorem dX5_bare_68 : decode cX5_bare 68 = .ok (.ixor, 1) := by decide +kernel
theorem dX5_bare_69 : decode cX5_bare 69 = .ok (.iand, 1) := by decide +kernel
theorem dX5_bare_70 : decode cX5_bare 70 = .ok (.ireturn, 1) := by decide +kernel
set_option maxRecDepth 20000 in
theorem ggX5_reach_X5_lawOf : GoodIn wsX5_reach wsX5_lawOf := goodIn_r _ [7, 8, 9, 10, 11, 6, 12, 20, 21, 22, 23, 24, 25, 26, 27, 28, 29, 30, 31, 32] (by decide +kernel) (by decide +kernel)
set_option maxRecDepth 20000 in
theorem gX5_reach_X5_lawOf : GoodIn wsX5_reach (wsV RX5 75 RX5 yX5_lawOf wsX5_lawOf) := goodIn_app (goodIn_of _ (by decide +kernel)) ggX5_reach_X5_lawOf
set_option maxRecDepth 20000 in
theorem ggX5_reach_X2_withUsers : GoodIn wsX5_reach wsX2_withUsers := goodIn_r _ [17, 18, 19, 44, 45] (by decide +kernel) (by decide +kernel)
set_option maxRecDepth 20000 in
theorem gX5_reach_X2_withUsers : GoodIn wsX5_reach (wsV RX5 242 RX2 yX2_withUsers wsX2_withUsers) := goodIn_app (goodIn_of _ (by decide +kernel)) ggX5_reach_X2_withUsers
theorem dX5_reach_0 : decode cX5_reach 0 = .ok (.aload_n 0, 1) := by decide +kernel
theorem dX5_reach_1 : decode cX5_reach 1 = .ok (.iload_n 1, 1) := by decide +kernel
theorem dX5_reach_2 : decode cX5_reach 2 = .ok (.invokevirtual 75, 3) := by decide +kernel
theorem dX5_reach_5 : decode cX5_reach 5 = .ok (.astore_n 2, 1) := by decide +kernel
theorem dX5_reach_6 : decode cX5_reach 6 = .ok (.aload_n 2, 1) := by decide +kernel
theorem dX5_reach_7 : decode cX5_reach 7 = .ok (.ifnonnull 7, 3) := by decide +kernel
theorem dX5_reach_10 : decode cX5_reach 10 = .ok (.iconst (-1), 1) := by decide +kernel
theorem dX5_reach_11 : decode cX5_reach 11 = .ok (.goto 14, 3) := by decide +kernel
theorem dX5_reach_14 : decode cX5_reach 14 = .ok (.aload_n 0, 1) := by decide +kernel
theorem dX5_reach_15 : decode cX5_reach 15 = .ok (.getfield 29, 3) := by decide +kernel
theorem dX5_reach_18 : decode cX5_reach 18 = .ok (.aload_n 2, 1) := by decide +kernel
theorem dX5_reach_19 : decode cX5_reach 19 = .ok (.getfield 98, 3) := by decide +kernel
theorem dX5_reach_22 : decode cX5_reach 22 = .ok (.invokevirtual 242, 3) := by decide +kernel
theorem dX5_reach_25 : decode cX5_reach 25 = .ok (.ireturn, 1) := by decide +kernel
set_option maxRecDepth 20000 in
theorem ggX5_wants_X2_has : GoodIn wsX5_wants wsX2_has := goodIn_r _ [9, 10, 57, 58] (by decide +kernel) (by decide +kernel)
set_option maxRecDepth 20000 in
theorem gX5_wants_X2_has : GoodIn wsX5_wants (wsV RX5 231 RX2 yX2_has wsX2_has) := goodIn_app (goodIn_of _ (by decide +kernel)) ggX5_wants_X2_has
set_option maxRecDepth 20000 in
theorem ggX5_wants_X5_isDay : GoodIn wsX5_wants wsX5_isDay := goodIn_r _ [14, 15, 16, 13, 17] (by decide +kernel) (by decide +kernel)
set_option maxRecDepth 20000 in
theorem gX5_wants_X5_isDay : GoodIn wsX5_wants (va_wsS RX5 219 yX5_isDay wsX5_isDay) := goodIn_app (goodIn_of _ (by decide +kernel)) ggX5_wants_X5_isDay
set_option maxRecDepth 20000 in
theorem ggX5_wants_X1_isKnown : GoodIn wsX5_wants wsX1_isKnown := goodIn_r _ [22, 23, 24, 46, 47, 48, 49, 50, 51, 52, 53, 54, 55, 56] (by decide +kernel) (by decide +kernel)
set_option maxRecDepth 20000 in
theorem gX5_wants_X1_isKnown : GoodIn wsX5_wants (wsV RX5 222 RX1 yX1_isKnown wsX1_isKnown) := goodIn_app (goodIn_of _ (by decide +kernel)) ggX5_wants_X1_isKnown
set_option maxRecDepth 20000 in
theorem ggX5_wants_X2_withUsers : GoodIn wsX5_wants wsX2_withUsers := goodIn_r _ [28, 10, 29, 57, 58] (by decide +kernel) (by decide +kernel)
set_option maxRecDepth 20000 in
theorem gX5_wants_X2_withUsers : GoodIn wsX5_wants (wsV RX5 242 RX2 yX2_withUsers wsX2_withUsers) := goodIn_app (goodIn_of _ (by decide +kernel)) ggX5_wants_X2_withUsers
set_option maxRecDepth 20000 in
theorem ggX5_wants_X5_isIn : GoodIn wsX5_wants wsX5_isIn := goodIn_r _ [32] (by decide +kernel) (by decide +kernel)
set_option maxRecDepth 20000 in
theorem gX5_wants_X5_isIn : GoodIn wsX5_wants (va_wsS RX5 171 yX5_isIn wsX5_isIn) := goodIn_app (goodIn_of _ (by decide +kernel)) ggX5_wants_X5_isIn
theorem dX5_wants_0 : decode cX5_wants 0 = .ok (.aload_n 0, 1) := by decide +kernel
theorem dX5_wants_1 : decode cX5_wants 1 = .ok (.getfield 29, 3) := by decide +kernel
theorem dX5_wants_4 : decode cX5_wants 4 = .ok (.iload_n 1, 1) := by decide +kernel
theorem dX5_wants_5 : decode cX5_wants 5 = .ok (.invokevirtual 231, 3) := by decide +kernel
theorem dX5_wants_8 : decode cX5_wants 8 = .ok (.ifCond .eq 10, 3) := by decide +kernel
theorem dX5_wants_11 : decode cX5_wants 11 = .ok (.iload_n 2, 1) := by decide +kernel
theorem dX5_wants_12 : decode cX5_wants 12 = .ok (.invokestatic 219, 3) := by decide +kernel
theorem dX5_wants_15 : decode cX5_wants 15 = .ok (.ifCond .ne 5, 3) := by decide +kernel
theorem dX5_wants_18 : decode cX5_wants 18 = .ok (.iconst (-1), 1) := by decide +kernel
theorem dX5_wants_19 : decode cX5_wants 19 = .ok (.ireturn, 1) := by decide +kernel
theorem dX5_wants_20 : decode cX5_wants 20 = .ok (.iconst 0, 1) := by decide +kernel
theorem dX5_wants_21 : decode cX5_wants 21 = .ok (.istore_n 3, 1) := by decide +kernel
theorem dX5_wants_22 : decode cX5_wants 22 = .ok (.iconst 0, 1) := by decide +kernel
theorem dX5_wants_23 : decode cX5_wants 23 = .ok (.istore 4, 2) := by decide +kernel
theorem dX5_wants_25 : decode cX5_wants 25 = .ok (.iload 4, 2) := by decide +kernel
theorem dX5_wants_27 : decode cX5_wants 27 = .ok (.aload_n 0, 1) := by decide +kernel
theorem dX5_wants_28 : decode cX5_wants 28 = .ok (.getfield 65, 3) := by decide +kernel
theorem dX5_wants_31 : decode cX5_wants 31 = .ok (.if_icmp .ge 54, 3) := by decide +kernel
theorem dX5_wants_34 : decode cX5_wants 34 = .ok (.aload_n 0, 1) := by decide +kernel
theorem dX5_wants_35 : decode cX5_wants 35 = .ok (.getfield 18, 3) := by decide +kernel
theorem dX5_wants_38 : decode cX5_wants 38 = .ok (.iload 4, 2) := by decide +kernel
theorem dX5_wants_40 : decode cX5_wants 40 = .ok (.aaload, 1) := by decide +kernel
theorem dX5_wants_41 : decode cX5_wants 41 = .ok (.iload_n 2, 1) := by decide +kernel
theorem dX5_wants_42 : decode cX5_wants 42 = .ok (.invokevirtual 222, 3) := by decide +kernel
theorem dX5_wants_45 : decode cX5_wants 45 = .ok (.ifCond .eq 34, 3) := by decide +kernel
theorem dX5_wants_48 : decode cX5_wants 48 = .ok (.aload_n 0, 1) := by decide +kernel
theorem dX5_wants_49 : decode cX5_wants 49 = .ok (.getfield 29, 3) := by decide +kernel
theorem dX5_wants_52 : decode cX5_wants 52 = .ok (.aload_n 0, 1) := by decide +kernel
theorem dX5_wants_53 : decode cX5_wants 53 = .ok (.getfield 18, 3) := by decide +kernel
theorem dX5_wants_56 : decode cX5_wants 56 = .ok (.iload 4, 2) := by decide +kernel
theorem dX5_wants_58 : decode cX5_wants 58 = .ok (.aaload, 1) := by decide +kernel
theorem dX5_wants_59 : decode cX5_wants 59 = .ok (.getfield 98, 3) := by decide +kernel
theorem dX5_wants_62 : decode cX5_wants 62 = .ok (.invokevirtual 242, 3) := by decide +kernel
theorem dX5_wants_65 : decode cX5_wants 65 = .ok (.iload_n 1, 1) := by decide +kernel
theorem dX5_wants_66 : decode cX5_wants 66 = .ok (.invokestatic 171, 3) := by decide +kernel
theorem dX5_wants_69 : decode cX5_wants 69 = .ok (.ifCond .eq 10, 3) := by decide +kernel
theorem dX5_wants_72 : decode cX5_wants 72 = .ok (.iload_n 3, 1) := by decide +kernel
theorem dX5_wants_73 : decode cX5_wants 73 = .ok (.iconst 1, 1) := by decide +kernel
theorem dX5_wants_74 : decode cX5_wants 74 = .ok (.iload 4, 2) := by decide +kernel
theorem dX5_wants_76 : decode cX5_wants 76 = .ok (.ishl, 1) := by decide +kernel
theorem dX5_wants_77 : decode cX5_wants 77 = .ok (.ior, 1) := by decide +kernel
theorem dX5_wants_78 : decode cX5_wants 78 = .ok (.istore_n 3, 1) := by decide +kernel
theorem dX5_wants_79 : decode cX5_wants 79 = .ok (.iinc 4 1, 3) := by decide +kernel
theorem dX5_wants_82 : decode cX5_wants 82 = .ok (.goto (-57), 3) := by decide +kernel
theorem dX5_wants_85 : decode cX5_wants 85 = .ok (.iload_n 3, 1) := by decide +kernel
theorem dX5_wants_86 : decode cX5_wants 86 = .ok (.ireturn, 1) := by decide +kernel
set_option maxRecDepth 20000 in
theorem ggX5_count_X5_knownToday : GoodIn wsX5_count wsX5_knownToday := goodIn_r _ [12, 1, 13, 2, 14, 15, 16, 17, 18, 19, 20, 21, 22, 23, 24, 25, 26, 27, 28, 29, 30, 31, 32, 33, 44, 45, 46, 47, 48, 49, 50, 51, 52, 53, 54] (by decide +kernel) (by decide +kernel)
set_option maxRecDepth 20000 in
theorem gX5_count_X5_knownToday : GoodIn wsX5_count (wsV RX5 245 RX5 yX5_knownToday wsX5_knownToday) := goodIn_app (goodIn_of _ (by decide +kernel)) ggX5_count_X5_knownToday
theorem dX5_count_0 : decode cX5_count 0 = .ok (.iload_n 1, 1) := by decide +kernel
theorem dX5_count_1 : decode cX5_count 1 = .ok (.tableswitch 75 0 5 #[39, 44, 49, 54, 59, 67], 39) := by decide +kernel
theorem dX5_count_40 : decode cX5_count 40 = .ok (.aload_n 0, 1) := by decide +kernel
theorem dX5_count_41 : decode cX5_count 41 = .ok (.getfield 65, 3) := by decide +kernel
theorem dX5_count_44 : decode cX5_count 44 = .ok (.ireturn, 1) := by decide +kernel
theorem dX5_count_45 : decode cX5_count 45 = .ok (.aload_n 0, 1) := by decide +kernel
theorem dX5_count_46 : decode cX5_count 46 = .ok (.getfield 50, 3) := by decide +kernel
