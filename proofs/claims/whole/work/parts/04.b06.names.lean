theorem dX6_holdsOut_71 : decode cX6_holdsOut 71 = .ok (.iinc 2 1, 3) := by decide +kernel
theorem dX6_holdsOut_74 : decode cX6_holdsOut 74 = .ok (.goto (-72), 3) := by decide +kernel
theorem dX6_holdsOut_77 : decode cX6_holdsOut 77 = .ok (.iconst 1, 1) := by decide +kernel
theorem dX6_holdsOut_78 : decode cX6_holdsOut 78 = .ok (.ireturn, 1) := by decide +kernel
set_option maxRecDepth 20000 in
theorem ggX6_findSafe_X6_findSteps : GoodIn wsX6_findSafe wsX6_findSteps := goodIn_r _ [7, 1, 8, 9, 10, 11, 12, 13, 14, 6, 15, 16, 17, 18, 27, 28, 29, 30, 31, 32, 33, 34, 35, 36, 37, 38, 39, 40, 41, 42, 43, 44, 45, 46, 47, 48, 49, 50, 51, 52, 53, 54, 55, 56, 57, 58, 59, 60, 61, 62, 63, 64, 65, 66, 67, 68, 69] (by decide +kernel) (by decide +kernel)
set_option maxRecDepth 20000 in
theorem gX6_findSafe_X6_findSteps : GoodIn wsX6_findSafe (wsV RX6 163 RX6 yX6_findSteps wsX6_findSteps) := goodIn_app (goodIn_of _ (by decide +kernel)) ggX6_findSafe_X6_findSteps
set_option maxRecDepth 20000 in
theorem ggX6_findSafe_X6_holdsOut : GoodIn wsX6_findSafe wsX6_holdsOut := goodIn_r _ [22, 2, 23, 24, 25, 6, 26, 8, 9, 27, 28, 29, 30, 31, 32, 33, 34, 35, 36, 37, 38, 39, 40, 41, 42, 43, 44, 45, 46, 47, 48, 49, 50, 51, 52, 53, 54, 55, 56, 57, 58, 59, 60, 61, 62, 63, 64, 65, 66, 67, 68, 69] (by decide +kernel) (by decide +kernel)
set_option maxRecDepth 20000 in
theorem gX6_findSafe_X6_holdsOut : GoodIn wsX6_findSafe (wsV RX6 166 RX6 yX6_holdsOut wsX6_holdsOut) := goodIn_app (goodIn_of _ (by decide +kernel)) ggX6_findSafe_X6_holdsOut
theorem dX6_findSafe_0 : decode cX6_findSafe 0 = .ok (.aload_n 0, 1) := by decide +kernel
theorem dX6_findSafe_1 : decode cX6_findSafe 1 = .ok (.invokevirtual 163, 3) := by decide +kernel
theorem dX6_findSafe_4 : decode cX6_findSafe 4 = .ok (.iconst 0, 1) := by decide +kernel
theorem dX6_findSafe_5 : decode cX6_findSafe 5 = .ok (.istore_n 1, 1) := by decide +kernel
theorem dX6_findSafe_6 : decode cX6_findSafe 6 = .ok (.iload_n 1, 1) := by decide +kernel
theorem dX6_findSafe_7 : decode cX6_findSafe 7 = .ok (.aload_n 0, 1) := by decide +kernel
theorem dX6_findSafe_8 : decode cX6_findSafe 8 = .ok (.getfield 156, 3) := by decide +kernel
theorem dX6_findSafe_11 : decode cX6_findSafe 11 = .ok (.if_icmp .ge 16, 3) := by decide +kernel
theorem dX6_findSafe_14 : decode cX6_findSafe 14 = .ok (.aload_n 0, 1) := by decide +kernel
theorem dX6_findSafe_15 : decode cX6_findSafe 15 = .ok (.getfield 53, 3) := by decide +kernel
theorem dX6_findSafe_18 : decode cX6_findSafe 18 = .ok (.iload_n 1, 1) := by decide +kernel
theorem dX6_findSafe_19 : decode cX6_findSafe 19 = .ok (.iconst 1, 1) := by decide +kernel
theorem dX6_findSafe_20 : decode cX6_findSafe 20 = .ok (.bastore, 1) := by decide +kernel
theorem dX6_findSafe_21 : decode cX6_findSafe 21 = .ok (.iinc 1 1, 3) := by decide +kernel
theorem dX6_findSafe_24 : decode cX6_findSafe 24 = .ok (.goto (-18), 3) := by decide +kernel
theorem dX6_findSafe_27 : decode cX6_findSafe 27 = .ok (.iconst 1, 1) := by decide +kernel
theorem dX6_findSafe_28 : decode cX6_findSafe 28 = .ok (.istore_n 1, 1) := by decide +kernel
theorem dX6_findSafe_29 : decode cX6_findSafe 29 = .ok (.iload_n 1, 1) := by decide +kernel
theorem dX6_findSafe_30 : decode cX6_findSafe 30 = .ok (.ifCond .eq 50, 3) := by decide +kernel
theorem dX6_findSafe_33 : decode cX6_findSafe 33 = .ok (.iconst 0, 1) := by decide +kernel
theorem dX6_findSafe_34 : decode cX6_findSafe 34 = .ok (.istore_n 1, 1) := by decide +kernel
theorem dX6_findSafe_35 : decode cX6_findSafe 35 = .ok (.iconst 0, 1) := by decide +kernel
theorem dX6_findSafe_36 : decode cX6_findSafe 36 = .ok (.istore_n 2, 1) := by decide +kernel
theorem dX6_findSafe_37 : decode cX6_findSafe 37 = .ok (.iload_n 2, 1) := by decide +kernel
theorem dX6_findSafe_38 : decode cX6_findSafe 38 = .ok (.aload_n 0, 1) := by decide +kernel
theorem dX6_findSafe_39 : decode cX6_findSafe 39 = .ok (.getfield 156, 3) := by decide +kernel
theorem dX6_findSafe_42 : decode cX6_findSafe 42 = .ok (.if_icmp .ge 35, 3) := by decide +kernel
theorem dX6_findSafe_45 : decode cX6_findSafe 45 = .ok (.aload_n 0, 1) := by decide +kernel
theorem dX6_findSafe_46 : decode cX6_findSafe 46 = .ok (.getfield 53, 3) := by decide +kernel
theorem dX6_findSafe_49 : decode cX6_findSafe 49 = .ok (.iload_n 2, 1) := by decide +kernel
theorem dX6_findSafe_50 : decode cX6_findSafe 50 = .ok (.baload, 1) := by decide +kernel
theorem dX6_findSafe_51 : decode cX6_findSafe 51 = .ok (.ifCond .eq 20, 3) := by decide +kernel
theorem dX6_findSafe_54 : decode cX6_findSafe 54 = .ok (.aload_n 0, 1) := by decide +kernel
theorem dX6_findSafe_55 : decode cX6_findSafe 55 = .ok (.iload_n 2, 1) := by decide +kernel
theorem dX6_findSafe_56 : decode cX6_findSafe 56 = .ok (.invokevirtual 166, 3) := by decide +kernel
theorem dX6_findSafe_59 : decode cX6_findSafe 59 = .ok (.ifCond .ne 12, 3) := by decide +kernel
theorem dX6_findSafe_62 : decode cX6_findSafe 62 = .ok (.aload_n 0, 1) := by decide +kernel
theorem dX6_findSafe_63 : decode cX6_findSafe 63 = .ok (.getfield 53, 3) := by decide +kernel
theorem dX6_findSafe_66 : decode cX6_findSafe 66 = .ok (.iload_n 2, 1) := by decide +kernel
theorem dX6_findSafe_67 : decode cX6_findSafe 67 = .ok (.iconst 0, 1) := by decide +kernel
theorem dX6_findSafe_68 : decode cX6_findSafe 68 = .ok (.bastore, 1) := by decide +kernel
theorem dX6_findSafe_69 : decode cX6_findSafe 69 = .ok (.iconst 1, 1) := by decide +kernel
theorem dX6_findSafe_70 : decode cX6_findSafe 70 = .ok (.istore_n 1, 1) := by decide +kernel
theorem dX6_findSafe_71 : decode cX6_findSafe 71 = .ok (.iinc 2 1, 3) := by decide +kernel
theorem dX6_findSafe_74 : decode cX6_findSafe 74 = .ok (.goto (-37), 3) := by decide +kernel
theorem dX6_findSafe_77 : decode cX6_findSafe 77 = .ok (.goto (-48), 3) := by decide +kernel
theorem dX6_findSafe_80 : decode cX6_findSafe 80 = .ok (.return_, 1) := by decide +kernel
set_option maxRecDepth 20000 in
theorem ggX6_can_X6_isSet : GoodIn wsX6_can wsX6_isSet := goodIn_r _ [6, 7, 8, 9, 5, 10, 48, 49, 50, 51, 52, 53, 54, 55, 56, 57, 58, 59, 60, 61, 62, 63, 64, 65, 66, 67, 68, 69, 70, 71, 72, 73, 74, 75, 76, 77, 78, 79, 80, 81, 82, 83, 84, 85, 86, 87, 88, 89, 90] (by decide +kernel) (by decide +kernel)
set_option maxRecDepth 20000 in
theorem gX6_can_X6_isSet : GoodIn wsX6_can (wsV RX6 169 RX6 yX6_isSet wsX6_isSet) := goodIn_app (goodIn_of _ (by decide +kernel)) ggX6_can_X6_isSet
set_option maxRecDepth 20000 in
theorem ggX6_can_X6_takeSet : GoodIn wsX6_can wsX6_takeSet := goodIn_r _ [14, 15, 7, 16, 17, 18, 19, 5, 20, 21, 22, 48, 49, 50, 51, 52, 53, 54, 55, 56, 57, 58, 59, 60, 61, 62, 63, 64, 65, 66, 67, 68, 69, 70, 71, 72, 73, 74, 75, 76, 77, 78, 79, 80, 81, 82, 83, 84, 85, 86, 87, 88, 89, 90] (by decide +kernel) (by decide +kernel)
set_option maxRecDepth 20000 in
theorem gX6_can_X6_takeSet : GoodIn wsX6_can (wsV RX6 173 RX6 yX6_takeSet wsX6_takeSet) := goodIn_app (goodIn_of _ (by decide +kernel)) ggX6_can_X6_takeSet
set_option maxRecDepth 20000 in
theorem ggX6_can_X6_findSafe : GoodIn wsX6_can wsX6_findSafe := goodIn_r _ [26, 27, 1, 28, 29, 30, 5, 31, 15, 32, 21, 22, 33, 34, 35, 36, 37, 38, 39, 40, 41, 42, 43, 44, 45, 46, 47, 48, 49, 50, 51, 52, 53, 54, 55, 56, 57, 58, 59, 60, 61, 62, 63, 64, 65, 66, 67, 68, 69, 70, 71, 72, 73, 74, 75, 76, 77, 78, 79, 80, 81, 82, 83, 84, 85, 86, 87, 88, 89, 90] (by decide +kernel) (by decide +kernel)
set_option maxRecDepth 20000 in
theorem gX6_can_X6_findSafe : GoodIn wsX6_can (wsV RX6 177 RX6 yX6_findSafe wsX6_findSafe) := goodIn_app (goodIn_of _ (by decide +kernel)) ggX6_can_X6_findSafe
theorem dX6_can_0 : decode cX6_can 0 = .ok (.aload_n 0, 1) := by decide +kernel
theorem dX6_can_1 : decode cX6_can 1 = .ok (.iload_n 1, 1) := by decide +kernel
theorem dX6_can_2 : decode cX6_can 2 = .ok (.iconst 5, 1) := by decide +kernel
theorem dX6_can_3 : decode cX6_can 3 = .ok (.invokevirtual 169, 3) := by decide +kernel
theorem dX6_can_6 : decode cX6_can 6 = .ok (.ifCond .ne 5, 3) := by decide +kernel
theorem dX6_can_9 : decode cX6_can 9 = .ok (.iconst (-1), 1) := by decide +kernel
theorem dX6_can_10 : decode cX6_can 10 = .ok (.ireturn, 1) := by decide +kernel
theorem dX6_can_11 : decode cX6_can 11 = .ok (.aload_n 0, 1) := by decide +kernel
theorem dX6_can_12 : decode cX6_can 12 = .ok (.iload_n 1, 1) := by decide +kernel
theorem dX6_can_13 : decode cX6_can 13 = .ok (.invokevirtual 173, 3) := by decide +kernel
theorem dX6_can_16 : decode cX6_can 16 = .ok (.aload_n 0, 1) := by decide +kernel
theorem dX6_can_17 : decode cX6_can 17 = .ok (.invokevirtual 177, 3) := by decide +kernel
theorem dX6_can_20 : decode cX6_can 20 = .ok (.aload_n 0, 1) := by decide +kernel
theorem dX6_can_21 : decode cX6_can 21 = .ok (.getfield 53, 3) := by decide +kernel
theorem dX6_can_24 : decode cX6_can 24 = .ok (.iconst 0, 1) := by decide +kernel
theorem dX6_can_25 : decode cX6_can 25 = .ok (.baload, 1) := by decide +kernel
theorem dX6_can_26 : decode cX6_can 26 = .ok (.ifCond .eq 7, 3) := by decide +kernel
theorem dX6_can_29 : decode cX6_can 29 = .ok (.iconst 1, 1) := by decide +kernel
theorem dX6_can_30 : decode cX6_can 30 = .ok (.goto 4, 3) := by decide +kernel
theorem dX6_can_33 : decode cX6_can 33 = .ok (.iconst 0, 1) := by decide +kernel
theorem dX6_can_34 : decode cX6_can 34 = .ok (.ireturn, 1) := by decide +kernel
set_option maxRecDepth 20000 in
theorem ggX6_safe_X6_isSet : GoodIn wsX6_safe wsX6_isSet := goodIn_r _ [7, 8, 9, 10, 6, 11, 48, 49, 50, 51, 52, 53, 54, 55, 56, 57, 58, 59, 60, 61, 62, 63, 64, 65, 66, 67, 68, 69, 70, 71, 72, 73, 74, 75, 76, 77, 78, 79, 80, 81, 82, 83, 84, 85, 86, 87, 88, 89, 90] (by decide +kernel) (by decide +kernel)
set_option maxRecDepth 20000 in
theorem gX6_safe_X6_isSet : GoodIn wsX6_safe (wsV RX6 169 RX6 yX6_isSet wsX6_isSet) := goodIn_app (goodIn_of _ (by decide +kernel)) ggX6_safe_X6_isSet
set_option maxRecDepth 20000 in
theorem ggX6_safe_X6_takeSet : GoodIn wsX6_safe wsX6_takeSet := goodIn_r _ [15, 16, 8, 17, 18, 19, 20, 6, 21, 22, 23, 48, 49, 50, 51, 52, 53, 54, 55, 56, 57, 58, 59, 60, 61, 62, 63, 64, 65, 66, 67, 68, 69, 70, 71, 72, 73, 74, 75, 76, 77, 78, 79, 80, 81, 82, 83, 84, 85, 86, 87, 88, 89, 90] (by decide +kernel) (by decide +kernel)
set_option maxRecDepth 20000 in
theorem gX6_safe_X6_takeSet : GoodIn wsX6_safe (wsV RX6 173 RX6 yX6_takeSet wsX6_takeSet) := goodIn_app (goodIn_of _ (by decide +kernel)) ggX6_safe_X6_takeSet
set_option maxRecDepth 20000 in
theorem ggX6_safe_X6_findSafe : GoodIn wsX6_safe wsX6_findSafe := goodIn_r _ [27, 1, 2, 28, 29, 30, 6, 31, 16, 32, 22, 23, 33, 34, 35, 36, 37, 38, 39, 40, 41, 42, 43, 44, 45, 46, 47, 48, 49, 50, 51, 52, 53, 54, 55, 56, 57, 58, 59, 60, 61, 62, 63, 64, 65, 66, 67, 68, 69, 70, 71, 72, 73, 74, 75, 76, 77, 78, 79, 80, 81, 82, 83, 84, 85, 86, 87, 88, 89, 90] (by decide +kernel) (by decide +kernel)
set_option maxRecDepth 20000 in
theorem gX6_safe_X6_findSafe : GoodIn wsX6_safe (wsV RX6 177 RX6 yX6_findSafe wsX6_findSafe) := goodIn_app (goodIn_of _ (by decide +kernel)) ggX6_safe_X6_findSafe
theorem dX6_safe_0 : decode cX6_safe 0 = .ok (.aload_n 0, 1) := by decide +kernel
theorem dX6_safe_1 : decode cX6_safe 1 = .ok (.iload_n 1, 1) := by decide +kernel
theorem dX6_safe_2 : decode cX6_safe 2 = .ok (.iconst 5, 1) := by decide +kernel
theorem dX6_safe_3 : decode cX6_safe 3 = .ok (.invokevirtual 169, 3) := by decide +kernel
theorem dX6_safe_6 : decode cX6_safe 6 = .ok (.ifCond .ne 5, 3) := by decide +kernel
theorem dX6_safe_9 : decode cX6_safe 9 = .ok (.iconst (-1), 1) := by decide +kernel
theorem dX6_safe_10 : decode cX6_safe 10 = .ok (.ireturn, 1) := by decide +kernel
theorem dX6_safe_11 : decode cX6_safe 11 = .ok (.aload_n 0, 1) := by decide +kernel
theorem dX6_safe_12 : decode cX6_safe 12 = .ok (.iload_n 1, 1) := by decide +kernel
theorem dX6_safe_13 : decode cX6_safe 13 = .ok (.invokevirtual 173, 3) := by decide +kernel
theorem dX6_safe_16 : decode cX6_safe 16 = .ok (.aload_n 0, 1) := by decide +kernel
theorem dX6_safe_17 : decode cX6_safe 17 = .ok (.invokevirtual 177, 3) := by decide +kernel
theorem dX6_safe_20 : decode cX6_safe 20 = .ok (.iconst 0, 1) := by decide +kernel
theorem dX6_safe_21 : decode cX6_safe 21 = .ok (.istore_n 2, 1) := by decide +kernel
theorem dX6_safe_22 : decode cX6_safe 22 = .ok (.iconst 0, 1) := by decide +kernel
theorem dX6_safe_23 : decode cX6_safe 23 = .ok (.istore_n 3, 1) := by decide +kernel
theorem dX6_safe_24 : decode cX6_safe 24 = .ok (.iload_n 3, 1) := by decide +kernel
theorem dX6_safe_25 : decode cX6_safe 25 = .ok (.aload_n 0, 1) := by decide +kernel
theorem dX6_safe_26 : decode cX6_safe 26 = .ok (.getfield 156, 3) := by decide +kernel
theorem dX6_safe_29 : decode cX6_safe 29 = .ok (.if_icmp .ge 26, 3) := by decide +kernel
theorem dX6_safe_32 : decode cX6_safe 32 = .ok (.iload_n 2, 1) := by decide +kernel
theorem dX6_safe_33 : decode cX6_safe 33 = .ok (.aload_n 0, 1) := by decide +kernel
theorem dX6_safe_34 : decode cX6_safe 34 = .ok (.getfield 53, 3) := by decide +kernel
theorem dX6_safe_37 : decode cX6_safe 37 = .ok (.iload_n 3, 1) := by decide +kernel
theorem dX6_safe_38 : decode cX6_safe 38 = .ok (.baload, 1) := by decide +kernel
theorem dX6_safe_39 : decode cX6_safe 39 = .ok (.ifCond .eq 7, 3) := by decide +kernel
theorem dX6_safe_42 : decode cX6_safe 42 = .ok (.iconst 1, 1) := by decide +kernel
theorem dX6_safe_43 : decode cX6_safe 43 = .ok (.goto 4, 3) := by decide +kernel
theorem dX6_safe_46 : decode cX6_safe 46 = .ok (.iconst 0, 1) := by decide +kernel
theorem dX6_safe_47 : decode cX6_safe 47 = .ok (.iadd, 1) := by decide +kernel
theorem dX6_safe_48 : decode cX6_safe 48 = .ok (.istore_n 2, 1) := by decide +kernel
theorem dX6_safe_49 : decode cX6_safe 49 = .ok (.iinc 3 1, 3) := by decide +kernel
theorem dX6_safe_52 : decode cX6_safe 52 = .ok (.goto (-28), 3) := by decide +kernel
theorem dX6_safe_55 : decode cX6_safe 55 = .ok (.iload_n 2, 1) := by decide +kernel
theorem dX6_safe_56 : decode cX6_safe 56 = .ok (.ireturn, 1) := by decide +kernel
set_option maxRecDepth 20000 in
theorem ggX6_takePlay_X6_takeSet : GoodIn wsX6_takePlay wsX6_takeSet := goodIn_r _ [6, 7, 8, 9, 10, 11, 12, 5, 13, 14, 15, 42, 43, 44, 45, 46, 47, 48, 49, 50, 51, 52, 53, 54, 55, 56, 57, 58, 59, 60, 61, 62, 63, 64, 65, 66, 67, 68, 69, 70, 71, 72, 73, 74, 75, 76, 77, 78, 79, 80, 81, 82, 83, 84] (by decide +kernel) (by decide +kernel)
set_option maxRecDepth 20000 in
theorem gX6_takePlay_X6_takeSet : GoodIn wsX6_takePlay (wsV RX6 173 RX6 yX6_takeSet wsX6_takeSet) := goodIn_app (goodIn_of _ (by decide +kernel)) ggX6_takePlay_X6_takeSet
set_option maxRecDepth 20000 in
theorem ggX6_takePlay_X6_findSafe : GoodIn wsX6_takePlay wsX6_findSafe := goodIn_r _ [19, 20, 21, 22, 23, 24, 5, 25, 7, 26, 14, 15, 27, 28, 29, 30, 31, 32, 33, 34, 35, 36, 37, 38, 39, 40, 41, 42, 43, 44, 45, 46, 47, 48, 49, 50, 51, 52, 53, 54, 55, 56, 57, 58, 59, 60, 61, 62, 63, 64, 65, 66, 67, 68, 69, 70, 71, 72, 73, 74, 75, 76, 77, 78, 79, 80, 81, 82, 83, 84] (by decide +kernel) (by decide +kernel)
set_option maxRecDepth 20000 in
theorem gX6_takePlay_X6_findSafe : GoodIn wsX6_takePlay (wsV RX6 177 RX6 yX6_findSafe wsX6_findSafe) := goodIn_app (goodIn_of _ (by decide +kernel)) ggX6_takePlay_X6_findSafe
theorem dX6_takePlay_0 : decode cX6_takePlay 0 = .ok (.aload_n 0, 1) := by decide +kernel
theorem dX6_takePlay_1 : decode cX6_takePlay 1 = .ok (.aload_n 0, 1) := by decide +kernel
theorem dX6_takePlay_2 : decode cX6_takePlay 2 = .ok (.getfield 180, 3) := by decide +kernel
theorem dX6_takePlay_5 : decode cX6_takePlay 5 = .ok (.invokevirtual 173, 3) := by decide +kernel
theorem dX6_takePlay_8 : decode cX6_takePlay 8 = .ok (.aload_n 0, 1) := by decide +kernel
theorem dX6_takePlay_9 : decode cX6_takePlay 9 = .ok (.invokevirtual 177, 3) := by decide +kernel
theorem dX6_takePlay_12 : decode cX6_takePlay 12 = .ok (.return_, 1) := by decide +kernel
set_option maxRecDepth 20000 in
theorem ggX6_play_X6_isSet : GoodIn wsX6_play wsX6_isSet := goodIn_r _ [9, 10, 11, 12, 8, 13, 55, 56, 57, 58, 59, 60, 61, 62, 63, 64, 65, 66, 67, 68, 69, 70, 71, 72, 73, 74, 75, 76, 77, 78, 79, 80, 81, 82, 83, 84, 85, 86, 87, 88, 89, 90, 91, 92, 93, 94, 95, 96, 97] (by decide +kernel) (by decide +kernel)
set_option maxRecDepth 20000 in
theorem gX6_play_X6_isSet : GoodIn wsX6_play (wsV RX6 169 RX6 yX6_isSet wsX6_isSet) := goodIn_app (goodIn_of _ (by decide +kernel)) ggX6_play_X6_isSet
set_option maxRecDepth 20000 in
theorem ggX6_play_X6_takePlay : GoodIn wsX6_play wsX6_takePlay := goodIn_r _ [17, 2, 18, 19, 20, 8, 21, 22, 10, 23, 24, 25, 26, 27, 28, 29, 30, 31, 32, 33, 34, 4, 35, 36, 37, 38, 39, 40, 41, 42, 43, 44, 45, 46, 47, 48, 49, 50, 51, 52, 53, 54, 55, 56, 57, 58, 59, 60, 61, 62, 63, 64, 65, 66, 67, 68, 69, 70, 71, 72, 73, 74, 75, 76, 77, 78, 79, 80, 81, 82, 83, 84, 85, 86, 87, 88, 89, 90, 91, 92, 93, 94, 95, 96, 97] (by decide +kernel) (by decide +kernel)
set_option maxRecDepth 20000 in
theorem gX6_play_X6_takePlay : GoodIn wsX6_play (wsV RX6 190 RX6 yX6_takePlay wsX6_takePlay) := goodIn_app (goodIn_of _ (by decide +kernel)) ggX6_play_X6_takePlay
theorem dX6_play_0 : decode cX6_play 0 = .ok (.aload_n 0, 1) := by decide +kernel
theorem dX6_play_1 : decode cX6_play 1 = .ok (.iload_n 1, 1) := by decide +kernel
theorem dX6_play_2 : decode cX6_play 2 = .ok (.iconst 5, 1) := by decide +kernel
theorem dX6_play_3 : decode cX6_play 3 = .ok (.invokevirtual 169, 3) := by decide +kernel
theorem dX6_play_6 : decode cX6_play 6 = .ok (.ifCond .ne 5, 3) := by decide +kernel
theorem dX6_play_9 : decode cX6_play 9 = .ok (.iconst (-1), 1) := by decide +kernel
theorem dX6_play_10 : decode cX6_play 10 = .ok (.ireturn, 1) := by decide +kernel
theorem dX6_play_11 : decode cX6_play 11 = .ok (.aload_n 0, 1) := by decide +kernel
theorem dX6_play_12 : decode cX6_play 12 = .ok (.iconst 1, 1) := by decide +kernel
theorem dX6_play_13 : decode cX6_play 13 = .ok (.putfield 183, 3) := by decide +kernel
theorem dX6_play_16 : decode cX6_play 16 = .ok (.aload_n 0, 1) := by decide +kernel
theorem dX6_play_17 : decode cX6_play 17 = .ok (.iload_n 1, 1) := by decide +kernel
theorem dX6_play_18 : decode cX6_play 18 = .ok (.putfield 180, 3) := by decide +kernel
theorem dX6_play_21 : decode cX6_play 21 = .ok (.aload_n 0, 1) := by decide +kernel
theorem dX6_play_22 : decode cX6_play 22 = .ok (.iconst 0, 1) := by decide +kernel
theorem dX6_play_23 : decode cX6_play 23 = .ok (.putfield 187, 3) := by decide +kernel
theorem dX6_play_26 : decode cX6_play 26 = .ok (.aload_n 0, 1) := by decide +kernel
theorem dX6_play_27 : decode cX6_play 27 = .ok (.invokevirtual 190, 3) := by decide +kernel
theorem dX6_play_30 : decode cX6_play 30 = .ok (.aload_n 0, 1) := by decide +kernel
theorem dX6_play_31 : decode cX6_play 31 = .ok (.getfield 53, 3) := by decide +kernel
theorem dX6_play_34 : decode cX6_play 34 = .ok (.iconst 0, 1) := by decide +kernel
theorem dX6_play_35 : decode cX6_play 35 = .ok (.baload, 1) := by decide +kernel
theorem dX6_play_36 : decode cX6_play 36 = .ok (.ifCond .eq 7, 3) := by decide +kernel
theorem dX6_play_39 : decode cX6_play 39 = .ok (.iconst 1, 1) := by decide +kernel
theorem dX6_play_40 : decode cX6_play 40 = .ok (.goto 4, 3) := by decide +kernel
theorem dX6_play_43 : decode cX6_play 43 = .ok (.iconst 0, 1) := by decide +kernel
theorem dX6_play_44 : decode cX6_play 44 = .ok (.ireturn, 1) := by decide +kernel
set_option maxRecDepth 20000 in
theorem ggX6_openFor_X6_takePlay : GoodIn wsX6_openFor wsX6_takePlay := goodIn_r _ [8, 9, 10, 11, 12, 7, 13, 14, 15, 16, 17, 18, 19, 20, 21, 22, 23, 24, 25, 26, 27, 3, 28, 29, 30, 31, 32, 33, 34, 35, 36, 37, 38, 39, 40, 41, 42, 43, 44, 45, 46, 47, 48, 49, 50, 51, 52, 53, 54, 55, 56, 57, 58, 59, 60, 61, 62, 63, 64, 65, 66, 67, 68, 69, 70, 71, 72, 73, 74, 75, 76, 77, 78, 79, 80, 81, 82, 83, 84, 85, 86, 87, 88, 89, 90] (by decide +kernel) (by decide +kernel)
set_option maxRecDepth 20000 in
theorem gX6_openFor_X6_takePlay : GoodIn wsX6_openFor (wsV RX6 190 RX6 yX6_takePlay wsX6_takePlay) := goodIn_app (goodIn_of _ (by decide +kernel)) ggX6_openFor_X6_takePlay
set_option maxRecDepth 20000 in
theorem ggX6_openFor_X6_behind : GoodIn wsX6_openFor wsX6_behind := goodIn_r _ [47, 14, 32, 48, 49, 50, 51, 52, 53, 54, 55, 56, 57, 58, 59, 60, 61, 62, 63, 64, 65, 66, 67, 68, 69, 70, 71, 72, 73, 74, 75, 76, 77, 78, 79, 80, 81, 82, 83, 84, 85, 86, 87, 88, 89, 90] (by decide +kernel) (by decide +kernel)
set_option maxRecDepth 20000 in
theorem gX6_openFor_X6_behind : GoodIn wsX6_openFor (wsV RX6 159 RX6 yX6_behind wsX6_behind) := goodIn_app (goodIn_of _ (by decide +kernel)) ggX6_openFor_X6_behind
theorem dX6_openFor_0 : decode cX6_openFor 0 = .ok (.aload_n 0, 1) := by decide +kernel
theorem dX6_openFor_1 : decode cX6_openFor 1 = .ok (.invokevirtual 190, 3) := by decide +kernel
theorem dX6_openFor_4 : decode cX6_openFor 4 = .ok (.iconst 0, 1) := by decide +kernel
theorem dX6_openFor_5 : decode cX6_openFor 5 = .ok (.istore_n 2, 1) := by decide +kernel
theorem dX6_openFor_6 : decode cX6_openFor 6 = .ok (.aload_n 0, 1) := by decide +kernel
theorem dX6_openFor_7 : decode cX6_openFor 7 = .ok (.iconst (-1), 1) := by decide +kernel
theorem dX6_openFor_8 : decode cX6_openFor 8 = .ok (.putfield 193, 3) := by decide +kernel
theorem dX6_openFor_11 : decode cX6_openFor 11 = .ok (.bipush 7, 2) := by decide +kernel
theorem dX6_openFor_13 : decode cX6_openFor 13 = .ok (.istore_n 3, 1) := by decide +kernel
theorem dX6_openFor_14 : decode cX6_openFor 14 = .ok (.iload_n 3, 1) := by decide +kernel
theorem dX6_openFor_15 : decode cX6_openFor 15 = .ok (.ifCond .lt 48, 3) := by decide +kernel
theorem dX6_openFor_18 : decode cX6_openFor 18 = .ok (.aload_n 0, 1) := by decide +kernel
theorem dX6_openFor_19 : decode cX6_openFor 19 = .ok (.aload_n 0, 1) := by decide +kernel
theorem dX6_openFor_20 : decode cX6_openFor 20 = .ok (.getfield 187, 3) := by decide +kernel
theorem dX6_openFor_23 : decode cX6_openFor 23 = .ok (.bipush 8, 2) := by decide +kernel
theorem dX6_openFor_25 : decode cX6_openFor 25 = .ok (.iload_n 1, 1) := by decide +kernel
theorem dX6_openFor_26 : decode cX6_openFor 26 = .ok (.imul, 1) := by decide +kernel
theorem dX6_openFor_27 : decode cX6_openFor 27 = .ok (.iload_n 3, 1) := by decide +kernel
theorem dX6_openFor_28 : decode cX6_openFor 28 = .ok (.iadd, 1) := by decide +kernel
theorem dX6_openFor_29 : decode cX6_openFor 29 = .ok (.invokevirtual 159, 3) := by decide +kernel
theorem dX6_openFor_32 : decode cX6_openFor 32 = .ok (.istore 4, 2) := by decide +kernel
theorem dX6_openFor_34 : decode cX6_openFor 34 = .ok (.iload 4, 2) := by decide +kernel
theorem dX6_openFor_36 : decode cX6_openFor 36 = .ok (.ifCond .lt 21, 3) := by decide +kernel
theorem dX6_openFor_39 : decode cX6_openFor 39 = .ok (.aload_n 0, 1) := by decide +kernel
theorem dX6_openFor_40 : decode cX6_openFor 40 = .ok (.getfield 53, 3) := by decide +kernel
theorem dX6_openFor_43 : decode cX6_openFor 43 = .ok (.iload 4, 2) := by decide +kernel
theorem dX6_openFor_45 : decode cX6_openFor 45 = .ok (.baload, 1) := by decide +kernel
theorem dX6_openFor_46 : decode cX6_openFor 46 = .ok (.ifCond .eq 11, 3) := by decide +kernel
theorem dX6_openFor_49 : decode cX6_openFor 49 = .ok (.iinc 2 1, 3) := by decide +kernel
theorem dX6_openFor_52 : decode cX6_openFor 52 = .ok (.aload_n 0, 1) := by decide +kernel
theorem dX6_openFor_53 : decode cX6_openFor 53 = .ok (.iload_n 3, 1) := by decide +kernel
theorem dX6_openFor_54 : decode cX6_openFor 54 = .ok (.putfield 193, 3) := by decide +kernel
theorem dX6_openFor_57 : decode cX6_openFor 57 = .ok (.iinc 3 (-1), 3) := by decide +kernel
theorem dX6_openFor_60 : decode cX6_openFor 60 = .ok (.goto (-46), 3) := by decide +kernel
theorem dX6_openFor_63 : decode cX6_openFor 63 = .ok (.iload_n 2, 1) := by decide +kernel
theorem dX6_openFor_64 : decode cX6_openFor 64 = .ok (.ireturn, 1) := by decide +kernel
set_option maxRecDepth 20000 in
theorem ggX6_tick_X6_within : GoodIn wsX6_tick wsX6_within := goodIn_r _ [7] (by decide +kernel) (by decide +kernel)
set_option maxRecDepth 20000 in
theorem gX6_tick_X6_within : GoodIn wsX6_tick (va_wsS RX6 94 yX6_within wsX6_within) := goodIn_app (goodIn_of _ (by decide +kernel)) ggX6_tick_X6_within
set_option maxRecDepth 20000 in
theorem ggX6_tick_X6_openFor : GoodIn wsX6_tick wsX6_openFor := goodIn_r _ [11, 2, 3, 12, 13, 14, 15, 6, 16, 17, 18, 19, 20, 21, 22, 23, 24, 25, 26, 27, 28, 29, 30, 31, 32, 33, 34, 35, 36, 37, 38, 39, 40, 41, 42, 43, 44, 45, 46, 47, 48, 49, 50, 51, 52, 53, 54, 55, 56, 57, 58, 59, 60, 61, 62, 63, 64, 65, 66, 67, 68, 69, 70, 71, 72, 73, 74, 75, 76, 77, 78, 79, 80, 81, 82, 83, 84, 85, 86, 87, 88, 89, 90, 91, 92, 93, 94, 95, 96, 97, 98] (by decide +kernel) (by decide +kernel)
set_option maxRecDepth 20000 in
theorem gX6_tick_X6_openFor : GoodIn wsX6_tick (wsV RX6 196 RX6 yX6_openFor wsX6_openFor) := goodIn_app (goodIn_of _ (by decide +kernel)) ggX6_tick_X6_openFor
set_option maxRecDepth 20000 in
theorem ggX6_tick_X6_behind : GoodIn wsX6_tick wsX6_behind := goodIn_r _ [55, 22, 40, 56, 57, 58, 59, 60, 61, 62, 63, 64, 65, 66, 67, 68, 69, 70, 71, 72, 73, 74, 75, 76, 77, 78, 79, 80, 81, 82, 83, 84, 85, 86, 87, 88, 89, 90, 91, 92, 93, 94, 95, 96, 97, 98] (by decide +kernel) (by decide +kernel)
set_option maxRecDepth 20000 in
theorem gX6_tick_X6_behind : GoodIn wsX6_tick (wsV RX6 159 RX6 yX6_behind wsX6_behind) := goodIn_app (goodIn_of _ (by decide +kernel)) ggX6_tick_X6_behind
theorem dX6_tick_0 : decode cX6_tick 0 = .ok (.iload_n 1, 1) := by decide +kernel
theorem dX6_tick_1 : decode cX6_tick 1 = .ok (.iconst 0, 1) := by decide +kernel
theorem dX6_tick_2 : decode cX6_tick 2 = .ok (.bipush 7, 2) := by decide +kernel
theorem dX6_tick_4 : decode cX6_tick 4 = .ok (.invokestatic 94, 3) := by decide +kernel
theorem dX6_tick_7 : decode cX6_tick 7 = .ok (.ifCond .eq 10, 3) := by decide +kernel
theorem dX6_tick_10 : decode cX6_tick 10 = .ok (.aload_n 0, 1) := by decide +kernel
theorem dX6_tick_11 : decode cX6_tick 11 = .ok (.getfield 183, 3) := by decide +kernel
theorem dX6_tick_14 : decode cX6_tick 14 = .ok (.ifCond .ne 5, 3) := by decide +kernel
theorem dX6_tick_17 : decode cX6_tick 17 = .ok (.iconst (-1), 1) := by decide +kernel
theorem dX6_tick_18 : decode cX6_tick 18 = .ok (.ireturn, 1) := by decide +kernel
theorem dX6_tick_19 : decode cX6_tick 19 = .ok (.aload_n 0, 1) := by decide +kernel
theorem dX6_tick_20 : decode cX6_tick 20 = .ok (.iload_n 1, 1) := by decide +kernel
theorem dX6_tick_21 : decode cX6_tick 21 = .ok (.invokevirtual 196, 3) := by decide +kernel
theorem dX6_tick_24 : decode cX6_tick 24 = .ok (.ifCond .ne 11, 3) := by decide +kernel
theorem dX6_tick_27 : decode cX6_tick 27 = .ok (.aload_n 0, 1) := by decide +kernel
theorem dX6_tick_28 : decode cX6_tick 28 = .ok (.iconst 0, 1) := by decide +kernel
theorem dX6_tick_29 : decode cX6_tick 29 = .ok (.putfield 183, 3) := by decide +kernel
theorem dX6_tick_32 : decode cX6_tick 32 = .ok (.bipush (-4), 2) := by decide +kernel
theorem dX6_tick_34 : decode cX6_tick 34 = .ok (.ireturn, 1) := by decide +kernel
theorem dX6_tick_35 : decode cX6_tick 35 = .ok (.aload_n 0, 1) := by decide +kernel
theorem dX6_tick_36 : decode cX6_tick 36 = .ok (.getfield 193, 3) := by decide +kernel
theorem dX6_tick_39 : decode cX6_tick 39 = .ok (.istore_n 2, 1) := by decide +kernel
theorem dX6_tick_40 : decode cX6_tick 40 = .ok (.aload_n 0, 1) := by decide +kernel
theorem dX6_tick_41 : decode cX6_tick 41 = .ok (.aload_n 0, 1) := by decide +kernel
theorem dX6_tick_42 : decode cX6_tick 42 = .ok (.aload_n 0, 1) := by decide +kernel
theorem dX6_tick_43 : decode cX6_tick 43 = .ok (.getfield 187, 3) := by decide +kernel
theorem dX6_tick_46 : decode cX6_tick 46 = .ok (.bipush 8, 2) := by decide +kernel
theorem dX6_tick_48 : decode cX6_tick 48 = .ok (.iload_n 1, 1) := by decide +kernel
theorem dX6_tick_49 : decode cX6_tick 49 = .ok (.imul, 1) := by decide +kernel
theorem dX6_tick_50 : decode cX6_tick 50 = .ok (.iload_n 2, 1) := by decide +kernel
theorem dX6_tick_51 : decode cX6_tick 51 = .ok (.iadd, 1) := by decide +kernel
theorem dX6_tick_52 : decode cX6_tick 52 = .ok (.invokevirtual 159, 3) := by decide +kernel
theorem dX6_tick_55 : decode cX6_tick 55 = .ok (.putfield 187, 3) := by decide +kernel
theorem dX6_tick_58 : decode cX6_tick 58 = .ok (.iload_n 2, 1) := by decide +kernel
theorem dX6_tick_59 : decode cX6_tick 59 = .ok (.ireturn, 1) := by decide +kernel
set_option maxRecDepth 20000 in
theorem ggX6_open_X6_within : GoodIn wsX6_open wsX6_within := goodIn_r _ [5] (by decide +kernel) (by decide +kernel)
set_option maxRecDepth 20000 in
theorem gX6_open_X6_within : GoodIn wsX6_open (va_wsS RX6 94 yX6_within wsX6_within) := goodIn_app (goodIn_of _ (by decide +kernel)) ggX6_open_X6_within
set_option maxRecDepth 20000 in
theorem ggX6_open_X6_openFor : GoodIn wsX6_open wsX6_openFor := goodIn_r _ [9, 10, 11, 12, 13, 14, 15, 4, 16, 17, 18, 19, 20, 21, 22, 23, 24, 25, 26, 27, 28, 29, 30, 31, 32, 33, 34, 35, 36, 37, 38, 39, 40, 41, 42, 43, 44, 45, 46, 47, 48, 49, 50, 51, 52, 53, 54, 55, 56, 57, 58, 59, 60, 61, 62, 63, 64, 65, 66, 67, 68, 69, 70, 71, 72, 73, 74, 75, 76, 77, 78, 79, 80, 81, 82, 83, 84, 85, 86, 87, 88, 89, 90, 91, 92, 93, 94, 95, 96, 97, 98] (by decide +kernel) (by decide +kernel)
set_option maxRecDepth 20000 in
theorem gX6_open_X6_openFor : GoodIn wsX6_open (wsV RX6 196 RX6 yX6_openFor wsX6_openFor) := goodIn_app (goodIn_of _ (by decide +kernel)) ggX6_open_X6_openFor
theorem dX6_open_0 : decode cX6_open 0 = .ok (.iload_n 1, 1) := by decide +kernel
theorem dX6_open_1 : decode cX6_open 1 = .ok (.iconst 0, 1) := by decide +kernel
theorem dX6_open_2 : decode cX6_open 2 = .ok (.bipush 7, 2) := by decide +kernel
theorem dX6_open_4 : decode cX6_open 4 = .ok (.invokestatic 94, 3) := by decide +kernel
theorem dX6_open_7 : decode cX6_open 7 = .ok (.ifCond .eq 18, 3) := by decide +kernel
theorem dX6_open_10 : decode cX6_open 10 = .ok (.aload_n 0, 1) := by decide +kernel
theorem dX6_open_11 : decode cX6_open 11 = .ok (.getfield 183, 3) := by decide +kernel
theorem dX6_open_14 : decode cX6_open 14 = .ok (.ifCond .eq 11, 3) := by decide +kernel
theorem dX6_open_17 : decode cX6_open 17 = .ok (.aload_n 0, 1) := by decide +kernel
theorem dX6_open_18 : decode cX6_open 18 = .ok (.iload_n 1, 1) := by decide +kernel
theorem dX6_open_19 : decode cX6_open 19 = .ok (.invokevirtual 196, 3) := by decide +kernel
theorem dX6_open_22 : decode cX6_open 22 = .ok (.goto 4, 3) := by decide +kernel
theorem dX6_open_25 : decode cX6_open 25 = .ok (.iconst (-1), 1) := by decide +kernel
theorem dX6_open_26 : decode cX6_open 26 = .ok (.ireturn, 1) := by decide +kernel
set_option maxRecDepth 20000 in
theorem ggX6_state_X6_isWant : GoodIn wsX6_state wsX6_isWant := goodIn_r _ [8, 9, 10, 11, 12, 13, 14, 15, 16, 17, 18, 19, 20, 21, 22, 23, 24, 25, 26, 27, 28, 29, 30, 31, 32, 33, 34, 35, 36, 37, 38, 39, 40, 41, 42, 43, 44, 45, 46, 47, 48, 49, 50, 51, 52] (by decide +kernel) (by decide +kernel)
set_option maxRecDepth 20000 in
theorem gX6_state_X6_isWant : GoodIn wsX6_state (wsV RX6 137 RX6 yX6_isWant wsX6_isWant) := goodIn_app (goodIn_of _ (by decide +kernel)) ggX6_state_X6_isWant
theorem dX6_state_0 : decode cX6_state 0 = .ok (.aload_n 0, 1) := by decide +kernel
theorem dX6_state_1 : decode cX6_state 1 = .ok (.iload_n 1, 1) := by decide +kernel
theorem dX6_state_2 : decode cX6_state 2 = .ok (.invokevirtual 137, 3) := by decide +kernel
theorem dX6_state_5 : decode cX6_state 5 = .ok (.ifCond .eq 21, 3) := by decide +kernel
theorem dX6_state_8 : decode cX6_state 8 = .ok (.aload_n 0, 1) := by decide +kernel
theorem dX6_state_9 : decode cX6_state 9 = .ok (.getfield 183, 3) := by decide +kernel
theorem dX6_state_12 : decode cX6_state 12 = .ok (.ifCond .eq 14, 3) := by decide +kernel
theorem dX6_state_15 : decode cX6_state 15 = .ok (.aload_n 0, 1) := by decide +kernel
theorem dX6_state_16 : decode cX6_state 16 = .ok (.getfield 180, 3) := by decide +kernel
theorem dX6_state_19 : decode cX6_state 19 = .ok (.iload_n 1, 1) := by decide +kernel
theorem dX6_state_20 : decode cX6_state 20 = .ok (.ishr, 1) := by decide +kernel
theorem dX6_state_21 : decode cX6_state 21 = .ok (.iconst 1, 1) := by decide +kernel
theorem dX6_state_22 : decode cX6_state 22 = .ok (.iand, 1) := by decide +kernel
theorem dX6_state_23 : decode cX6_state 23 = .ok (.ifCond .ne 5, 3) := by decide +kernel
theorem dX6_state_26 : decode cX6_state 26 = .ok (.iconst (-1), 1) := by decide +kernel
theorem dX6_state_27 : decode cX6_state 27 = .ok (.ireturn, 1) := by decide +kernel
theorem dX6_state_28 : decode cX6_state 28 = .ok (.aload_n 0, 1) := by decide +kernel
theorem dX6_state_29 : decode cX6_state 29 = .ok (.getfield 187, 3) := by decide +kernel
theorem dX6_state_32 : decode cX6_state 32 = .ok (.istore_n 2, 1) := by decide +kernel
theorem dX6_state_33 : decode cX6_state 33 = .ok (.iconst 0, 1) := by decide +kernel
theorem dX6_state_34 : decode cX6_state 34 = .ok (.istore_n 3, 1) := by decide +kernel
theorem dX6_state_35 : decode cX6_state 35 = .ok (.iload_n 3, 1) := by decide +kernel
theorem dX6_state_36 : decode cX6_state 36 = .ok (.iload_n 1, 1) := by decide +kernel
theorem dX6_state_37 : decode cX6_state 37 = .ok (.if_icmp .ge 29, 3) := by decide +kernel
theorem dX6_state_40 : decode cX6_state 40 = .ok (.iload_n 2, 1) := by decide +kernel
theorem dX6_state_41 : decode cX6_state 41 = .ok (.aload_n 0, 1) := by decide +kernel
theorem dX6_state_42 : decode cX6_state 42 = .ok (.getfield 180, 3) := by decide +kernel
theorem dX6_state_45 : decode cX6_state 45 = .ok (.iload_n 3, 1) := by decide +kernel
theorem dX6_state_46 : decode cX6_state 46 = .ok (.ishr, 1) := by decide +kernel
theorem dX6_state_47 : decode cX6_state 47 = .ok (.iconst 1, 1) := by decide +kernel
theorem dX6_state_48 : decode cX6_state 48 = .ok (.iand, 1) := by decide +kernel
theorem dX6_state_49 : decode cX6_state 49 = .ok (.iconst 1, 1) := by decide +kernel
theorem dX6_state_50 : decode cX6_state 50 = .ok (.if_icmp .ne 7, 3) := by decide +kernel
theorem dX6_state_53 : decode cX6_state 53 = .ok (.iconst 4, 1) := by decide +kernel
theorem dX6_state_54 : decode cX6_state 54 = .ok (.goto 4, 3) := by decide +kernel
theorem dX6_state_57 : decode cX6_state 57 = .ok (.iconst 1, 1) := by decide +kernel
theorem dX6_state_58 : decode cX6_state 58 = .ok (.idiv, 1) := by decide +kernel
theorem dX6_state_59 : decode cX6_state 59 = .ok (.istore_n 2, 1) := by decide +kernel
theorem dX6_state_60 : decode cX6_state 60 = .ok (.iinc 3 1, 3) := by decide +kernel
theorem dX6_state_63 : decode cX6_state 63 = .ok (.goto (-28), 3) := by decide +kernel
theorem dX6_state_66 : decode cX6_state 66 = .ok (.iload_n 2, 1) := by decide +kernel
theorem dX6_state_67 : decode cX6_state 67 = .ok (.iconst 4, 1) := by decide +kernel
theorem dX6_state_68 : decode cX6_state 68 = .ok (.irem, 1) := by decide +kernel
theorem dX6_state_69 : decode cX6_state 69 = .ok (.ireturn, 1) := by decide +kernel
set_option maxRecDepth 20000 in
theorem ggX6_breaks_X6_behind : GoodIn wsX6_breaks wsX6_behind := goodIn_r _ [6, 7, 8, 9, 10, 11, 12, 13, 14, 15, 16, 17, 18, 19, 20, 21, 22, 23, 24, 25, 26, 27, 28, 29, 30, 31, 32, 33, 34, 35, 36, 37, 38, 39, 40, 41, 42, 43, 44, 45, 46, 47, 48, 49, 50, 51] (by decide +kernel) (by decide +kernel)
set_option maxRecDepth 20000 in
theorem gX6_breaks_X6_behind : GoodIn wsX6_breaks (wsV RX6 159 RX6 yX6_behind wsX6_behind) := goodIn_app (goodIn_of _ (by decide +kernel)) ggX6_breaks_X6_behind
theorem dX6_breaks_0 : decode cX6_breaks 0 = .ok (.iconst 0, 1) := by decide +kernel
theorem dX6_breaks_1 : decode cX6_breaks 1 = .ok (.istore 4, 2) := by decide +kernel
theorem dX6_breaks_3 : decode cX6_breaks 3 = .ok (.iload 4, 2) := by decide +kernel
theorem dX6_breaks_5 : decode cX6_breaks 5 = .ok (.bipush 8, 2) := by decide +kernel
theorem dX6_breaks_7 : decode cX6_breaks 7 = .ok (.if_icmp .ge 51, 3) := by decide +kernel
theorem dX6_breaks_10 : decode cX6_breaks 10 = .ok (.aload_n 0, 1) := by decide +kernel
theorem dX6_breaks_11 : decode cX6_breaks 11 = .ok (.iload_n 1, 1) := by decide +kernel
theorem dX6_breaks_12 : decode cX6_breaks 12 = .ok (.bipush 8, 2) := by decide +kernel
theorem dX6_breaks_14 : decode cX6_breaks 14 = .ok (.iload_n 2, 1) := by decide +kernel
theorem dX6_breaks_15 : decode cX6_breaks 15 = .ok (.imul, 1) := by decide +kernel
theorem dX6_breaks_16 : decode cX6_breaks 16 = .ok (.iload 4, 2) := by decide +kernel
theorem dX6_breaks_18 : decode cX6_breaks 18 = .ok (.iadd, 1) := by decide +kernel
theorem dX6_breaks_19 : decode cX6_breaks 19 = .ok (.invokevirtual 159, 3) := by decide +kernel
theorem dX6_breaks_22 : decode cX6_breaks 22 = .ok (.istore 5, 2) := by decide +kernel
theorem dX6_breaks_24 : decode cX6_breaks 24 = .ok (.iload 5, 2) := by decide +kernel
theorem dX6_breaks_26 : decode cX6_breaks 26 = .ok (.ifCond .lt 26, 3) := by decide +kernel
theorem dX6_breaks_29 : decode cX6_breaks 29 = .ok (.aload_n 0, 1) := by decide +kernel
theorem dX6_breaks_30 : decode cX6_breaks 30 = .ok (.getfield 57, 3) := by decide +kernel
theorem dX6_breaks_33 : decode cX6_breaks 33 = .ok (.iload 5, 2) := by decide +kernel
theorem dX6_breaks_35 : decode cX6_breaks 35 = .ok (.iaload, 1) := by decide +kernel
theorem dX6_breaks_36 : decode cX6_breaks 36 = .ok (.ifCond .lt 14, 3) := by decide +kernel
theorem dX6_breaks_39 : decode cX6_breaks 39 = .ok (.aload_n 0, 1) := by decide +kernel
theorem dX6_breaks_40 : decode cX6_breaks 40 = .ok (.getfield 57, 3) := by decide +kernel
theorem dX6_breaks_43 : decode cX6_breaks 43 = .ok (.iload 5, 2) := by decide +kernel
theorem dX6_breaks_45 : decode cX6_breaks 45 = .ok (.iaload, 1) := by decide +kernel
theorem dX6_breaks_46 : decode cX6_breaks 46 = .ok (.iload_n 3, 1) := by decide +kernel
theorem dX6_breaks_47 : decode cX6_breaks 47 = .ok (.if_icmp .lt 5, 3) := by decide +kernel
theorem dX6_breaks_50 : decode cX6_breaks 50 = .ok (.iconst 0, 1) := by decide +kernel
theorem dX6_breaks_51 : decode cX6_breaks 51 = .ok (.ireturn, 1) := by decide +kernel
theorem dX6_breaks_52 : decode cX6_breaks 52 = .ok (.iinc 4 1, 3) := by decide +kernel
theorem dX6_breaks_55 : decode cX6_breaks 55 = .ok (.goto (-52), 3) := by decide +kernel
theorem dX6_breaks_58 : decode cX6_breaks 58 = .ok (.iconst 1, 1) := by decide +kernel
theorem dX6_breaks_59 : decode cX6_breaks 59 = .ok (.ireturn, 1) := by decide +kernel
set_option maxRecDepth 20000 in
theorem ggX6_breakingIn_X6_breaks : GoodIn wsX6_breakingIn wsX6_breaks := goodIn_r _ [5, 6, 7, 8, 9, 4, 10, 11, 12, 13, 14, 15, 16, 17, 18, 19, 20, 21, 22, 23, 24, 25, 26, 27, 28, 29, 30, 31, 32, 33, 34, 35, 36, 37, 38, 39, 40, 41, 42, 43, 44, 45, 46, 47, 48, 49, 50, 51, 52, 53, 54, 55] (by decide +kernel) (by decide +kernel)
set_option maxRecDepth 20000 in
theorem gX6_breakingIn_X6_breaks : GoodIn wsX6_breakingIn (wsV RX6 199 RX6 yX6_breaks wsX6_breaks) := goodIn_app (goodIn_of _ (by decide +kernel)) ggX6_breakingIn_X6_breaks
theorem dX6_breakingIn_0 : decode cX6_breakingIn 0 = .ok (.iconst 0, 1) := by decide +kernel
theorem dX6_breakingIn_1 : decode cX6_breakingIn 1 = .ok (.istore_n 3, 1) := by decide +kernel
theorem dX6_breakingIn_2 : decode cX6_breakingIn 2 = .ok (.iload_n 3, 1) := by decide +kernel
theorem dX6_breakingIn_3 : decode cX6_breakingIn 3 = .ok (.bipush 8, 2) := by decide +kernel
theorem dX6_breakingIn_5 : decode cX6_breakingIn 5 = .ok (.if_icmp .ge 21, 3) := by decide +kernel
theorem dX6_breakingIn_8 : decode cX6_breakingIn 8 = .ok (.aload_n 0, 1) := by decide +kernel
theorem dX6_breakingIn_9 : decode cX6_breakingIn 9 = .ok (.iload_n 1, 1) := by decide +kernel
theorem dX6_breakingIn_10 : decode cX6_breakingIn 10 = .ok (.iload_n 3, 1) := by decide +kernel
theorem dX6_breakingIn_11 : decode cX6_breakingIn 11 = .ok (.iload_n 2, 1) := by decide +kernel
theorem dX6_breakingIn_12 : decode cX6_breakingIn 12 = .ok (.invokevirtual 199, 3) := by decide +kernel
theorem dX6_breakingIn_15 : decode cX6_breakingIn 15 = .ok (.ifCond .eq 5, 3) := by decide +kernel
theorem dX6_breakingIn_18 : decode cX6_breakingIn 18 = .ok (.iload_n 3, 1) := by decide +kernel
theorem dX6_breakingIn_19 : decode cX6_breakingIn 19 = .ok (.ireturn, 1) := by decide +kernel
theorem dX6_breakingIn_20 : decode cX6_breakingIn 20 = .ok (.iinc 3 1, 3) := by decide +kernel
theorem dX6_breakingIn_23 : decode cX6_breakingIn 23 = .ok (.goto (-21), 3) := by decide +kernel
theorem dX6_breakingIn_26 : decode cX6_breakingIn 26 = .ok (.iconst (-1), 1) := by decide +kernel
theorem dX6_breakingIn_27 : decode cX6_breakingIn 27 = .ok (.ireturn, 1) := by decide +kernel
set_option maxRecDepth 20000 in
theorem ggX6_findLost_X6_findSteps : GoodIn wsX6_findLost wsX6_findSteps := goodIn_r _ [7, 1, 8, 9, 10, 11, 12, 13, 14, 6, 15, 16, 17, 18, 31, 32, 33, 34, 35, 36, 37, 38, 39, 40, 41, 42, 43, 44, 45, 46, 47, 48, 49, 50, 51, 52, 53, 54, 55, 56, 57, 58, 59, 60, 61, 62, 63, 64, 65, 66, 67, 68, 69, 70, 71, 72, 73] (by decide +kernel) (by decide +kernel)
set_option maxRecDepth 20000 in
theorem gX6_findLost_X6_findSteps : GoodIn wsX6_findLost (wsV RX6 163 RX6 yX6_findSteps wsX6_findSteps) := goodIn_app (goodIn_of _ (by decide +kernel)) ggX6_findLost_X6_findSteps
set_option maxRecDepth 20000 in
theorem ggX6_findLost_X6_breakingIn : GoodIn wsX6_findLost wsX6_breakingIn := goodIn_r _ [22, 23, 24, 25, 6, 26, 2, 27, 28, 29, 30, 8, 9, 31, 32, 33, 34, 35, 36, 37, 38, 39, 40, 41, 42, 43, 44, 45, 46, 47, 48, 49, 50, 51, 52, 53, 54, 55, 56, 57, 58, 59, 60, 61, 62, 63, 64, 65, 66, 67, 68, 69, 70, 71, 72, 73] (by decide +kernel) (by decide +kernel)
set_option maxRecDepth 20000 in
theorem gX6_findLost_X6_breakingIn : GoodIn wsX6_findLost (wsV RX6 202 RX6 yX6_breakingIn wsX6_breakingIn) := goodIn_app (goodIn_of _ (by decide +kernel)) ggX6_findLost_X6_breakingIn
theorem dX6_findLost_0 : decode cX6_findLost 0 = .ok (.aload_n 0, 1) := by decide +kernel
theorem dX6_findLost_1 : decode cX6_findLost 1 = .ok (.invokevirtual 163, 3) := by decide +kernel
theorem dX6_findLost_4 : decode cX6_findLost 4 = .ok (.iconst 0, 1) := by decide +kernel
theorem dX6_findLost_5 : decode cX6_findLost 5 = .ok (.istore_n 1, 1) := by decide +kernel
theorem dX6_findLost_6 : decode cX6_findLost 6 = .ok (.iload_n 1, 1) := by decide +kernel
theorem dX6_findLost_7 : decode cX6_findLost 7 = .ok (.aload_n 0, 1) := by decide +kernel
theorem dX6_findLost_8 : decode cX6_findLost 8 = .ok (.getfield 156, 3) := by decide +kernel
theorem dX6_findLost_11 : decode cX6_findLost 11 = .ok (.if_icmp .ge 16, 3) := by decide +kernel
theorem dX6_findLost_14 : decode cX6_findLost 14 = .ok (.aload_n 0, 1) := by decide +kernel
theorem dX6_findLost_15 : decode cX6_findLost 15 = .ok (.getfield 57, 3) := by decide +kernel
theorem dX6_findLost_18 : decode cX6_findLost 18 = .ok (.iload_n 1, 1) := by decide +kernel
theorem dX6_findLost_19 : decode cX6_findLost 19 = .ok (.iconst (-1), 1) := by decide +kernel
theorem dX6_findLost_20 : decode cX6_findLost 20 = .ok (.iastore, 1) := by decide +kernel
theorem dX6_findLost_21 : decode cX6_findLost 21 = .ok (.iinc 1 1, 3) := by decide +kernel
theorem dX6_findLost_24 : decode cX6_findLost 24 = .ok (.goto (-18), 3) := by decide +kernel
theorem dX6_findLost_27 : decode cX6_findLost 27 = .ok (.iconst 1, 1) := by decide +kernel
theorem dX6_findLost_28 : decode cX6_findLost 28 = .ok (.istore_n 1, 1) := by decide +kernel
theorem dX6_findLost_29 : decode cX6_findLost 29 = .ok (.iconst 1, 1) := by decide +kernel
theorem dX6_findLost_30 : decode cX6_findLost 30 = .ok (.istore_n 2, 1) := by decide +kernel
theorem dX6_findLost_31 : decode cX6_findLost 31 = .ok (.iload_n 1, 1) := by decide +kernel
theorem dX6_findLost_32 : decode cX6_findLost 32 = .ok (.ifCond .eq 54, 3) := by decide +kernel
theorem dX6_findLost_35 : decode cX6_findLost 35 = .ok (.iconst 0, 1) := by decide +kernel
theorem dX6_findLost_36 : decode cX6_findLost 36 = .ok (.istore_n 1, 1) := by decide +kernel
theorem dX6_findLost_37 : decode cX6_findLost 37 = .ok (.iconst 0, 1) := by decide +kernel
theorem dX6_findLost_38 : decode cX6_findLost 38 = .ok (.istore_n 3, 1) := by decide +kernel
theorem dX6_findLost_39 : decode cX6_findLost 39 = .ok (.iload_n 3, 1) := by decide +kernel
theorem dX6_findLost_40 : decode cX6_findLost 40 = .ok (.aload_n 0, 1) := by decide +kernel
theorem dX6_findLost_41 : decode cX6_findLost 41 = .ok (.getfield 156, 3) := by decide +kernel
theorem dX6_findLost_44 : decode cX6_findLost 44 = .ok (.if_icmp .ge 36, 3) := by decide +kernel
theorem dX6_findLost_47 : decode cX6_findLost 47 = .ok (.aload_n 0, 1) := by decide +kernel
theorem dX6_findLost_48 : decode cX6_findLost 48 = .ok (.getfield 57, 3) := by decide +kernel
theorem dX6_findLost_51 : decode cX6_findLost 51 = .ok (.iload_n 3, 1) := by decide +kernel
theorem dX6_findLost_52 : decode cX6_findLost 52 = .ok (.iaload, 1) := by decide +kernel
theorem dX6_findLost_53 : decode cX6_findLost 53 = .ok (.ifCond .ge 21, 3) := by decide +kernel
theorem dX6_findLost_56 : decode cX6_findLost 56 = .ok (.aload_n 0, 1) := by decide +kernel
theorem dX6_findLost_57 : decode cX6_findLost 57 = .ok (.iload_n 3, 1) := by decide +kernel
theorem dX6_findLost_58 : decode cX6_findLost 58 = .ok (.iload_n 2, 1) := by decide +kernel
theorem dX6_findLost_59 : decode cX6_findLost 59 = .ok (.invokevirtual 202, 3) := by decide +kernel
theorem dX6_findLost_62 : decode cX6_findLost 62 = .ok (.ifCond .lt 12, 3) := by decide +kernel
theorem dX6_findLost_65 : decode cX6_findLost 65 = .ok (.aload_n 0, 1) := by decide +kernel
theorem dX6_findLost_66 : decode cX6_findLost 66 = .ok (.getfield 57, 3) := by decide +kernel
theorem dX6_findLost_69 : decode cX6_findLost 69 = .ok (.iload_n 3, 1) := by decide +kernel
theorem dX6_findLost_70 : decode cX6_findLost 70 = .ok (.iload_n 2, 1) := by decide +kernel
theorem dX6_findLost_71 : decode cX6_findLost 71 = .ok (.iastore, 1) := by decide +kernel
theorem dX6_findLost_72 : decode cX6_findLost 72 = .ok (.iconst 1, 1) := by decide +kernel
theorem dX6_findLost_73 : decode cX6_findLost 73 = .ok (.istore_n 1, 1) := by decide +kernel
theorem dX6_findLost_74 : decode cX6_findLost 74 = .ok (.iinc 3 1, 3) := by decide +kernel
theorem dX6_findLost_77 : decode cX6_findLost 77 = .ok (.goto (-38), 3) := by decide +kernel
theorem dX6_findLost_80 : decode cX6_findLost 80 = .ok (.iinc 2 1, 3) := by decide +kernel
theorem dX6_findLost_83 : decode cX6_findLost 83 = .ok (.goto (-52), 3) := by decide +kernel
theorem dX6_findLost_86 : decode cX6_findLost 86 = .ok (.return_, 1) := by decide +kernel
set_option maxRecDepth 20000 in
theorem ggX6_loses_X6_isSet : GoodIn wsX6_loses wsX6_isSet := goodIn_r _ [6, 7, 8, 9, 5, 10, 52, 53, 54, 55, 56, 57, 58, 59, 60, 61, 62, 63, 64, 65, 66, 67, 68, 69, 70, 71, 72, 73, 74, 75, 76, 77, 78, 79, 80, 81, 82, 83, 84, 85, 86, 87, 88, 89, 90, 91, 92, 93, 94] (by decide +kernel) (by decide +kernel)
set_option maxRecDepth 20000 in
theorem gX6_loses_X6_isSet : GoodIn wsX6_loses (wsV RX6 169 RX6 yX6_isSet wsX6_isSet) := goodIn_app (goodIn_of _ (by decide +kernel)) ggX6_loses_X6_isSet
set_option maxRecDepth 20000 in
theorem ggX6_loses_X6_takeSet : GoodIn wsX6_loses wsX6_takeSet := goodIn_r _ [14, 15, 7, 16, 17, 18, 19, 5, 20, 21, 22, 52, 53, 54, 55, 56, 57, 58, 59, 60, 61, 62, 63, 64, 65, 66, 67, 68, 69, 70, 71, 72, 73, 74, 75, 76, 77, 78, 79, 80, 81, 82, 83, 84, 85, 86, 87, 88, 89, 90, 91, 92, 93, 94] (by decide +kernel) (by decide +kernel)
set_option maxRecDepth 20000 in
theorem gX6_loses_X6_takeSet : GoodIn wsX6_loses (wsV RX6 173 RX6 yX6_takeSet wsX6_takeSet) := goodIn_app (goodIn_of _ (by decide +kernel)) ggX6_loses_X6_takeSet
set_option maxRecDepth 20000 in
theorem ggX6_loses_X6_findLost : GoodIn wsX6_loses wsX6_findLost := goodIn_r _ [26, 27, 1, 28, 29, 30, 5, 31, 15, 32, 21, 22, 33, 34, 35, 36, 37, 38, 39, 40, 41, 42, 43, 44, 45, 46, 47, 48, 49, 50, 51, 52, 53, 54, 55, 56, 57, 58, 59, 60, 61, 62, 63, 64, 65, 66, 67, 68, 69, 70, 71, 72, 73, 74, 75, 76, 77, 78, 79, 80, 81, 82, 83, 84, 85, 86, 87, 88, 89, 90, 91, 92, 93, 94] (by decide +kernel) (by decide +kernel)
set_option maxRecDepth 20000 in
theorem gX6_loses_X6_findLost : GoodIn wsX6_loses (wsV RX6 205 RX6 yX6_findLost wsX6_findLost) := goodIn_app (goodIn_of _ (by decide +kernel)) ggX6_loses_X6_findLost
theorem dX6_loses_0 : decode cX6_loses 0 = .ok (.aload_n 0, 1) := by decide +kernel
theorem dX6_loses_1 : decode cX6_loses 1 = .ok (.iload_n 1, 1) := by decide +kernel
theorem dX6_loses_2 : decode cX6_loses 2 = .ok (.iconst 5, 1) := by decide +kernel
theorem dX6_loses_3 : decode cX6_loses 3 = .ok (.invokevirtual 169, 3) := by decide +kernel
theorem dX6_loses_6 : decode cX6_loses 6 = .ok (.ifCond .ne 5, 3) := by decide +kernel
theorem dX6_loses_9 : decode cX6_loses 9 = .ok (.iconst (-1), 1) := by decide +kernel
theorem dX6_loses_10 : decode cX6_loses 10 = .ok (.ireturn, 1) := by decide +kernel
theorem dX6_loses_11 : decode cX6_loses 11 = .ok (.aload_n 0, 1) := by decide +kernel
theorem dX6_loses_12 : decode cX6_loses 12 = .ok (.iload_n 1, 1) := by decide +kernel
theorem dX6_loses_13 : decode cX6_loses 13 = .ok (.invokevirtual 173, 3) := by decide +kernel
theorem dX6_loses_16 : decode cX6_loses 16 = .ok (.aload_n 0, 1) := by decide +kernel
theorem dX6_loses_17 : decode cX6_loses 17 = .ok (.invokevirtual 205, 3) := by decide +kernel
theorem dX6_loses_20 : decode cX6_loses 20 = .ok (.aload_n 0, 1) := by decide +kernel
theorem dX6_loses_21 : decode cX6_loses 21 = .ok (.getfield 57, 3) := by decide +kernel
theorem dX6_loses_24 : decode cX6_loses 24 = .ok (.iconst 0, 1) := by decide +kernel
theorem dX6_loses_25 : decode cX6_loses 25 = .ok (.iaload, 1) := by decide +kernel
theorem dX6_loses_26 : decode cX6_loses 26 = .ok (.ifCond .ge 8, 3) := by decide +kernel
theorem dX6_loses_29 : decode cX6_loses 29 = .ok (.bipush (-4), 2) := by decide +kernel
theorem dX6_loses_31 : decode cX6_loses 31 = .ok (.goto 9, 3) := by decide +kernel
theorem dX6_loses_34 : decode cX6_loses 34 = .ok (.aload_n 0, 1) := by decide +kernel
theorem dX6_loses_35 : decode cX6_loses 35 = .ok (.getfield 57, 3) := by decide +kernel
theorem dX6_loses_38 : decode cX6_loses 38 = .ok (.iconst 0, 1) := by decide +kernel
theorem dX6_loses_39 : decode cX6_loses 39 = .ok (.iaload, 1) := by decide +kernel
theorem dX6_loses_40 : decode cX6_loses 40 = .ok (.ireturn, 1) := by decide +kernel
set_option maxRecDepth 20000 in
theorem ggX6_world_X6_isSet : GoodIn wsX6_world wsX6_isSet := goodIn_r _ [6, 7, 8, 9, 5, 10, 52, 53, 54, 55, 56, 57, 58, 59, 60, 61, 62, 63, 64, 65, 66, 67, 68, 69, 70, 71, 72, 73, 74, 75, 76, 77, 78, 79, 80, 81, 82, 83, 84, 85, 86, 87, 88, 89, 90, 91, 92, 93, 94] (by decide +kernel) (by decide +kernel)
set_option maxRecDepth 20000 in
theorem gX6_world_X6_isSet : GoodIn wsX6_world (wsV RX6 169 RX6 yX6_isSet wsX6_isSet) := goodIn_app (goodIn_of _ (by decide +kernel)) ggX6_world_X6_isSet
set_option maxRecDepth 20000 in
theorem ggX6_world_X6_takeSet : GoodIn wsX6_world wsX6_takeSet := goodIn_r _ [14, 15, 7, 16, 17, 18, 19, 5, 20, 21, 22, 52, 53, 54, 55, 56, 57, 58, 59, 60, 61, 62, 63, 64, 65, 66, 67, 68, 69, 70, 71, 72, 73, 74, 75, 76, 77, 78, 79, 80, 81, 82, 83, 84, 85, 86, 87, 88, 89, 90, 91, 92, 93, 94] (by decide +kernel) (by decide +kernel)
set_option maxRecDepth 20000 in
theorem gX6_world_X6_takeSet : GoodIn wsX6_world (wsV RX6 173 RX6 yX6_takeSet wsX6_takeSet) := goodIn_app (goodIn_of _ (by decide +kernel)) ggX6_world_X6_takeSet
set_option maxRecDepth 20000 in
theorem ggX6_world_X6_findLost : GoodIn wsX6_world wsX6_findLost := goodIn_r _ [26, 27, 1, 28, 29, 30, 5, 31, 15, 32, 21, 22, 33, 34, 35, 36, 37, 38, 39, 40, 41, 42, 43, 44, 45, 46, 47, 48, 49, 50, 51, 52, 53, 54, 55, 56, 57, 58, 59, 60, 61, 62, 63, 64, 65, 66, 67, 68, 69, 70, 71, 72, 73, 74, 75, 76, 77, 78, 79, 80, 81, 82, 83, 84, 85, 86, 87, 88, 89, 90, 91, 92, 93, 94] (by decide +kernel) (by decide +kernel)
set_option maxRecDepth 20000 in
theorem gX6_world_X6_findLost : GoodIn wsX6_world (wsV RX6 205 RX6 yX6_findLost wsX6_findLost) := goodIn_app (goodIn_of _ (by decide +kernel)) ggX6_world_X6_findLost
set_option maxRecDepth 20000 in
theorem ggX6_world_X6_breakingIn : GoodIn wsX6_world wsX6_breakingIn := goodIn_r _ [43, 44, 45, 46, 5, 47, 1, 48, 49, 50, 51, 15, 32, 52, 53, 54, 55, 56, 57, 58, 59, 60, 61, 62, 63, 64, 65, 66, 67, 68, 69, 70, 71, 72, 73, 74, 75, 76, 77, 78, 79, 80, 81, 82, 83, 84, 85, 86, 87, 88, 89, 90, 91, 92, 93, 94] (by decide +kernel) (by decide +kernel)
set_option maxRecDepth 20000 in
theorem gX6_world_X6_breakingIn : GoodIn wsX6_world (wsV RX6 202 RX6 yX6_breakingIn wsX6_breakingIn) := goodIn_app (goodIn_of _ (by decide +kernel)) ggX6_world_X6_breakingIn
theorem dX6_world_0 : decode cX6_world 0 = .ok (.aload_n 0, 1) := by decide +kernel
theorem dX6_world_1 : decode cX6_world 1 = .ok (.iload_n 1, 1) := by decide +kernel
theorem dX6_world_2 : decode cX6_world 2 = .ok (.iconst 5, 1) := by decide +kernel
theorem dX6_world_3 : decode cX6_world 3 = .ok (.invokevirtual 169, 3) := by decide +kernel
theorem dX6_world_6 : decode cX6_world 6 = .ok (.ifCond .ne 5, 3) := by decide +kernel
theorem dX6_world_9 : decode cX6_world 9 = .ok (.iconst (-1), 1) := by decide +kernel
theorem dX6_world_10 : decode cX6_world 10 = .ok (.ireturn, 1) := by decide +kernel
theorem dX6_world_11 : decode cX6_world 11 = .ok (.aload_n 0, 1) := by decide +kernel
theorem dX6_world_12 : decode cX6_world 12 = .ok (.iload_n 1, 1) := by decide +kernel
theorem dX6_world_13 : decode cX6_world 13 = .ok (.invokevirtual 173, 3) := by decide +kernel
theorem dX6_world_16 : decode cX6_world 16 = .ok (.aload_n 0, 1) := by decide +kernel
theorem dX6_world_17 : decode cX6_world 17 = .ok (.invokevirtual 205, 3) := by decide +kernel
theorem dX6_world_20 : decode cX6_world 20 = .ok (.aload_n 0, 1) := by decide +kernel
theorem dX6_world_21 : decode cX6_world 21 = .ok (.getfield 57, 3) := by decide +kernel
theorem dX6_world_24 : decode cX6_world 24 = .ok (.iconst 0, 1) := by decide +kernel
theorem dX6_world_25 : decode cX6_world 25 = .ok (.iaload, 1) := by decide +kernel
theorem dX6_world_26 : decode cX6_world 26 = .ok (.ifCond .ge 8, 3) := by decide +kernel
theorem dX6_world_29 : decode cX6_world 29 = .ok (.bipush (-4), 2) := by decide +kernel
theorem dX6_world_31 : decode cX6_world 31 = .ok (.goto 14, 3) := by decide +kernel
theorem dX6_world_34 : decode cX6_world 34 = .ok (.aload_n 0, 1) := by decide +kernel
theorem dX6_world_35 : decode cX6_world 35 = .ok (.iconst 0, 1) := by decide +kernel
theorem dX6_world_36 : decode cX6_world 36 = .ok (.aload_n 0, 1) := by decide +kernel
theorem dX6_world_37 : decode cX6_world 37 = .ok (.getfield 57, 3) := by decide +kernel
theorem dX6_world_40 : decode cX6_world 40 = .ok (.iconst 0, 1) := by decide +kernel
theorem dX6_world_41 : decode cX6_world 41 = .ok (.iaload, 1) := by decide +kernel
theorem dX6_world_42 : decode cX6_world 42 = .ok (.invokevirtual 202, 3) := by decide +kernel
theorem dX6_world_45 : decode cX6_world 45 = .ok (.ireturn, 1) := by decide +kernel
set_option maxRecDepth 20000 in
theorem ggX6_comesAhead_X6_countBits : GoodIn wsX6_comesAhead wsX6_countBits := goodIn_r _ [4] (by decide +kernel) (by decide +kernel)
set_option maxRecDepth 20000 in
theorem gX6_comesAhead_X6_countBits : GoodIn wsX6_comesAhead (va_wsS RX6 141 yX6_countBits wsX6_countBits) := goodIn_app (goodIn_of _ (by decide +kernel)) ggX6_comesAhead_X6_countBits
theorem dX6_comesAhead_0 : decode cX6_comesAhead 0 = .ok (.iload_n 0, 1) := by decide +kernel
theorem dX6_comesAhead_1 : decode cX6_comesAhead 1 = .ok (.invokestatic 141, 3) := by decide +kernel
theorem dX6_comesAhead_4 : decode cX6_comesAhead 4 = .ok (.istore_n 2, 1) := by decide +kernel
theorem dX6_comesAhead_5 : decode cX6_comesAhead 5 = .ok (.iload_n 1, 1) := by decide +kernel
theorem dX6_comesAhead_6 : decode cX6_comesAhead 6 = .ok (.invokestatic 141, 3) := by decide +kernel
theorem dX6_comesAhead_9 : decode cX6_comesAhead 9 = .ok (.istore_n 3, 1) := by decide +kernel
theorem dX6_comesAhead_10 : decode cX6_comesAhead 10 = .ok (.iload_n 2, 1) := by decide +kernel
theorem dX6_comesAhead_11 : decode cX6_comesAhead 11 = .ok (.iload_n 3, 1) := by decide +kernel
theorem dX6_comesAhead_12 : decode cX6_comesAhead 12 = .ok (.if_icmp .eq 14, 3) := by decide +kernel
theorem dX6_comesAhead_15 : decode cX6_comesAhead 15 = .ok (.iload_n 2, 1) := by decide +kernel
theorem dX6_comesAhead_16 : decode cX6_comesAhead 16 = .ok (.iload_n 3, 1) := by decide +kernel
theorem dX6_comesAhead_17 : decode cX6_comesAhead 17 = .ok (.if_icmp .ge 7, 3) := by decide +kernel
theorem dX6_comesAhead_20 : decode cX6_comesAhead 20 = .ok (.iconst 1, 1) := by decide +kernel
theorem dX6_comesAhead_21 : decode cX6_comesAhead 21 = .ok (.goto 4, 3) := by decide +kernel
theorem dX6_comesAhead_24 : decode cX6_comesAhead 24 = .ok (.iconst 0, 1) := by decide +kernel
theorem dX6_comesAhead_25 : decode cX6_comesAhead 25 = .ok (.ireturn, 1) := by decide +kernel
theorem dX6_comesAhead_26 : decode cX6_comesAhead 26 = .ok (.iload_n 0, 1) := by decide +kernel
theorem dX6_comesAhead_27 : decode cX6_comesAhead 27 = .ok (.iload_n 1, 1) := by decide +kernel
theorem dX6_comesAhead_28 : decode cX6_comesAhead 28 = .ok (.ixor, 1) := by decide +kernel
theorem dX6_comesAhead_29 : decode cX6_comesAhead 29 = .ok (.istore 4, 2) := by decide +kernel
theorem dX6_comesAhead_31 : decode cX6_comesAhead 31 = .ok (.iload 4, 2) := by decide +kernel
theorem dX6_comesAhead_33 : decode cX6_comesAhead 33 = .ok (.ifCond .eq 18, 3) := by decide +kernel
theorem dX6_comesAhead_36 : decode cX6_comesAhead 36 = .ok (.iload_n 0, 1) := by decide +kernel
theorem dX6_comesAhead_37 : decode cX6_comesAhead 37 = .ok (.iload 4, 2) := by decide +kernel
theorem dX6_comesAhead_39 : decode cX6_comesAhead 39 = .ok (.iload 4, 2) := by decide +kernel
theorem dX6_comesAhead_41 : decode cX6_comesAhead 41 = .ok (.ineg, 1) := by decide +kernel
theorem dX6_comesAhead_42 : decode cX6_comesAhead 42 = .ok (.iand, 1) := by decide +kernel
theorem dX6_comesAhead_43 : decode cX6_comesAhead 43 = .ok (.iand, 1) := by decide +kernel
theorem dX6_comesAhead_44 : decode cX6_comesAhead 44 = .ok (.ifCond .eq 7, 3) := by decide +kernel
theorem dX6_comesAhead_47 : decode cX6_comesAhead 47 = .ok (.iconst 1, 1) := by decide +kernel
theorem dX6_comesAhead_48 : decode cX6_comesAhead 48 = .ok (.goto 4, 3) := by decide +kernel
theorem dX6_comesAhead_51 : decode cX6_comesAhead 51 = .ok (.iconst 0, 1) := by decide +kernel
theorem dX6_comesAhead_52 : decode cX6_comesAhead 52 = .ok (.ireturn, 1) := by decide +kernel
set_option maxRecDepth 20000 in
theorem ggX6_quarrel_X6_isSet : GoodIn wsX6_quarrel wsX6_isSet := goodIn_r _ [5, 6, 7, 8, 4, 9, 55, 56, 57, 58, 59, 60, 61, 62, 63, 64, 65, 66, 67, 68, 69, 70, 71, 72, 73, 74, 75, 76, 77, 78, 79, 80, 81, 82, 83, 84, 85, 86, 87, 88, 89, 90, 91, 92, 93, 94, 95, 96, 97] (by decide +kernel) (by decide +kernel)
set_option maxRecDepth 20000 in
theorem gX6_quarrel_X6_isSet : GoodIn wsX6_quarrel (wsV RX6 169 RX6 yX6_isSet wsX6_isSet) := goodIn_app (goodIn_of _ (by decide +kernel)) ggX6_quarrel_X6_isSet
set_option maxRecDepth 20000 in
theorem ggX6_quarrel_X6_comesAhead : GoodIn wsX6_quarrel wsX6_comesAhead := goodIn_r _ [12, 7, 8, 4, 9] (by decide +kernel) (by decide +kernel)
set_option maxRecDepth 20000 in
theorem gX6_quarrel_X6_comesAhead : GoodIn wsX6_quarrel (va_wsS RX6 208 yX6_comesAhead wsX6_comesAhead) := goodIn_app (goodIn_of _ (by decide +kernel)) ggX6_quarrel_X6_comesAhead
set_option maxRecDepth 20000 in
theorem ggX6_quarrel_X6_can : GoodIn wsX6_quarrel wsX6_can := goodIn_r _ [16, 17, 1, 2, 3, 4, 5, 6, 7, 8, 9, 18, 19, 20, 21, 22, 23, 24, 25, 26, 27, 28, 29, 30, 31, 32, 33, 34, 35, 36, 37, 38, 39, 40, 41, 42, 43, 44, 45, 46, 47, 48, 49, 50, 51, 52, 53, 54, 55, 56, 57, 58, 59, 60, 61, 62, 63, 64, 65, 66, 67, 68, 69, 70, 71, 72, 73, 74, 75, 76, 77, 78, 79, 80, 81, 82, 83, 84, 85, 86, 87, 88, 89, 90, 91, 92, 93, 94, 95, 96, 97] (by decide +kernel) (by decide +kernel)
set_option maxRecDepth 20000 in
theorem gX6_quarrel_X6_can : GoodIn wsX6_quarrel (wsV RX6 211 RX6 yX6_can wsX6_can) := goodIn_app (goodIn_of _ (by decide +kernel)) ggX6_quarrel_X6_can
theorem dX6_quarrel_0 : decode cX6_quarrel 0 = .ok (.aload_n 0, 1) := by decide +kernel
theorem dX6_quarrel_1 : decode cX6_quarrel 1 = .ok (.iload_n 1, 1) := by decide +kernel
theorem dX6_quarrel_2 : decode cX6_quarrel 2 = .ok (.iconst 5, 1) := by decide +kernel
theorem dX6_quarrel_3 : decode cX6_quarrel 3 = .ok (.invokevirtual 169, 3) := by decide +kernel
theorem dX6_quarrel_6 : decode cX6_quarrel 6 = .ok (.ifCond .ne 5, 3) := by decide +kernel
theorem dX6_quarrel_9 : decode cX6_quarrel 9 = .ok (.iconst (-1), 1) := by decide +kernel
theorem dX6_quarrel_10 : decode cX6_quarrel 10 = .ok (.ireturn, 1) := by decide +kernel
theorem dX6_quarrel_11 : decode cX6_quarrel 11 = .ok (.bipush (-4), 2) := by decide +kernel
theorem dX6_quarrel_13 : decode cX6_quarrel 13 = .ok (.istore_n 2, 1) := by decide +kernel
theorem dX6_quarrel_14 : decode cX6_quarrel 14 = .ok (.iload_n 1, 1) := by decide +kernel
theorem dX6_quarrel_15 : decode cX6_quarrel 15 = .ok (.istore_n 3, 1) := by decide +kernel
theorem dX6_quarrel_16 : decode cX6_quarrel 16 = .ok (.iload_n 3, 1) := by decide +kernel
theorem dX6_quarrel_17 : decode cX6_quarrel 17 = .ok (.ifCond .le 34, 3) := by decide +kernel
theorem dX6_quarrel_20 : decode cX6_quarrel 20 = .ok (.iload_n 2, 1) := by decide +kernel
theorem dX6_quarrel_21 : decode cX6_quarrel 21 = .ok (.ifCond .lt 11, 3) := by decide +kernel
theorem dX6_quarrel_24 : decode cX6_quarrel 24 = .ok (.iload_n 3, 1) := by decide +kernel
theorem dX6_quarrel_25 : decode cX6_quarrel 25 = .ok (.iload_n 2, 1) := by decide +kernel
theorem dX6_quarrel_26 : decode cX6_quarrel 26 = .ok (.invokestatic 208, 3) := by decide +kernel
theorem dX6_quarrel_29 : decode cX6_quarrel 29 = .ok (.ifCond .eq 13, 3) := by decide +kernel
theorem dX6_quarrel_32 : decode cX6_quarrel 32 = .ok (.aload_n 0, 1) := by decide +kernel
theorem dX6_quarrel_33 : decode cX6_quarrel 33 = .ok (.iload_n 3, 1) := by decide +kernel
theorem dX6_quarrel_34 : decode cX6_quarrel 34 = .ok (.invokevirtual 211, 3) := by decide +kernel
theorem dX6_quarrel_37 : decode cX6_quarrel 37 = .ok (.ifCond .ne 5, 3) := by decide +kernel
theorem dX6_quarrel_40 : decode cX6_quarrel 40 = .ok (.iload_n 3, 1) := by decide +kernel
theorem dX6_quarrel_41 : decode cX6_quarrel 41 = .ok (.istore_n 2, 1) := by decide +kernel
theorem dX6_quarrel_42 : decode cX6_quarrel 42 = .ok (.iload_n 3, 1) := by decide +kernel
theorem dX6_quarrel_43 : decode cX6_quarrel 43 = .ok (.iconst 1, 1) := by decide +kernel
theorem dX6_quarrel_44 : decode cX6_quarrel 44 = .ok (.isub, 1) := by decide +kernel
theorem dX6_quarrel_45 : decode cX6_quarrel 45 = .ok (.iload_n 1, 1) := by decide +kernel
theorem dX6_quarrel_46 : decode cX6_quarrel 46 = .ok (.iand, 1) := by decide +kernel
theorem dX6_quarrel_47 : decode cX6_quarrel 47 = .ok (.istore_n 3, 1) := by decide +kernel
theorem dX6_quarrel_48 : decode cX6_quarrel 48 = .ok (.goto (-32), 3) := by decide +kernel
theorem dX6_quarrel_51 : decode cX6_quarrel 51 = .ok (.iload_n 2, 1) := by decide +kernel
theorem dX6_quarrel_52 : decode cX6_quarrel 52 = .ok (.ireturn, 1) := by decide +kernel
set_option maxRecDepth 20000 in
theorem ggX6_follows_X6_isWant : GoodIn wsX6_follows wsX6_isWant := goodIn_r _ [11, 12, 45, 46, 47, 48, 49, 50, 51, 52, 53, 54, 55, 56, 57, 58, 59, 60, 61, 62, 63, 64, 65, 66, 67, 68, 69, 70, 71, 72, 73, 74, 75, 76, 77, 78, 79, 80, 81, 82, 83, 84, 85, 86, 87] (by decide +kernel) (by decide +kernel)
set_option maxRecDepth 20000 in
theorem gX6_follows_X6_isWant : GoodIn wsX6_follows (wsV RX6 137 RX6 yX6_isWant wsX6_isWant) := goodIn_app (goodIn_of _ (by decide +kernel)) ggX6_follows_X6_isWant
set_option maxRecDepth 20000 in
theorem ggX6_follows_X6_isSet : GoodIn wsX6_follows wsX6_isSet := goodIn_r _ [16, 12, 17, 18, 10, 19, 45, 46, 47, 48, 49, 50, 51, 52, 53, 54, 55, 56, 57, 58, 59, 60, 61, 62, 63, 64, 65, 66, 67, 68, 69, 70, 71, 72, 73, 74, 75, 76, 77, 78, 79, 80, 81, 82, 83, 84, 85, 86, 87] (by decide +kernel) (by decide +kernel)
set_option maxRecDepth 20000 in
theorem gX6_follows_X6_isSet : GoodIn wsX6_follows (wsV RX6 169 RX6 yX6_isSet wsX6_isSet) := goodIn_app (goodIn_of _ (by decide +kernel)) ggX6_follows_X6_isSet
set_option maxRecDepth 20000 in
theorem ggX6_follows_X6_takeSet : GoodIn wsX6_follows wsX6_takeSet := goodIn_r _ [23, 2, 12, 1, 24, 25, 26, 10, 27, 28, 29, 45, 46, 47, 48, 49, 50, 51, 52, 53, 54, 55, 56, 57, 58, 59, 60, 61, 62, 63, 64, 65, 66, 67, 68, 69, 70, 71, 72, 73, 74, 75, 76, 77, 78, 79, 80, 81, 82, 83, 84, 85, 86, 87] (by decide +kernel) (by decide +kernel)
set_option maxRecDepth 20000 in
theorem gX6_follows_X6_takeSet : GoodIn wsX6_follows (wsV RX6 173 RX6 yX6_takeSet wsX6_takeSet) := goodIn_app (goodIn_of _ (by decide +kernel)) ggX6_follows_X6_takeSet
set_option maxRecDepth 20000 in
theorem ggX6_follows_X6_add : GoodIn wsX6_follows wsX6_add := goodIn_r _ [27, 28, 2, 29, 45, 46, 47, 48, 49, 50, 51, 52, 53, 54, 55, 56, 57, 58, 59, 60, 61, 62, 63, 64, 65, 66, 67, 68, 69, 70, 71, 72, 73, 74, 75, 76, 77, 78, 79, 80, 81, 82, 83, 84, 85, 86, 87] (by decide +kernel) (by decide +kernel)
set_option maxRecDepth 20000 in
theorem gX6_follows_X6_add : GoodIn wsX6_follows (wsV RX6 152 RX6 yX6_add wsX6_add) := goodIn_app (goodIn_of _ (by decide +kernel)) ggX6_follows_X6_add
set_option maxRecDepth 20000 in
theorem ggX6_follows_X6_findSteps : GoodIn wsX6_follows wsX6_findSteps := goodIn_r _ [33, 3, 2, 6, 28, 29, 34, 35, 36, 10, 37, 38, 39, 40, 45, 46, 47, 48, 49, 50, 51, 52, 53, 54, 55, 56, 57, 58, 59, 60, 61, 62, 63, 64, 65, 66, 67, 68, 69, 70, 71, 72, 73, 74, 75, 76, 77, 78, 79, 80, 81, 82, 83, 84, 85, 86, 87] (by decide +kernel) (by decide +kernel)
set_option maxRecDepth 20000 in
theorem gX6_follows_X6_findSteps : GoodIn wsX6_follows (wsV RX6 163 RX6 yX6_findSteps wsX6_findSteps) := goodIn_app (goodIn_of _ (by decide +kernel)) ggX6_follows_X6_findSteps
set_option maxRecDepth 20000 in
theorem ggX6_follows_X6_behind : GoodIn wsX6_follows wsX6_behind := goodIn_r _ [44, 2, 6, 45, 46, 47, 48, 49, 50, 51, 52, 53, 54, 55, 56, 57, 58, 59, 60, 61, 62, 63, 64, 65, 66, 67, 68, 69, 70, 71, 72, 73, 74, 75, 76, 77, 78, 79, 80, 81, 82, 83, 84, 85, 86, 87] (by decide +kernel) (by decide +kernel)
set_option maxRecDepth 20000 in
theorem gX6_follows_X6_behind : GoodIn wsX6_follows (wsV RX6 159 RX6 yX6_behind wsX6_behind) := goodIn_app (goodIn_of _ (by decide +kernel)) ggX6_follows_X6_behind
theorem dX6_follows_0 : decode cX6_follows 0 = .ok (.aload_n 0, 1) := by decide +kernel
theorem dX6_follows_1 : decode cX6_follows 1 = .ok (.iload_n 1, 1) := by decide +kernel
theorem dX6_follows_2 : decode cX6_follows 2 = .ok (.invokevirtual 137, 3) := by decide +kernel
theorem dX6_follows_5 : decode cX6_follows 5 = .ok (.ifCond .eq 21, 3) := by decide +kernel
theorem dX6_follows_8 : decode cX6_follows 8 = .ok (.aload_n 0, 1) := by decide +kernel
theorem dX6_follows_9 : decode cX6_follows 9 = .ok (.iload_n 2, 1) := by decide +kernel
theorem dX6_follows_10 : decode cX6_follows 10 = .ok (.iconst 4, 1) := by decide +kernel
theorem dX6_follows_11 : decode cX6_follows 11 = .ok (.invokevirtual 169, 3) := by decide +kernel
theorem dX6_follows_14 : decode cX6_follows 14 = .ok (.ifCond .eq 12, 3) := by decide +kernel
theorem dX6_follows_17 : decode cX6_follows 17 = .ok (.iload_n 2, 1) := by decide +kernel
theorem dX6_follows_18 : decode cX6_follows 18 = .ok (.iload_n 1, 1) := by decide +kernel
theorem dX6_follows_19 : decode cX6_follows 19 = .ok (.ishr, 1) := by decide +kernel
theorem dX6_follows_20 : decode cX6_follows 20 = .ok (.iconst 1, 1) := by decide +kernel
theorem dX6_follows_21 : decode cX6_follows 21 = .ok (.iand, 1) := by decide +kernel
theorem dX6_follows_22 : decode cX6_follows 22 = .ok (.iconst 1, 1) := by decide +kernel
theorem dX6_follows_23 : decode cX6_follows 23 = .ok (.if_icmp .ne 5, 3) := by decide +kernel
theorem dX6_follows_26 : decode cX6_follows 26 = .ok (.iconst (-1), 1) := by decide +kernel
theorem dX6_follows_27 : decode cX6_follows 27 = .ok (.ireturn, 1) := by decide +kernel
theorem dX6_follows_28 : decode cX6_follows 28 = .ok (.aload_n 0, 1) := by decide +kernel
theorem dX6_follows_29 : decode cX6_follows 29 = .ok (.iload_n 2, 1) := by decide +kernel
theorem dX6_follows_30 : decode cX6_follows 30 = .ok (.invokevirtual 173, 3) := by decide +kernel
theorem dX6_follows_33 : decode cX6_follows 33 = .ok (.aload_n 0, 1) := by decide +kernel
theorem dX6_follows_34 : decode cX6_follows 34 = .ok (.iload_n 1, 1) := by decide +kernel
theorem dX6_follows_35 : decode cX6_follows 35 = .ok (.aload_n 0, 1) := by decide +kernel
theorem dX6_follows_36 : decode cX6_follows 36 = .ok (.getfield 16, 3) := by decide +kernel
theorem dX6_follows_39 : decode cX6_follows 39 = .ok (.iload_n 1, 1) := by decide +kernel
theorem dX6_follows_40 : decode cX6_follows 40 = .ok (.iaload, 1) := by decide +kernel
theorem dX6_follows_41 : decode cX6_follows 41 = .ok (.invokevirtual 152, 3) := by decide +kernel
theorem dX6_follows_44 : decode cX6_follows 44 = .ok (.aload_n 0, 1) := by decide +kernel
theorem dX6_follows_45 : decode cX6_follows 45 = .ok (.invokevirtual 163, 3) := by decide +kernel
theorem dX6_follows_48 : decode cX6_follows 48 = .ok (.aload_n 0, 1) := by decide +kernel
theorem dX6_follows_49 : decode cX6_follows 49 = .ok (.getfield 149, 3) := by decide +kernel
theorem dX6_follows_52 : decode cX6_follows 52 = .ok (.iconst 1, 1) := by decide +kernel
theorem dX6_follows_53 : decode cX6_follows 53 = .ok (.isub, 1) := by decide +kernel
theorem dX6_follows_54 : decode cX6_follows 54 = .ok (.istore_n 3, 1) := by decide +kernel
theorem dX6_follows_55 : decode cX6_follows 55 = .ok (.aload_n 0, 1) := by decide +kernel
theorem dX6_follows_56 : decode cX6_follows 56 = .ok (.getfield 156, 3) := by decide +kernel
theorem dX6_follows_59 : decode cX6_follows 59 = .ok (.iconst 4, 1) := by decide +kernel
theorem dX6_follows_60 : decode cX6_follows 60 = .ok (.idiv, 1) := by decide +kernel
theorem dX6_follows_61 : decode cX6_follows 61 = .ok (.istore 4, 2) := by decide +kernel
theorem dX6_follows_63 : decode cX6_follows 63 = .ok (.iconst 0, 1) := by decide +kernel
theorem dX6_follows_64 : decode cX6_follows 64 = .ok (.istore 5, 2) := by decide +kernel
theorem dX6_follows_66 : decode cX6_follows 66 = .ok (.iload 5, 2) := by decide +kernel
theorem dX6_follows_68 : decode cX6_follows 68 = .ok (.aload_n 0, 1) := by decide +kernel
theorem dX6_follows_69 : decode cX6_follows 69 = .ok (.getfield 156, 3) := by decide +kernel
theorem dX6_follows_72 : decode cX6_follows 72 = .ok (.if_icmp .ge 17, 3) := by decide +kernel
theorem dX6_follows_75 : decode cX6_follows 75 = .ok (.aload_n 0, 1) := by decide +kernel
theorem dX6_follows_76 : decode cX6_follows 76 = .ok (.getfield 81, 3) := by decide +kernel
theorem dX6_follows_79 : decode cX6_follows 79 = .ok (.iload 5, 2) := by decide +kernel
theorem dX6_follows_81 : decode cX6_follows 81 = .ok (.iconst 0, 1) := by decide +kernel
theorem dX6_follows_82 : decode cX6_follows 82 = .ok (.bastore, 1) := by decide +kernel
theorem dX6_follows_83 : decode cX6_follows 83 = .ok (.iinc 5 1, 3) := by decide +kernel
theorem dX6_follows_86 : decode cX6_follows 86 = .ok (.goto (-20), 3) := by decide +kernel
theorem dX6_follows_89 : decode cX6_follows 89 = .ok (.aload_n 0, 1) := by decide +kernel
theorem dX6_follows_90 : decode cX6_follows 90 = .ok (.getfield 78, 3) := by decide +kernel
theorem dX6_follows_93 : decode cX6_follows 93 = .ok (.iconst 0, 1) := by decide +kernel
theorem dX6_follows_94 : decode cX6_follows 94 = .ok (.iconst 0, 1) := by decide +kernel
theorem dX6_follows_95 : decode cX6_follows 95 = .ok (.iastore, 1) := by decide +kernel
theorem dX6_follows_96 : decode cX6_follows 96 = .ok (.aload_n 0, 1) := by decide +kernel
theorem dX6_follows_97 : decode cX6_follows 97 = .ok (.getfield 81, 3) := by decide +kernel
theorem dX6_follows_100 : decode cX6_follows 100 = .ok (.iconst 0, 1) := by decide +kernel
theorem dX6_follows_101 : decode cX6_follows 101 = .ok (.iconst 1, 1) := by decide +kernel
theorem dX6_follows_102 : decode cX6_follows 102 = .ok (.bastore, 1) := by decide +kernel
theorem dX6_follows_103 : decode cX6_follows 103 = .ok (.iconst 1, 1) := by decide +kernel
theorem dX6_follows_104 : decode cX6_follows 104 = .ok (.istore 5, 2) := by decide +kernel
theorem dX6_follows_106 : decode cX6_follows 106 = .ok (.iconst 0, 1) := by decide +kernel
theorem dX6_follows_107 : decode cX6_follows 107 = .ok (.istore 6, 2) := by decide +kernel
theorem dX6_follows_109 : decode cX6_follows 109 = .ok (.iload 6, 2) := by decide +kernel
theorem dX6_follows_111 : decode cX6_follows 111 = .ok (.iload 5, 2) := by decide +kernel
theorem dX6_follows_113 : decode cX6_follows 113 = .ok (.if_icmp .ge 134, 3) := by decide +kernel
theorem dX6_follows_116 : decode cX6_follows 116 = .ok (.iconst 0, 1) := by decide +kernel
theorem dX6_follows_117 : decode cX6_follows 117 = .ok (.istore 7, 2) := by decide +kernel
theorem dX6_follows_119 : decode cX6_follows 119 = .ok (.iload 7, 2) := by decide +kernel
theorem dX6_follows_121 : decode cX6_follows 121 = .ok (.bipush 64, 2) := by decide +kernel
theorem dX6_follows_123 : decode cX6_follows 123 = .ok (.if_icmp .ge 118, 3) := by decide +kernel
theorem dX6_follows_126 : decode cX6_follows 126 = .ok (.aload_n 0, 1) := by decide +kernel
theorem dX6_follows_127 : decode cX6_follows 127 = .ok (.iload_n 3, 1) := by decide +kernel
theorem dX6_follows_128 : decode cX6_follows 128 = .ok (.putfield 149, 3) := by decide +kernel
theorem dX6_follows_131 : decode cX6_follows 131 = .ok (.aload_n 0, 1) := by decide +kernel
theorem dX6_follows_132 : decode cX6_follows 132 = .ok (.aload_n 0, 1) := by decide +kernel
theorem dX6_follows_133 : decode cX6_follows 133 = .ok (.getfield 78, 3) := by decide +kernel
theorem dX6_follows_136 : decode cX6_follows 136 = .ok (.iload 6, 2) := by decide +kernel
theorem dX6_follows_138 : decode cX6_follows 138 = .ok (.iaload, 1) := by decide +kernel
theorem dX6_follows_139 : decode cX6_follows 139 = .ok (.iload 4, 2) := by decide +kernel
theorem dX6_follows_141 : decode cX6_follows 141 = .ok (.irem, 1) := by decide +kernel
theorem dX6_follows_142 : decode cX6_follows 142 = .ok (.iload 7, 2) := by decide +kernel
theorem dX6_follows_144 : decode cX6_follows 144 = .ok (.invokevirtual 159, 3) := by decide +kernel
theorem dX6_follows_147 : decode cX6_follows 147 = .ok (.istore 8, 2) := by decide +kernel
theorem dX6_follows_149 : decode cX6_follows 149 = .ok (.aload_n 0, 1) := by decide +kernel
theorem dX6_follows_150 : decode cX6_follows 150 = .ok (.getfield 50, 3) := by decide +kernel
theorem dX6_follows_153 : decode cX6_follows 153 = .ok (.iconst 4, 1) := by decide +kernel
theorem dX6_follows_154 : decode cX6_follows 154 = .ok (.iload_n 3, 1) := by decide +kernel
theorem dX6_follows_155 : decode cX6_follows 155 = .ok (.imul, 1) := by decide +kernel
theorem dX6_follows_156 : decode cX6_follows 156 = .ok (.aload_n 0, 1) := by decide +kernel
theorem dX6_follows_157 : decode cX6_follows 157 = .ok (.getfield 78, 3) := by decide +kernel
theorem dX6_follows_160 : decode cX6_follows 160 = .ok (.iload 6, 2) := by decide +kernel
theorem dX6_follows_162 : decode cX6_follows 162 = .ok (.iaload, 1) := by decide +kernel
theorem dX6_follows_163 : decode cX6_follows 163 = .ok (.iload 4, 2) := by decide +kernel
theorem dX6_follows_165 : decode cX6_follows 165 = .ok (.idiv, 1) := by decide +kernel
theorem dX6_follows_166 : decode cX6_follows 166 = .ok (.iadd, 1) := by decide +kernel
theorem dX6_follows_167 : decode cX6_follows 167 = .ok (.bipush 64, 2) := by decide +kernel
theorem dX6_follows_169 : decode cX6_follows 169 = .ok (.imul, 1) := by decide +kernel
theorem dX6_follows_170 : decode cX6_follows 170 = .ok (.iload 7, 2) := by decide +kernel
theorem dX6_follows_172 : decode cX6_follows 172 = .ok (.iadd, 1) := by decide +kernel
theorem dX6_follows_173 : decode cX6_follows 173 = .ok (.iaload, 1) := by decide +kernel
theorem dX6_follows_174 : decode cX6_follows 174 = .ok (.istore 9, 2) := by decide +kernel
theorem dX6_follows_176 : decode cX6_follows 176 = .ok (.aload_n 0, 1) := by decide +kernel
theorem dX6_follows_177 : decode cX6_follows 177 = .ok (.iload_n 3, 1) := by decide +kernel
theorem dX6_follows_178 : decode cX6_follows 178 = .ok (.iconst 1, 1) := by decide +kernel
theorem dX6_follows_179 : decode cX6_follows 179 = .ok (.iadd, 1) := by decide +kernel
theorem dX6_follows_180 : decode cX6_follows 180 = .ok (.putfield 149, 3) := by decide +kernel
theorem dX6_follows_183 : decode cX6_follows 183 = .ok (.iload 8, 2) := by decide +kernel
theorem dX6_follows_185 : decode cX6_follows 185 = .ok (.ifCond .lt 50, 3) := by decide +kernel
theorem dX6_follows_188 : decode cX6_follows 188 = .ok (.iload 9, 2) := by decide +kernel
theorem dX6_follows_190 : decode cX6_follows 190 = .ok (.ifCond .ge 5, 3) := by decide +kernel
theorem dX6_follows_193 : decode cX6_follows 193 = .ok (.iconst 0, 1) := by decide +kernel
theorem dX6_follows_194 : decode cX6_follows 194 = .ok (.ireturn, 1) := by decide +kernel
theorem dX6_follows_195 : decode cX6_follows 195 = .ok (.iload 8, 2) := by decide +kernel
theorem dX6_follows_197 : decode cX6_follows 197 = .ok (.iload 4, 2) := by decide +kernel
theorem dX6_follows_199 : decode cX6_follows 199 = .ok (.iload 9, 2) := by decide +kernel
theorem dX6_follows_201 : decode cX6_follows 201 = .ok (.imul, 1) := by decide +kernel
theorem dX6_follows_202 : decode cX6_follows 202 = .ok (.iadd, 1) := by decide +kernel
theorem dX6_follows_203 : decode cX6_follows 203 = .ok (.istore 10, 2) := by decide +kernel
theorem dX6_follows_205 : decode cX6_follows 205 = .ok (.aload_n 0, 1) := by decide +kernel
theorem dX6_follows_206 : decode cX6_follows 206 = .ok (.getfield 81, 3) := by decide +kernel
theorem dX6_follows_209 : decode cX6_follows 209 = .ok (.iload 10, 2) := by decide +kernel
theorem dX6_follows_211 : decode cX6_follows 211 = .ok (.baload, 1) := by decide +kernel
theorem dX6_follows_212 : decode cX6_follows 212 = .ok (.ifCond .ne 23, 3) := by decide +kernel
theorem dX6_follows_215 : decode cX6_follows 215 = .ok (.aload_n 0, 1) := by decide +kernel
theorem dX6_follows_216 : decode cX6_follows 216 = .ok (.getfield 81, 3) := by decide +kernel
theorem dX6_follows_219 : decode cX6_follows 219 = .ok (.iload 10, 2) := by decide +kernel
theorem dX6_follows_221 : decode cX6_follows 221 = .ok (.iconst 1, 1) := by decide +kernel
theorem dX6_follows_222 : decode cX6_follows 222 = .ok (.bastore, 1) := by decide +kernel
theorem dX6_follows_223 : decode cX6_follows 223 = .ok (.aload_n 0, 1) := by decide +kernel
theorem dX6_follows_224 : decode cX6_follows 224 = .ok (.getfield 78, 3) := by decide +kernel
theorem dX6_follows_227 : decode cX6_follows 227 = .ok (.iload 5, 2) := by decide +kernel
theorem dX6_follows_229 : decode cX6_follows 229 = .ok (.iload 10, 2) := by decide +kernel
theorem dX6_follows_231 : decode cX6_follows 231 = .ok (.iastore, 1) := by decide +kernel
theorem dX6_follows_232 : decode cX6_follows 232 = .ok (.iinc 5 1, 3) := by decide +kernel
theorem dX6_follows_235 : decode cX6_follows 235 = .ok (.iinc 7 1, 3) := by decide +kernel
theorem dX6_follows_238 : decode cX6_follows 238 = .ok (.goto (-119), 3) := by decide +kernel
theorem dX6_follows_241 : decode cX6_follows 241 = .ok (.iinc 6 1, 3) := by decide +kernel
theorem dX6_follows_244 : decode cX6_follows 244 = .ok (.goto (-135), 3) := by decide +kernel
theorem dX6_follows_247 : decode cX6_follows 247 = .ok (.iconst 1, 1) := by decide +kernel
theorem dX6_follows_248 : decode cX6_follows 248 = .ok (.ireturn, 1) := by decide +kernel
theorem dX6_mayBe_0 : decode cX6_mayBe 0 = .ok (.iload_n 2, 1) := by decide +kernel
theorem dX6_mayBe_1 : decode cX6_mayBe 1 = .ok (.ifCond .eq 51, 3) := by decide +kernel
