theorem dX6_mayBe_4 : decode cX6_mayBe 4 = .ok (.iload_n 2, 1) := by decide +kernel
theorem dX6_mayBe_5 : decode cX6_mayBe 5 = .ok (.iconst 4, 1) := by decide +kernel
theorem dX6_mayBe_6 : decode cX6_mayBe 6 = .ok (.if_icmp .eq 46, 3) := by decide +kernel
theorem dX6_mayBe_9 : decode cX6_mayBe 9 = .ok (.aload_n 0, 1) := by decide +kernel
theorem dX6_mayBe_10 : decode cX6_mayBe 10 = .ok (.getfield 13, 3) := by decide +kernel
theorem dX6_mayBe_13 : decode cX6_mayBe 13 = .ok (.iload_n 1, 1) := by decide +kernel
theorem dX6_mayBe_14 : decode cX6_mayBe 14 = .ok (.iaload, 1) := by decide +kernel
theorem dX6_mayBe_15 : decode cX6_mayBe 15 = .ok (.iconst 1, 1) := by decide +kernel
theorem dX6_mayBe_16 : decode cX6_mayBe 16 = .ok (.if_icmp .ne 15, 3) := by decide +kernel
theorem dX6_mayBe_19 : decode cX6_mayBe 19 = .ok (.aload_n 0, 1) := by decide +kernel
theorem dX6_mayBe_20 : decode cX6_mayBe 20 = .ok (.getfield 16, 3) := by decide +kernel
theorem dX6_mayBe_23 : decode cX6_mayBe 23 = .ok (.iload_n 1, 1) := by decide +kernel
theorem dX6_mayBe_24 : decode cX6_mayBe 24 = .ok (.iaload, 1) := by decide +kernel
theorem dX6_mayBe_25 : decode cX6_mayBe 25 = .ok (.iload_n 2, 1) := by decide +kernel
theorem dX6_mayBe_26 : decode cX6_mayBe 26 = .ok (.iadd, 1) := by decide +kernel
theorem dX6_mayBe_27 : decode cX6_mayBe 27 = .ok (.iconst 3, 1) := by decide +kernel
theorem dX6_mayBe_28 : decode cX6_mayBe 28 = .ok (.if_icmp .le 24, 3) := by decide +kernel
theorem dX6_mayBe_31 : decode cX6_mayBe 31 = .ok (.aload_n 0, 1) := by decide +kernel
theorem dX6_mayBe_32 : decode cX6_mayBe 32 = .ok (.getfield 13, 3) := by decide +kernel
theorem dX6_mayBe_35 : decode cX6_mayBe 35 = .ok (.iload_n 1, 1) := by decide +kernel
theorem dX6_mayBe_36 : decode cX6_mayBe 36 = .ok (.iaload, 1) := by decide +kernel
theorem dX6_mayBe_37 : decode cX6_mayBe 37 = .ok (.iconst 2, 1) := by decide +kernel
theorem dX6_mayBe_38 : decode cX6_mayBe 38 = .ok (.if_icmp .ne 18, 3) := by decide +kernel
theorem dX6_mayBe_41 : decode cX6_mayBe 41 = .ok (.aload_n 0, 1) := by decide +kernel
theorem dX6_mayBe_42 : decode cX6_mayBe 42 = .ok (.getfield 16, 3) := by decide +kernel
theorem dX6_mayBe_45 : decode cX6_mayBe 45 = .ok (.iload_n 1, 1) := by decide +kernel
theorem dX6_mayBe_46 : decode cX6_mayBe 46 = .ok (.iaload, 1) := by decide +kernel
theorem dX6_mayBe_47 : decode cX6_mayBe 47 = .ok (.iload_n 2, 1) := by decide +kernel
theorem dX6_mayBe_48 : decode cX6_mayBe 48 = .ok (.isub, 1) := by decide +kernel
theorem dX6_mayBe_49 : decode cX6_mayBe 49 = .ok (.ifCond .lt 7, 3) := by decide +kernel
theorem dX6_mayBe_52 : decode cX6_mayBe 52 = .ok (.iconst 1, 1) := by decide +kernel
theorem dX6_mayBe_53 : decode cX6_mayBe 53 = .ok (.goto 4, 3) := by decide +kernel
theorem dX6_mayBe_56 : decode cX6_mayBe 56 = .ok (.iconst 0, 1) := by decide +kernel
theorem dX6_mayBe_57 : decode cX6_mayBe 57 = .ok (.ireturn, 1) := by decide +kernel
set_option maxRecDepth 20000 in
theorem ggX6_isObeyed_X6_add : GoodIn wsX6_isObeyed wsX6_add := goodIn_r _ [14, 15, 5, 16, 41, 42, 43, 44, 45, 46, 47, 48, 49, 50, 51, 52, 53, 54, 55, 56, 57, 58, 59, 60, 61, 62, 63, 64, 65, 66, 67, 68, 69, 70, 71, 72, 73, 74, 75, 76, 77, 78, 79, 80, 81, 82, 83] (by decide +kernel) (by decide +kernel)
set_option maxRecDepth 20000 in
theorem gX6_isObeyed_X6_add : GoodIn wsX6_isObeyed (wsV RX6 152 RX6 yX6_add wsX6_add) := goodIn_app (goodIn_of _ (by decide +kernel)) ggX6_isObeyed_X6_add
set_option maxRecDepth 20000 in
theorem ggX6_isObeyed_X6_findSafe : GoodIn wsX6_isObeyed wsX6_findSafe := goodIn_r _ [20, 21, 9, 22, 23, 24, 13, 25, 5, 26, 15, 16, 27, 28, 29, 30, 31, 32, 7, 33, 34, 35, 36, 37, 38, 39, 40, 41, 42, 43, 44, 45, 46, 47, 48, 49, 50, 51, 52, 53, 54, 55, 56, 57, 58, 59, 60, 61, 62, 63, 64, 65, 66, 67, 68, 69, 70, 71, 72, 73, 74, 75, 76, 77, 78, 79, 80, 81, 82, 83] (by decide +kernel) (by decide +kernel)
set_option maxRecDepth 20000 in
theorem gX6_isObeyed_X6_findSafe : GoodIn wsX6_isObeyed (wsV RX6 177 RX6 yX6_findSafe wsX6_findSafe) := goodIn_app (goodIn_of _ (by decide +kernel)) ggX6_isObeyed_X6_findSafe
theorem dX6_isObeyed_0 : decode cX6_isObeyed 0 = .ok (.iconst 0, 1) := by decide +kernel
theorem dX6_isObeyed_1 : decode cX6_isObeyed 1 = .ok (.istore_n 1, 1) := by decide +kernel
theorem dX6_isObeyed_2 : decode cX6_isObeyed 2 = .ok (.iload_n 1, 1) := by decide +kernel
theorem dX6_isObeyed_3 : decode cX6_isObeyed 3 = .ok (.aload_n 0, 1) := by decide +kernel
theorem dX6_isObeyed_4 : decode cX6_isObeyed 4 = .ok (.getfield 214, 3) := by decide +kernel
theorem dX6_isObeyed_7 : decode cX6_isObeyed 7 = .ok (.if_icmp .ge 62, 3) := by decide +kernel
theorem dX6_isObeyed_10 : decode cX6_isObeyed 10 = .ok (.iconst 1, 1) := by decide +kernel
theorem dX6_isObeyed_11 : decode cX6_isObeyed 11 = .ok (.istore_n 2, 1) := by decide +kernel
theorem dX6_isObeyed_12 : decode cX6_isObeyed 12 = .ok (.iconst 0, 1) := by decide +kernel
theorem dX6_isObeyed_13 : decode cX6_isObeyed 13 = .ok (.istore_n 3, 1) := by decide +kernel
theorem dX6_isObeyed_14 : decode cX6_isObeyed 14 = .ok (.iload_n 3, 1) := by decide +kernel
theorem dX6_isObeyed_15 : decode cX6_isObeyed 15 = .ok (.aload_n 0, 1) := by decide +kernel
theorem dX6_isObeyed_16 : decode cX6_isObeyed 16 = .ok (.getfield 217, 3) := by decide +kernel
theorem dX6_isObeyed_19 : decode cX6_isObeyed 19 = .ok (.if_icmp .ge 38, 3) := by decide +kernel
theorem dX6_isObeyed_22 : decode cX6_isObeyed 22 = .ok (.iload_n 2, 1) := by decide +kernel
theorem dX6_isObeyed_23 : decode cX6_isObeyed 23 = .ok (.ifCond .eq 26, 3) := by decide +kernel
theorem dX6_isObeyed_26 : decode cX6_isObeyed 26 = .ok (.aload_n 0, 1) := by decide +kernel
theorem dX6_isObeyed_27 : decode cX6_isObeyed 27 = .ok (.getfield 60, 3) := by decide +kernel
theorem dX6_isObeyed_30 : decode cX6_isObeyed 30 = .ok (.iload_n 3, 1) := by decide +kernel
theorem dX6_isObeyed_31 : decode cX6_isObeyed 31 = .ok (.iaload, 1) := by decide +kernel
theorem dX6_isObeyed_32 : decode cX6_isObeyed 32 = .ok (.aload_n 0, 1) := by decide +kernel
theorem dX6_isObeyed_33 : decode cX6_isObeyed 33 = .ok (.getfield 66, 3) := by decide +kernel
theorem dX6_isObeyed_36 : decode cX6_isObeyed 36 = .ok (.iconst 5, 1) := by decide +kernel
theorem dX6_isObeyed_37 : decode cX6_isObeyed 37 = .ok (.iload_n 1, 1) := by decide +kernel
theorem dX6_isObeyed_38 : decode cX6_isObeyed 38 = .ok (.imul, 1) := by decide +kernel
theorem dX6_isObeyed_39 : decode cX6_isObeyed 39 = .ok (.iload_n 3, 1) := by decide +kernel
theorem dX6_isObeyed_40 : decode cX6_isObeyed 40 = .ok (.iadd, 1) := by decide +kernel
theorem dX6_isObeyed_41 : decode cX6_isObeyed 41 = .ok (.iaload, 1) := by decide +kernel
theorem dX6_isObeyed_42 : decode cX6_isObeyed 42 = .ok (.if_icmp .gt 7, 3) := by decide +kernel
theorem dX6_isObeyed_45 : decode cX6_isObeyed 45 = .ok (.iconst 1, 1) := by decide +kernel
theorem dX6_isObeyed_46 : decode cX6_isObeyed 46 = .ok (.goto 4, 3) := by decide +kernel
theorem dX6_isObeyed_49 : decode cX6_isObeyed 49 = .ok (.iconst 0, 1) := by decide +kernel
theorem dX6_isObeyed_50 : decode cX6_isObeyed 50 = .ok (.istore_n 2, 1) := by decide +kernel
theorem dX6_isObeyed_51 : decode cX6_isObeyed 51 = .ok (.iinc 3 1, 3) := by decide +kernel
theorem dX6_isObeyed_54 : decode cX6_isObeyed 54 = .ok (.goto (-40), 3) := by decide +kernel
theorem dX6_isObeyed_57 : decode cX6_isObeyed 57 = .ok (.iload_n 2, 1) := by decide +kernel
theorem dX6_isObeyed_58 : decode cX6_isObeyed 58 = .ok (.ifCond .eq 5, 3) := by decide +kernel
theorem dX6_isObeyed_61 : decode cX6_isObeyed 61 = .ok (.iconst 0, 1) := by decide +kernel
theorem dX6_isObeyed_62 : decode cX6_isObeyed 62 = .ok (.ireturn, 1) := by decide +kernel
theorem dX6_isObeyed_63 : decode cX6_isObeyed 63 = .ok (.iinc 1 1, 3) := by decide +kernel
theorem dX6_isObeyed_66 : decode cX6_isObeyed 66 = .ok (.goto (-64), 3) := by decide +kernel
theorem dX6_isObeyed_69 : decode cX6_isObeyed 69 = .ok (.aload_n 0, 1) := by decide +kernel
theorem dX6_isObeyed_70 : decode cX6_isObeyed 70 = .ok (.iconst 0, 1) := by decide +kernel
theorem dX6_isObeyed_71 : decode cX6_isObeyed 71 = .ok (.putfield 149, 3) := by decide +kernel
theorem dX6_isObeyed_74 : decode cX6_isObeyed 74 = .ok (.iconst 0, 1) := by decide +kernel
theorem dX6_isObeyed_75 : decode cX6_isObeyed 75 = .ok (.istore_n 1, 1) := by decide +kernel
theorem dX6_isObeyed_76 : decode cX6_isObeyed 76 = .ok (.iload_n 1, 1) := by decide +kernel
theorem dX6_isObeyed_77 : decode cX6_isObeyed 77 = .ok (.aload_n 0, 1) := by decide +kernel
theorem dX6_isObeyed_78 : decode cX6_isObeyed 78 = .ok (.getfield 217, 3) := by decide +kernel
theorem dX6_isObeyed_81 : decode cX6_isObeyed 81 = .ok (.if_icmp .ge 70, 3) := by decide +kernel
theorem dX6_isObeyed_84 : decode cX6_isObeyed 84 = .ok (.aload_n 0, 1) := by decide +kernel
theorem dX6_isObeyed_85 : decode cX6_isObeyed 85 = .ok (.getfield 84, 3) := by decide +kernel
theorem dX6_isObeyed_88 : decode cX6_isObeyed 88 = .ok (.iload_n 1, 1) := by decide +kernel
theorem dX6_isObeyed_89 : decode cX6_isObeyed 89 = .ok (.iaload, 1) := by decide +kernel
theorem dX6_isObeyed_90 : decode cX6_isObeyed 90 = .ok (.istore_n 2, 1) := by decide +kernel
theorem dX6_isObeyed_91 : decode cX6_isObeyed 91 = .ok (.aload_n 0, 1) := by decide +kernel
theorem dX6_isObeyed_92 : decode cX6_isObeyed 92 = .ok (.getfield 60, 3) := by decide +kernel
theorem dX6_isObeyed_95 : decode cX6_isObeyed 95 = .ok (.iload_n 1, 1) := by decide +kernel
theorem dX6_isObeyed_96 : decode cX6_isObeyed 96 = .ok (.iaload, 1) := by decide +kernel
theorem dX6_isObeyed_97 : decode cX6_isObeyed 97 = .ok (.iconst 4, 1) := by decide +kernel
theorem dX6_isObeyed_98 : decode cX6_isObeyed 98 = .ok (.if_icmp .eq 47, 3) := by decide +kernel
theorem dX6_isObeyed_101 : decode cX6_isObeyed 101 = .ok (.aload_n 0, 1) := by decide +kernel
theorem dX6_isObeyed_102 : decode cX6_isObeyed 102 = .ok (.iload_n 2, 1) := by decide +kernel
theorem dX6_isObeyed_103 : decode cX6_isObeyed 103 = .ok (.aload_n 0, 1) := by decide +kernel
theorem dX6_isObeyed_104 : decode cX6_isObeyed 104 = .ok (.getfield 13, 3) := by decide +kernel
theorem dX6_isObeyed_107 : decode cX6_isObeyed 107 = .ok (.iload_n 2, 1) := by decide +kernel
theorem dX6_isObeyed_108 : decode cX6_isObeyed 108 = .ok (.iaload, 1) := by decide +kernel
theorem dX6_isObeyed_109 : decode cX6_isObeyed 109 = .ok (.iconst 1, 1) := by decide +kernel
theorem dX6_isObeyed_110 : decode cX6_isObeyed 110 = .ok (.if_icmp .ne 19, 3) := by decide +kernel
theorem dX6_isObeyed_113 : decode cX6_isObeyed 113 = .ok (.aload_n 0, 1) := by decide +kernel
theorem dX6_isObeyed_114 : decode cX6_isObeyed 114 = .ok (.getfield 16, 3) := by decide +kernel
theorem dX6_isObeyed_117 : decode cX6_isObeyed 117 = .ok (.iload_n 2, 1) := by decide +kernel
theorem dX6_isObeyed_118 : decode cX6_isObeyed 118 = .ok (.iaload, 1) := by decide +kernel
theorem dX6_isObeyed_119 : decode cX6_isObeyed 119 = .ok (.aload_n 0, 1) := by decide +kernel
theorem dX6_isObeyed_120 : decode cX6_isObeyed 120 = .ok (.getfield 60, 3) := by decide +kernel
theorem dX6_isObeyed_123 : decode cX6_isObeyed 123 = .ok (.iload_n 1, 1) := by decide +kernel
theorem dX6_isObeyed_124 : decode cX6_isObeyed 124 = .ok (.iaload, 1) := by decide +kernel
theorem dX6_isObeyed_125 : decode cX6_isObeyed 125 = .ok (.iadd, 1) := by decide +kernel
theorem dX6_isObeyed_126 : decode cX6_isObeyed 126 = .ok (.goto 16, 3) := by decide +kernel
theorem dX6_isObeyed_129 : decode cX6_isObeyed 129 = .ok (.aload_n 0, 1) := by decide +kernel
theorem dX6_isObeyed_130 : decode cX6_isObeyed 130 = .ok (.getfield 16, 3) := by decide +kernel
theorem dX6_isObeyed_133 : decode cX6_isObeyed 133 = .ok (.iload_n 2, 1) := by decide +kernel
theorem dX6_isObeyed_134 : decode cX6_isObeyed 134 = .ok (.iaload, 1) := by decide +kernel
theorem dX6_isObeyed_135 : decode cX6_isObeyed 135 = .ok (.aload_n 0, 1) := by decide +kernel
theorem dX6_isObeyed_136 : decode cX6_isObeyed 136 = .ok (.getfield 60, 3) := by decide +kernel
theorem dX6_isObeyed_139 : decode cX6_isObeyed 139 = .ok (.iload_n 1, 1) := by decide +kernel
theorem dX6_isObeyed_140 : decode cX6_isObeyed 140 = .ok (.iaload, 1) := by decide +kernel
theorem dX6_isObeyed_141 : decode cX6_isObeyed 141 = .ok (.isub, 1) := by decide +kernel
theorem dX6_isObeyed_142 : decode cX6_isObeyed 142 = .ok (.invokevirtual 152, 3) := by decide +kernel
theorem dX6_isObeyed_145 : decode cX6_isObeyed 145 = .ok (.iinc 1 1, 3) := by decide +kernel
theorem dX6_isObeyed_148 : decode cX6_isObeyed 148 = .ok (.goto (-72), 3) := by decide +kernel
theorem dX6_isObeyed_151 : decode cX6_isObeyed 151 = .ok (.aload_n 0, 1) := by decide +kernel
theorem dX6_isObeyed_152 : decode cX6_isObeyed 152 = .ok (.invokevirtual 177, 3) := by decide +kernel
theorem dX6_isObeyed_155 : decode cX6_isObeyed 155 = .ok (.aload_n 0, 1) := by decide +kernel
theorem dX6_isObeyed_156 : decode cX6_isObeyed 156 = .ok (.getfield 53, 3) := by decide +kernel
theorem dX6_isObeyed_159 : decode cX6_isObeyed 159 = .ok (.iconst 0, 1) := by decide +kernel
theorem dX6_isObeyed_160 : decode cX6_isObeyed 160 = .ok (.baload, 1) := by decide +kernel
theorem dX6_isObeyed_161 : decode cX6_isObeyed 161 = .ok (.ifCond .ne 48, 3) := by decide +kernel
theorem dX6_isObeyed_164 : decode cX6_isObeyed 164 = .ok (.iconst 0, 1) := by decide +kernel
theorem dX6_isObeyed_165 : decode cX6_isObeyed 165 = .ok (.istore_n 1, 1) := by decide +kernel
theorem dX6_isObeyed_166 : decode cX6_isObeyed 166 = .ok (.iload_n 1, 1) := by decide +kernel
theorem dX6_isObeyed_167 : decode cX6_isObeyed 167 = .ok (.aload_n 0, 1) := by decide +kernel
theorem dX6_isObeyed_168 : decode cX6_isObeyed 168 = .ok (.getfield 217, 3) := by decide +kernel
theorem dX6_isObeyed_171 : decode cX6_isObeyed 171 = .ok (.if_icmp .ge 28, 3) := by decide +kernel
theorem dX6_isObeyed_174 : decode cX6_isObeyed 174 = .ok (.aload_n 0, 1) := by decide +kernel
theorem dX6_isObeyed_175 : decode cX6_isObeyed 175 = .ok (.getfield 66, 3) := by decide +kernel
theorem dX6_isObeyed_178 : decode cX6_isObeyed 178 = .ok (.iconst 5, 1) := by decide +kernel
theorem dX6_isObeyed_179 : decode cX6_isObeyed 179 = .ok (.aload_n 0, 1) := by decide +kernel
theorem dX6_isObeyed_180 : decode cX6_isObeyed 180 = .ok (.getfield 214, 3) := by decide +kernel
theorem dX6_isObeyed_183 : decode cX6_isObeyed 183 = .ok (.imul, 1) := by decide +kernel
theorem dX6_isObeyed_184 : decode cX6_isObeyed 184 = .ok (.iload_n 1, 1) := by decide +kernel
theorem dX6_isObeyed_185 : decode cX6_isObeyed 185 = .ok (.iadd, 1) := by decide +kernel
theorem dX6_isObeyed_186 : decode cX6_isObeyed 186 = .ok (.aload_n 0, 1) := by decide +kernel
theorem dX6_isObeyed_187 : decode cX6_isObeyed 187 = .ok (.getfield 60, 3) := by decide +kernel
theorem dX6_isObeyed_190 : decode cX6_isObeyed 190 = .ok (.iload_n 1, 1) := by decide +kernel
theorem dX6_isObeyed_191 : decode cX6_isObeyed 191 = .ok (.iaload, 1) := by decide +kernel
theorem dX6_isObeyed_192 : decode cX6_isObeyed 192 = .ok (.iastore, 1) := by decide +kernel
theorem dX6_isObeyed_193 : decode cX6_isObeyed 193 = .ok (.iinc 1 1, 3) := by decide +kernel
theorem dX6_isObeyed_196 : decode cX6_isObeyed 196 = .ok (.goto (-30), 3) := by decide +kernel
theorem dX6_isObeyed_199 : decode cX6_isObeyed 199 = .ok (.aload_n 0, 1) := by decide +kernel
theorem dX6_isObeyed_200 : decode cX6_isObeyed 200 = .ok (.dup, 1) := by decide +kernel
theorem dX6_isObeyed_201 : decode cX6_isObeyed 201 = .ok (.getfield 214, 3) := by decide +kernel
theorem dX6_isObeyed_204 : decode cX6_isObeyed 204 = .ok (.iconst 1, 1) := by decide +kernel
theorem dX6_isObeyed_205 : decode cX6_isObeyed 205 = .ok (.iadd, 1) := by decide +kernel
theorem dX6_isObeyed_206 : decode cX6_isObeyed 206 = .ok (.putfield 214, 3) := by decide +kernel
theorem dX6_isObeyed_209 : decode cX6_isObeyed 209 = .ok (.aload_n 0, 1) := by decide +kernel
theorem dX6_isObeyed_210 : decode cX6_isObeyed 210 = .ok (.getfield 53, 3) := by decide +kernel
theorem dX6_isObeyed_213 : decode cX6_isObeyed 213 = .ok (.iconst 0, 1) := by decide +kernel
theorem dX6_isObeyed_214 : decode cX6_isObeyed 214 = .ok (.baload, 1) := by decide +kernel
theorem dX6_isObeyed_215 : decode cX6_isObeyed 215 = .ok (.ireturn, 1) := by decide +kernel
set_option maxRecDepth 20000 in
theorem ggX6_go_X6_isObeyed : GoodIn wsX6_go wsX6_isObeyed := goodIn_r _ [12, 13, 2, 4, 14, 15, 5, 16, 17, 18, 19, 20, 21, 11, 22, 23, 24, 25, 26, 27, 28, 29, 30, 31, 32, 33, 34, 35, 36, 37, 38, 39, 40, 41, 42, 43, 44, 45, 46, 47, 48, 56, 57, 58, 59, 60, 61, 62, 63, 64, 65, 66, 67, 68, 69, 70, 71, 72, 73, 74, 75, 76, 77, 78, 79, 80, 81, 82, 83, 84, 85, 86, 87, 88, 89, 90, 91, 92, 93, 94, 95, 96, 97, 98] (by decide +kernel) (by decide +kernel)
set_option maxRecDepth 20000 in
theorem gX6_go_X6_isObeyed : GoodIn wsX6_go (wsV RX6 223 RX6 yX6_isObeyed wsX6_isObeyed) := goodIn_app (goodIn_of _ (by decide +kernel)) ggX6_go_X6_isObeyed
set_option maxRecDepth 20000 in
theorem ggX6_go_X6_mayBe : GoodIn wsX6_go wsX6_mayBe := goodIn_r _ [52, 16, 17, 56, 57, 58, 59, 60, 61, 62, 63, 64, 65, 66, 67, 68, 69, 70, 71, 72, 73, 74, 75, 76, 77, 78, 79, 80, 81, 82, 83, 84, 85, 86, 87, 88, 89, 90, 91, 92, 93, 94, 95, 96, 97, 98] (by decide +kernel) (by decide +kernel)
set_option maxRecDepth 20000 in
theorem gX6_go_X6_mayBe : GoodIn wsX6_go (wsV RX6 226 RX6 yX6_mayBe wsX6_mayBe) := goodIn_app (goodIn_of _ (by decide +kernel)) ggX6_go_X6_mayBe
set_option maxRecDepth 20000 in
theorem ggX6_go_X6_go : GoodIn wsX6_go wsX6_go := goodIn_r _ [0, 1, 2, 3, 4, 5, 6, 7, 8, 9, 10, 11, 12, 13, 14, 15, 16, 17, 18, 19, 20, 21, 22, 23, 24, 25, 26, 27, 28, 29, 30, 31, 32, 33, 34, 35, 36, 37, 38, 39, 40, 41, 42, 43, 44, 45, 46, 47, 48, 49, 50, 51, 52, 53, 54, 55, 56, 57, 58, 59, 60, 61, 62, 63, 64, 65, 66, 67, 68, 69, 70, 71, 72, 73, 74, 75, 76, 77, 78, 79, 80, 81, 82, 83, 84, 85, 86, 87, 88, 89, 90, 91, 92, 93, 94, 95, 96, 97, 98] (by decide +kernel) (by decide +kernel)
set_option maxRecDepth 20000 in
theorem gX6_go_X6_go : GoodIn wsX6_go (wsV RX6 229 RX6 yX6_go wsX6_go) := goodIn_app (goodIn_of _ (by decide +kernel)) ggX6_go_X6_go
theorem dX6_go_0 : decode cX6_go 0 = .ok (.aload_n 0, 1) := by decide +kernel
theorem dX6_go_1 : decode cX6_go 1 = .ok (.getfield 220, 3) := by decide +kernel
theorem dX6_go_4 : decode cX6_go 4 = .ok (.ifCond .lt 12, 3) := by decide +kernel
theorem dX6_go_7 : decode cX6_go 7 = .ok (.iload_n 2, 1) := by decide +kernel
theorem dX6_go_8 : decode cX6_go 8 = .ok (.aload_n 0, 1) := by decide +kernel
theorem dX6_go_9 : decode cX6_go 9 = .ok (.getfield 220, 3) := by decide +kernel
theorem dX6_go_12 : decode cX6_go 12 = .ok (.if_icmp .lt 4, 3) := by decide +kernel
theorem dX6_go_15 : decode cX6_go 15 = .ok (.return_, 1) := by decide +kernel
theorem dX6_go_16 : decode cX6_go 16 = .ok (.iload_n 1, 1) := by decide +kernel
theorem dX6_go_17 : decode cX6_go 17 = .ok (.aload_n 0, 1) := by decide +kernel
theorem dX6_go_18 : decode cX6_go 18 = .ok (.getfield 217, 3) := by decide +kernel
theorem dX6_go_21 : decode cX6_go 21 = .ok (.if_icmp .ne 44, 3) := by decide +kernel
theorem dX6_go_24 : decode cX6_go 24 = .ok (.aload_n 0, 1) := by decide +kernel
theorem dX6_go_25 : decode cX6_go 25 = .ok (.invokevirtual 223, 3) := by decide +kernel
theorem dX6_go_28 : decode cX6_go 28 = .ok (.ifCond .eq 36, 3) := by decide +kernel
theorem dX6_go_31 : decode cX6_go 31 = .ok (.aload_n 0, 1) := by decide +kernel
theorem dX6_go_32 : decode cX6_go 32 = .ok (.iload_n 2, 1) := by decide +kernel
theorem dX6_go_33 : decode cX6_go 33 = .ok (.putfield 220, 3) := by decide +kernel
theorem dX6_go_36 : decode cX6_go 36 = .ok (.iconst 0, 1) := by decide +kernel
theorem dX6_go_37 : decode cX6_go 37 = .ok (.istore_n 3, 1) := by decide +kernel
theorem dX6_go_38 : decode cX6_go 38 = .ok (.iload_n 3, 1) := by decide +kernel
theorem dX6_go_39 : decode cX6_go 39 = .ok (.aload_n 0, 1) := by decide +kernel
theorem dX6_go_40 : decode cX6_go 40 = .ok (.getfield 217, 3) := by decide +kernel
theorem dX6_go_43 : decode cX6_go 43 = .ok (.if_icmp .ge 21, 3) := by decide +kernel
theorem dX6_go_46 : decode cX6_go 46 = .ok (.aload_n 0, 1) := by decide +kernel
theorem dX6_go_47 : decode cX6_go 47 = .ok (.getfield 63, 3) := by decide +kernel
theorem dX6_go_50 : decode cX6_go 50 = .ok (.iload_n 3, 1) := by decide +kernel
theorem dX6_go_51 : decode cX6_go 51 = .ok (.aload_n 0, 1) := by decide +kernel
theorem dX6_go_52 : decode cX6_go 52 = .ok (.getfield 60, 3) := by decide +kernel
theorem dX6_go_55 : decode cX6_go 55 = .ok (.iload_n 3, 1) := by decide +kernel
theorem dX6_go_56 : decode cX6_go 56 = .ok (.iaload, 1) := by decide +kernel
theorem dX6_go_57 : decode cX6_go 57 = .ok (.iastore, 1) := by decide +kernel
theorem dX6_go_58 : decode cX6_go 58 = .ok (.iinc 3 1, 3) := by decide +kernel
theorem dX6_go_61 : decode cX6_go 61 = .ok (.goto (-23), 3) := by decide +kernel
theorem dX6_go_64 : decode cX6_go 64 = .ok (.return_, 1) := by decide +kernel
theorem dX6_go_65 : decode cX6_go 65 = .ok (.aload_n 0, 1) := by decide +kernel
theorem dX6_go_66 : decode cX6_go 66 = .ok (.getfield 84, 3) := by decide +kernel
theorem dX6_go_69 : decode cX6_go 69 = .ok (.iload_n 1, 1) := by decide +kernel
theorem dX6_go_70 : decode cX6_go 70 = .ok (.iaload, 1) := by decide +kernel
theorem dX6_go_71 : decode cX6_go 71 = .ok (.istore_n 3, 1) := by decide +kernel
theorem dX6_go_72 : decode cX6_go 72 = .ok (.iconst 0, 1) := by decide +kernel
theorem dX6_go_73 : decode cX6_go 73 = .ok (.istore 4, 2) := by decide +kernel
theorem dX6_go_75 : decode cX6_go 75 = .ok (.iload 4, 2) := by decide +kernel
theorem dX6_go_77 : decode cX6_go 77 = .ok (.iconst 4, 1) := by decide +kernel
theorem dX6_go_78 : decode cX6_go 78 = .ok (.if_icmp .gt 60, 3) := by decide +kernel
theorem dX6_go_81 : decode cX6_go 81 = .ok (.aload_n 0, 1) := by decide +kernel
theorem dX6_go_82 : decode cX6_go 82 = .ok (.iload_n 3, 1) := by decide +kernel
theorem dX6_go_83 : decode cX6_go 83 = .ok (.iload 4, 2) := by decide +kernel
theorem dX6_go_85 : decode cX6_go 85 = .ok (.invokevirtual 226, 3) := by decide +kernel
theorem dX6_go_88 : decode cX6_go 88 = .ok (.ifCond .eq 44, 3) := by decide +kernel
theorem dX6_go_91 : decode cX6_go 91 = .ok (.aload_n 0, 1) := by decide +kernel
theorem dX6_go_92 : decode cX6_go 92 = .ok (.getfield 60, 3) := by decide +kernel
theorem dX6_go_95 : decode cX6_go 95 = .ok (.iload_n 1, 1) := by decide +kernel
theorem dX6_go_96 : decode cX6_go 96 = .ok (.iload 4, 2) := by decide +kernel
theorem dX6_go_98 : decode cX6_go 98 = .ok (.iastore, 1) := by decide +kernel
theorem dX6_go_99 : decode cX6_go 99 = .ok (.aload_n 0, 1) := by decide +kernel
theorem dX6_go_100 : decode cX6_go 100 = .ok (.iload_n 1, 1) := by decide +kernel
theorem dX6_go_101 : decode cX6_go 101 = .ok (.iconst 1, 1) := by decide +kernel
theorem dX6_go_102 : decode cX6_go 102 = .ok (.iadd, 1) := by decide +kernel
theorem dX6_go_103 : decode cX6_go 103 = .ok (.iload_n 2, 1) := by decide +kernel
theorem dX6_go_104 : decode cX6_go 104 = .ok (.iload 4, 2) := by decide +kernel
theorem dX6_go_106 : decode cX6_go 106 = .ok (.iconst 4, 1) := by decide +kernel
theorem dX6_go_107 : decode cX6_go 107 = .ok (.if_icmp .ne 12, 3) := by decide +kernel
theorem dX6_go_110 : decode cX6_go 110 = .ok (.aload_n 0, 1) := by decide +kernel
theorem dX6_go_111 : decode cX6_go 111 = .ok (.getfield 29, 3) := by decide +kernel
theorem dX6_go_114 : decode cX6_go 114 = .ok (.iload_n 3, 1) := by decide +kernel
theorem dX6_go_115 : decode cX6_go 115 = .ok (.iaload, 1) := by decide +kernel
theorem dX6_go_116 : decode cX6_go 116 = .ok (.goto 12, 3) := by decide +kernel
theorem dX6_go_119 : decode cX6_go 119 = .ok (.aload_n 0, 1) := by decide +kernel
theorem dX6_go_120 : decode cX6_go 120 = .ok (.getfield 32, 3) := by decide +kernel
theorem dX6_go_123 : decode cX6_go 123 = .ok (.iload_n 3, 1) := by decide +kernel
theorem dX6_go_124 : decode cX6_go 124 = .ok (.iaload, 1) := by decide +kernel
theorem dX6_go_125 : decode cX6_go 125 = .ok (.iload 4, 2) := by decide +kernel
theorem dX6_go_127 : decode cX6_go 127 = .ok (.imul, 1) := by decide +kernel
theorem dX6_go_128 : decode cX6_go 128 = .ok (.iadd, 1) := by decide +kernel
theorem dX6_go_129 : decode cX6_go 129 = .ok (.invokevirtual 229, 3) := by decide +kernel
theorem dX6_go_132 : decode cX6_go 132 = .ok (.iinc 4 1, 3) := by decide +kernel
theorem dX6_go_135 : decode cX6_go 135 = .ok (.goto (-60), 3) := by decide +kernel
theorem dX6_go_138 : decode cX6_go 138 = .ok (.return_, 1) := by decide +kernel
set_option maxRecDepth 20000 in
theorem ggX6_peace_X6_isSet : GoodIn wsX6_peace wsX6_isSet := goodIn_r _ [11, 2, 12, 13, 10, 14, 66, 67, 68, 69, 70, 71, 72, 73, 74, 75, 76, 77, 78, 79, 80, 81, 82, 83, 84, 85, 86, 87, 88, 89, 90, 91, 92, 93, 94, 95, 96, 97, 98, 99, 100, 101, 102, 103, 104, 105, 106, 107, 108] (by decide +kernel) (by decide +kernel)
set_option maxRecDepth 20000 in
theorem gX6_peace_X6_isSet : GoodIn wsX6_peace (wsV RX6 169 RX6 yX6_isSet wsX6_isSet) := goodIn_app (goodIn_of _ (by decide +kernel)) ggX6_peace_X6_isSet
set_option maxRecDepth 20000 in
theorem ggX6_peace_X6_go : GoodIn wsX6_peace wsX6_go := goodIn_r _ [18, 5, 1, 19, 20, 3, 21, 22, 23, 24, 25, 10, 26, 4, 27, 28, 29, 30, 31, 32, 33, 34, 35, 36, 37, 38, 39, 40, 41, 42, 43, 44, 45, 46, 47, 48, 49, 50, 51, 52, 53, 54, 55, 56, 57, 58, 59, 60, 61, 62, 63, 64, 65, 15, 16, 17, 66, 67, 68, 69, 70, 71, 72, 73, 74, 75, 76, 77, 78, 79, 80, 81, 82, 83, 84, 85, 86, 87, 88, 89, 90, 91, 92, 93, 94, 95, 96, 97, 98, 99, 100, 101, 102, 103, 104, 105, 106, 107, 108] (by decide +kernel) (by decide +kernel)
set_option maxRecDepth 20000 in
theorem gX6_peace_X6_go : GoodIn wsX6_peace (wsV RX6 229 RX6 yX6_go wsX6_go) := goodIn_app (goodIn_of _ (by decide +kernel)) ggX6_peace_X6_go
theorem dX6_peace_0 : decode cX6_peace 0 = .ok (.aload_n 0, 1) := by decide +kernel
theorem dX6_peace_1 : decode cX6_peace 1 = .ok (.iload_n 1, 1) := by decide +kernel
theorem dX6_peace_2 : decode cX6_peace 2 = .ok (.iconst 4, 1) := by decide +kernel
theorem dX6_peace_3 : decode cX6_peace 3 = .ok (.invokevirtual 169, 3) := by decide +kernel
theorem dX6_peace_6 : decode cX6_peace 6 = .ok (.ifCond .ne 5, 3) := by decide +kernel
theorem dX6_peace_9 : decode cX6_peace 9 = .ok (.iconst (-1), 1) := by decide +kernel
theorem dX6_peace_10 : decode cX6_peace 10 = .ok (.ireturn, 1) := by decide +kernel
theorem dX6_peace_11 : decode cX6_peace 11 = .ok (.aload_n 0, 1) := by decide +kernel
theorem dX6_peace_12 : decode cX6_peace 12 = .ok (.iconst 0, 1) := by decide +kernel
theorem dX6_peace_13 : decode cX6_peace 13 = .ok (.putfield 217, 3) := by decide +kernel
theorem dX6_peace_16 : decode cX6_peace 16 = .ok (.iconst 0, 1) := by decide +kernel
theorem dX6_peace_17 : decode cX6_peace 17 = .ok (.istore_n 2, 1) := by decide +kernel
theorem dX6_peace_18 : decode cX6_peace 18 = .ok (.iload_n 2, 1) := by decide +kernel
theorem dX6_peace_19 : decode cX6_peace 19 = .ok (.aload_n 0, 1) := by decide +kernel
theorem dX6_peace_20 : decode cX6_peace 20 = .ok (.getfield 87, 3) := by decide +kernel
theorem dX6_peace_23 : decode cX6_peace 23 = .ok (.if_icmp .ge 38, 3) := by decide +kernel
theorem dX6_peace_26 : decode cX6_peace 26 = .ok (.iload_n 1, 1) := by decide +kernel
theorem dX6_peace_27 : decode cX6_peace 27 = .ok (.iload_n 2, 1) := by decide +kernel
theorem dX6_peace_28 : decode cX6_peace 28 = .ok (.ishr, 1) := by decide +kernel
theorem dX6_peace_29 : decode cX6_peace 29 = .ok (.iconst 1, 1) := by decide +kernel
theorem dX6_peace_30 : decode cX6_peace 30 = .ok (.iand, 1) := by decide +kernel
theorem dX6_peace_31 : decode cX6_peace 31 = .ok (.iconst 1, 1) := by decide +kernel
theorem dX6_peace_32 : decode cX6_peace 32 = .ok (.if_icmp .ne 23, 3) := by decide +kernel
theorem dX6_peace_35 : decode cX6_peace 35 = .ok (.aload_n 0, 1) := by decide +kernel
theorem dX6_peace_36 : decode cX6_peace 36 = .ok (.getfield 84, 3) := by decide +kernel
theorem dX6_peace_39 : decode cX6_peace 39 = .ok (.aload_n 0, 1) := by decide +kernel
theorem dX6_peace_40 : decode cX6_peace 40 = .ok (.getfield 217, 3) := by decide +kernel
theorem dX6_peace_43 : decode cX6_peace 43 = .ok (.iload_n 2, 1) := by decide +kernel
theorem dX6_peace_44 : decode cX6_peace 44 = .ok (.iastore, 1) := by decide +kernel
theorem dX6_peace_45 : decode cX6_peace 45 = .ok (.aload_n 0, 1) := by decide +kernel
theorem dX6_peace_46 : decode cX6_peace 46 = .ok (.dup, 1) := by decide +kernel
theorem dX6_peace_47 : decode cX6_peace 47 = .ok (.getfield 217, 3) := by decide +kernel
theorem dX6_peace_50 : decode cX6_peace 50 = .ok (.iconst 1, 1) := by decide +kernel
theorem dX6_peace_51 : decode cX6_peace 51 = .ok (.iadd, 1) := by decide +kernel
theorem dX6_peace_52 : decode cX6_peace 52 = .ok (.putfield 217, 3) := by decide +kernel
theorem dX6_peace_55 : decode cX6_peace 55 = .ok (.iinc 2 1, 3) := by decide +kernel
theorem dX6_peace_58 : decode cX6_peace 58 = .ok (.goto (-40), 3) := by decide +kernel
theorem dX6_peace_61 : decode cX6_peace 61 = .ok (.aload_n 0, 1) := by decide +kernel
theorem dX6_peace_62 : decode cX6_peace 62 = .ok (.iconst 0, 1) := by decide +kernel
theorem dX6_peace_63 : decode cX6_peace 63 = .ok (.putfield 214, 3) := by decide +kernel
theorem dX6_peace_66 : decode cX6_peace 66 = .ok (.aload_n 0, 1) := by decide +kernel
theorem dX6_peace_67 : decode cX6_peace 67 = .ok (.iconst (-1), 1) := by decide +kernel
theorem dX6_peace_68 : decode cX6_peace 68 = .ok (.putfield 220, 3) := by decide +kernel
theorem dX6_peace_71 : decode cX6_peace 71 = .ok (.aload_n 0, 1) := by decide +kernel
theorem dX6_peace_72 : decode cX6_peace 72 = .ok (.iconst 0, 1) := by decide +kernel
theorem dX6_peace_73 : decode cX6_peace 73 = .ok (.iconst 0, 1) := by decide +kernel
theorem dX6_peace_74 : decode cX6_peace 74 = .ok (.invokevirtual 229, 3) := by decide +kernel
theorem dX6_peace_77 : decode cX6_peace 77 = .ok (.aload_n 0, 1) := by decide +kernel
theorem dX6_peace_78 : decode cX6_peace 78 = .ok (.iload_n 1, 1) := by decide +kernel
theorem dX6_peace_79 : decode cX6_peace 79 = .ok (.putfield 232, 3) := by decide +kernel
theorem dX6_peace_82 : decode cX6_peace 82 = .ok (.aload_n 0, 1) := by decide +kernel
theorem dX6_peace_83 : decode cX6_peace 83 = .ok (.getfield 220, 3) := by decide +kernel
theorem dX6_peace_86 : decode cX6_peace 86 = .ok (.ireturn, 1) := by decide +kernel
set_option maxRecDepth 20000 in
theorem ggX6_made_X6_isWant : GoodIn wsX6_made wsX6_isWant := goodIn_r _ [7, 8, 9, 10, 11, 12, 13, 14, 15, 16, 17, 18, 19, 20, 21, 22, 23, 24, 25, 26, 27, 28, 29, 30, 31, 32, 33, 34, 35, 36, 37, 38, 39, 40, 41, 42, 43, 44, 45, 46, 47, 48, 49, 50, 51] (by decide +kernel) (by decide +kernel)
set_option maxRecDepth 20000 in
theorem gX6_made_X6_isWant : GoodIn wsX6_made (wsV RX6 137 RX6 yX6_isWant wsX6_isWant) := goodIn_app (goodIn_of _ (by decide +kernel)) ggX6_made_X6_isWant
theorem dX6_made_0 : decode cX6_made 0 = .ok (.aload_n 0, 1) := by decide +kernel
theorem dX6_made_1 : decode cX6_made 1 = .ok (.iload_n 1, 1) := by decide +kernel
theorem dX6_made_2 : decode cX6_made 2 = .ok (.invokevirtual 137, 3) := by decide +kernel
theorem dX6_made_5 : decode cX6_made 5 = .ok (.ifCond .eq 14, 3) := by decide +kernel
theorem dX6_made_8 : decode cX6_made 8 = .ok (.aload_n 0, 1) := by decide +kernel
theorem dX6_made_9 : decode cX6_made 9 = .ok (.getfield 232, 3) := by decide +kernel
theorem dX6_made_12 : decode cX6_made 12 = .ok (.iload_n 1, 1) := by decide +kernel
theorem dX6_made_13 : decode cX6_made 13 = .ok (.ishr, 1) := by decide +kernel
theorem dX6_made_14 : decode cX6_made 14 = .ok (.iconst 1, 1) := by decide +kernel
theorem dX6_made_15 : decode cX6_made 15 = .ok (.iand, 1) := by decide +kernel
theorem dX6_made_16 : decode cX6_made 16 = .ok (.ifCond .ne 5, 3) := by decide +kernel
theorem dX6_made_19 : decode cX6_made 19 = .ok (.iconst (-1), 1) := by decide +kernel
theorem dX6_made_20 : decode cX6_made 20 = .ok (.ireturn, 1) := by decide +kernel
theorem dX6_made_21 : decode cX6_made 21 = .ok (.iconst 0, 1) := by decide +kernel
theorem dX6_made_22 : decode cX6_made 22 = .ok (.istore_n 2, 1) := by decide +kernel
theorem dX6_made_23 : decode cX6_made 23 = .ok (.iconst 0, 1) := by decide +kernel
theorem dX6_made_24 : decode cX6_made 24 = .ok (.istore_n 3, 1) := by decide +kernel
theorem dX6_made_25 : decode cX6_made 25 = .ok (.iload_n 3, 1) := by decide +kernel
theorem dX6_made_26 : decode cX6_made 26 = .ok (.iload_n 1, 1) := by decide +kernel
theorem dX6_made_27 : decode cX6_made 27 = .ok (.if_icmp .ge 20, 3) := by decide +kernel
theorem dX6_made_30 : decode cX6_made 30 = .ok (.iload_n 2, 1) := by decide +kernel
theorem dX6_made_31 : decode cX6_made 31 = .ok (.aload_n 0, 1) := by decide +kernel
theorem dX6_made_32 : decode cX6_made 32 = .ok (.getfield 232, 3) := by decide +kernel
theorem dX6_made_35 : decode cX6_made 35 = .ok (.iload_n 3, 1) := by decide +kernel
theorem dX6_made_36 : decode cX6_made 36 = .ok (.ishr, 1) := by decide +kernel
theorem dX6_made_37 : decode cX6_made 37 = .ok (.iconst 1, 1) := by decide +kernel
theorem dX6_made_38 : decode cX6_made 38 = .ok (.iand, 1) := by decide +kernel
theorem dX6_made_39 : decode cX6_made 39 = .ok (.iadd, 1) := by decide +kernel
theorem dX6_made_40 : decode cX6_made 40 = .ok (.istore_n 2, 1) := by decide +kernel
theorem dX6_made_41 : decode cX6_made 41 = .ok (.iinc 3 1, 3) := by decide +kernel
theorem dX6_made_44 : decode cX6_made 44 = .ok (.goto (-19), 3) := by decide +kernel
theorem dX6_made_47 : decode cX6_made 47 = .ok (.aload_n 0, 1) := by decide +kernel
theorem dX6_made_48 : decode cX6_made 48 = .ok (.getfield 63, 3) := by decide +kernel
theorem dX6_made_51 : decode cX6_made 51 = .ok (.iload_n 2, 1) := by decide +kernel
theorem dX6_made_52 : decode cX6_made 52 = .ok (.iaload, 1) := by decide +kernel
theorem dX6_made_53 : decode cX6_made 53 = .ok (.ireturn, 1) := by decide +kernel
set_option maxRecDepth 20000 in
theorem ggX6_told_X6_within : GoodIn wsX6_told wsX6_within := goodIn_r _ [6] (by decide +kernel) (by decide +kernel)
set_option maxRecDepth 20000 in
theorem gX6_told_X6_within : GoodIn wsX6_told (va_wsS RX6 94 yX6_within wsX6_within) := goodIn_app (goodIn_of _ (by decide +kernel)) ggX6_told_X6_within
theorem dX6_told_0 : decode cX6_told 0 = .ok (.iload_n 1, 1) := by decide +kernel
theorem dX6_told_1 : decode cX6_told 1 = .ok (.iconst 0, 1) := by decide +kernel
theorem dX6_told_2 : decode cX6_told 2 = .ok (.bipush 7, 2) := by decide +kernel
theorem dX6_told_4 : decode cX6_told 4 = .ok (.invokestatic 94, 3) := by decide +kernel
theorem dX6_told_7 : decode cX6_told 7 = .ok (.ifCond .eq 13, 3) := by decide +kernel
theorem dX6_told_10 : decode cX6_told 10 = .ok (.iload_n 2, 1) := by decide +kernel
theorem dX6_told_11 : decode cX6_told 11 = .ok (.iconst 0, 1) := by decide +kernel
theorem dX6_told_12 : decode cX6_told 12 = .ok (.bipush 7, 2) := by decide +kernel
theorem dX6_told_14 : decode cX6_told 14 = .ok (.invokestatic 94, 3) := by decide +kernel
theorem dX6_told_17 : decode cX6_told 17 = .ok (.ifCond .ne 5, 3) := by decide +kernel
theorem dX6_told_20 : decode cX6_told 20 = .ok (.iconst (-1), 1) := by decide +kernel
theorem dX6_told_21 : decode cX6_told 21 = .ok (.ireturn, 1) := by decide +kernel
theorem dX6_told_22 : decode cX6_told 22 = .ok (.aload_n 0, 1) := by decide +kernel
theorem dX6_told_23 : decode cX6_told 23 = .ok (.getfield 235, 3) := by decide +kernel
theorem dX6_told_26 : decode cX6_told 26 = .ok (.sipush 200, 3) := by decide +kernel
theorem dX6_told_29 : decode cX6_told 29 = .ok (.if_icmp .ne 6, 3) := by decide +kernel
theorem dX6_told_32 : decode cX6_told 32 = .ok (.bipush (-2), 2) := by decide +kernel
theorem dX6_told_34 : decode cX6_told 34 = .ok (.ireturn, 1) := by decide +kernel
theorem dX6_told_35 : decode cX6_told 35 = .ok (.aload_n 0, 1) := by decide +kernel
theorem dX6_told_36 : decode cX6_told 36 = .ok (.getfield 69, 3) := by decide +kernel
theorem dX6_told_39 : decode cX6_told 39 = .ok (.aload_n 0, 1) := by decide +kernel
theorem dX6_told_40 : decode cX6_told 40 = .ok (.getfield 235, 3) := by decide +kernel
theorem dX6_told_43 : decode cX6_told 43 = .ok (.bipush 8, 2) := by decide +kernel
theorem dX6_told_45 : decode cX6_told 45 = .ok (.iload_n 1, 1) := by decide +kernel
theorem dX6_told_46 : decode cX6_told 46 = .ok (.imul, 1) := by decide +kernel
theorem dX6_told_47 : decode cX6_told 47 = .ok (.iload_n 2, 1) := by decide +kernel
theorem dX6_told_48 : decode cX6_told 48 = .ok (.iadd, 1) := by decide +kernel
theorem dX6_told_49 : decode cX6_told 49 = .ok (.iastore, 1) := by decide +kernel
theorem dX6_told_50 : decode cX6_told 50 = .ok (.aload_n 0, 1) := by decide +kernel
theorem dX6_told_51 : decode cX6_told 51 = .ok (.dup, 1) := by decide +kernel
theorem dX6_told_52 : decode cX6_told 52 = .ok (.getfield 235, 3) := by decide +kernel
theorem dX6_told_55 : decode cX6_told 55 = .ok (.iconst 1, 1) := by decide +kernel
theorem dX6_told_56 : decode cX6_told 56 = .ok (.iadd, 1) := by decide +kernel
theorem dX6_told_57 : decode cX6_told 57 = .ok (.putfield 235, 3) := by decide +kernel
theorem dX6_told_60 : decode cX6_told 60 = .ok (.aload_n 0, 1) := by decide +kernel
theorem dX6_told_61 : decode cX6_told 61 = .ok (.getfield 235, 3) := by decide +kernel
theorem dX6_told_64 : decode cX6_told 64 = .ok (.ireturn, 1) := by decide +kernel
theorem dX6_clear_0 : decode cX6_clear 0 = .ok (.aload_n 0, 1) := by decide +kernel
theorem dX6_clear_1 : decode cX6_clear 1 = .ok (.getfield 235, 3) := by decide +kernel
theorem dX6_clear_4 : decode cX6_clear 4 = .ok (.istore_n 1, 1) := by decide +kernel
theorem dX6_clear_5 : decode cX6_clear 5 = .ok (.aload_n 0, 1) := by decide +kernel
theorem dX6_clear_6 : decode cX6_clear 6 = .ok (.iconst 0, 1) := by decide +kernel
theorem dX6_clear_7 : decode cX6_clear 7 = .ok (.putfield 235, 3) := by decide +kernel
theorem dX6_clear_10 : decode cX6_clear 10 = .ok (.iload_n 1, 1) := by decide +kernel
theorem dX6_clear_11 : decode cX6_clear 11 = .ok (.ireturn, 1) := by decide +kernel
set_option maxRecDepth 20000 in
theorem ggX6_brokenIn_X6_stateBehind : GoodIn wsX6_brokenIn wsX6_stateBehind := goodIn_r _ [8, 9, 10, 11, 12, 13, 14, 15, 16, 17, 18, 19, 20, 21, 22, 23, 24, 25, 26, 27, 28, 29, 30, 31, 32, 33, 34, 35, 36, 37, 38, 39, 40, 41, 42, 43, 44, 45, 46, 47, 48, 49, 50, 51, 52, 53, 54] (by decide +kernel) (by decide +kernel)
set_option maxRecDepth 20000 in
theorem gX6_brokenIn_X6_stateBehind : GoodIn wsX6_brokenIn (wsV RX6 145 RX6 yX6_stateBehind wsX6_stateBehind) := goodIn_app (goodIn_of _ (by decide +kernel)) ggX6_brokenIn_X6_stateBehind
theorem dX6_brokenIn_0 : decode cX6_brokenIn 0 = .ok (.iconst 0, 1) := by decide +kernel
theorem dX6_brokenIn_1 : decode cX6_brokenIn 1 = .ok (.istore_n 2, 1) := by decide +kernel
theorem dX6_brokenIn_2 : decode cX6_brokenIn 2 = .ok (.iconst 0, 1) := by decide +kernel
theorem dX6_brokenIn_3 : decode cX6_brokenIn 3 = .ok (.istore_n 3, 1) := by decide +kernel
theorem dX6_brokenIn_4 : decode cX6_brokenIn 4 = .ok (.iload_n 3, 1) := by decide +kernel
theorem dX6_brokenIn_5 : decode cX6_brokenIn 5 = .ok (.aload_n 0, 1) := by decide +kernel
theorem dX6_brokenIn_6 : decode cX6_brokenIn 6 = .ok (.getfield 235, 3) := by decide +kernel
theorem dX6_brokenIn_9 : decode cX6_brokenIn 9 = .ok (.if_icmp .ge 34, 3) := by decide +kernel
theorem dX6_brokenIn_12 : decode cX6_brokenIn 12 = .ok (.aload_n 0, 1) := by decide +kernel
theorem dX6_brokenIn_13 : decode cX6_brokenIn 13 = .ok (.iload_n 1, 1) := by decide +kernel
theorem dX6_brokenIn_14 : decode cX6_brokenIn 14 = .ok (.aload_n 0, 1) := by decide +kernel
theorem dX6_brokenIn_15 : decode cX6_brokenIn 15 = .ok (.getfield 16, 3) := by decide +kernel
theorem dX6_brokenIn_18 : decode cX6_brokenIn 18 = .ok (.iload_n 1, 1) := by decide +kernel
theorem dX6_brokenIn_19 : decode cX6_brokenIn 19 = .ok (.iaload, 1) := by decide +kernel
theorem dX6_brokenIn_20 : decode cX6_brokenIn 20 = .ok (.iload_n 2, 1) := by decide +kernel
theorem dX6_brokenIn_21 : decode cX6_brokenIn 21 = .ok (.aload_n 0, 1) := by decide +kernel
theorem dX6_brokenIn_22 : decode cX6_brokenIn 22 = .ok (.getfield 69, 3) := by decide +kernel
theorem dX6_brokenIn_25 : decode cX6_brokenIn 25 = .ok (.iload_n 3, 1) := by decide +kernel
theorem dX6_brokenIn_26 : decode cX6_brokenIn 26 = .ok (.iaload, 1) := by decide +kernel
theorem dX6_brokenIn_27 : decode cX6_brokenIn 27 = .ok (.invokevirtual 145, 3) := by decide +kernel
theorem dX6_brokenIn_30 : decode cX6_brokenIn 30 = .ok (.istore_n 2, 1) := by decide +kernel
theorem dX6_brokenIn_31 : decode cX6_brokenIn 31 = .ok (.iload_n 2, 1) := by decide +kernel
theorem dX6_brokenIn_32 : decode cX6_brokenIn 32 = .ok (.ifCond .ge 5, 3) := by decide +kernel
theorem dX6_brokenIn_35 : decode cX6_brokenIn 35 = .ok (.iload_n 3, 1) := by decide +kernel
theorem dX6_brokenIn_36 : decode cX6_brokenIn 36 = .ok (.ireturn, 1) := by decide +kernel
theorem dX6_brokenIn_37 : decode cX6_brokenIn 37 = .ok (.iinc 3 1, 3) := by decide +kernel
theorem dX6_brokenIn_40 : decode cX6_brokenIn 40 = .ok (.goto (-36), 3) := by decide +kernel
theorem dX6_brokenIn_43 : decode cX6_brokenIn 43 = .ok (.bipush (-4), 2) := by decide +kernel
theorem dX6_brokenIn_45 : decode cX6_brokenIn 45 = .ok (.ireturn, 1) := by decide +kernel
set_option maxRecDepth 20000 in
theorem ggX6_held_X6_isWant : GoodIn wsX6_held wsX6_isWant := goodIn_r _ [5, 6, 21, 22, 23, 24, 25, 26, 27, 28, 29, 30, 31, 32, 33, 34, 35, 36, 37, 38, 39, 40, 41, 42, 43, 44, 45, 46, 47, 48, 49, 50, 51, 52, 53, 54, 55, 56, 57, 58, 59, 60, 61, 62, 63] (by decide +kernel) (by decide +kernel)
set_option maxRecDepth 20000 in
theorem gX6_held_X6_isWant : GoodIn wsX6_held (wsV RX6 137 RX6 yX6_isWant wsX6_isWant) := goodIn_app (goodIn_of _ (by decide +kernel)) ggX6_held_X6_isWant
set_option maxRecDepth 20000 in
theorem ggX6_held_X6_brokenIn : GoodIn wsX6_held wsX6_brokenIn := goodIn_r _ [10, 11, 12, 13, 14, 15, 16, 4, 17, 18, 19, 20, 21, 22, 23, 24, 25, 26, 27, 28, 29, 30, 31, 32, 33, 34, 35, 36, 37, 38, 39, 40, 41, 42, 43, 44, 45, 46, 47, 48, 49, 50, 51, 52, 53, 54, 55, 56, 57, 58, 59, 60, 61, 62, 63] (by decide +kernel) (by decide +kernel)
set_option maxRecDepth 20000 in
theorem gX6_held_X6_brokenIn : GoodIn wsX6_held (wsV RX6 238 RX6 yX6_brokenIn wsX6_brokenIn) := goodIn_app (goodIn_of _ (by decide +kernel)) ggX6_held_X6_brokenIn
theorem dX6_held_0 : decode cX6_held 0 = .ok (.aload_n 0, 1) := by decide +kernel
theorem dX6_held_1 : decode cX6_held 1 = .ok (.iload_n 1, 1) := by decide +kernel
theorem dX6_held_2 : decode cX6_held 2 = .ok (.invokevirtual 137, 3) := by decide +kernel
theorem dX6_held_5 : decode cX6_held 5 = .ok (.ifCond .eq 11, 3) := by decide +kernel
theorem dX6_held_8 : decode cX6_held 8 = .ok (.aload_n 0, 1) := by decide +kernel
theorem dX6_held_9 : decode cX6_held 9 = .ok (.iload_n 1, 1) := by decide +kernel
theorem dX6_held_10 : decode cX6_held 10 = .ok (.invokevirtual 238, 3) := by decide +kernel
theorem dX6_held_13 : decode cX6_held 13 = .ok (.goto 4, 3) := by decide +kernel
theorem dX6_held_16 : decode cX6_held 16 = .ok (.iconst (-1), 1) := by decide +kernel
theorem dX6_held_17 : decode cX6_held 17 = .ok (.ireturn, 1) := by decide +kernel
set_option maxRecDepth 20000 in
theorem ggX6_isDay_X6_within : GoodIn wsX6_isDay wsX6_within := goodIn_r _ [4] (by decide +kernel) (by decide +kernel)
set_option maxRecDepth 20000 in
theorem gX6_isDay_X6_within : GoodIn wsX6_isDay (va_wsS RX6 94 yX6_within wsX6_within) := goodIn_app (goodIn_of _ (by decide +kernel)) ggX6_isDay_X6_within
theorem dX6_isDay_0 : decode cX6_isDay 0 = .ok (.iload_n 0, 1) := by decide +kernel
theorem dX6_isDay_1 : decode cX6_isDay 1 = .ok (.iconst 0, 1) := by decide +kernel
theorem dX6_isDay_2 : decode cX6_isDay 2 = .ok (.sipush 9999, 3) := by decide +kernel
theorem dX6_isDay_5 : decode cX6_isDay 5 = .ok (.invokestatic 94, 3) := by decide +kernel
theorem dX6_isDay_8 : decode cX6_isDay 8 = .ok (.ireturn, 1) := by decide +kernel
set_option maxRecDepth 20000 in
theorem ggX6_kept_X6_isDay : GoodIn wsX6_kept wsX6_isDay := goodIn_r _ [5, 6, 7, 4, 8] (by decide +kernel) (by decide +kernel)
set_option maxRecDepth 20000 in
theorem gX6_kept_X6_isDay : GoodIn wsX6_kept (va_wsS RX6 241 yX6_isDay wsX6_isDay) := goodIn_app (goodIn_of _ (by decide +kernel)) ggX6_kept_X6_isDay
set_option maxRecDepth 20000 in
theorem ggX6_kept_X6_isThere : GoodIn wsX6_kept wsX6_isThere := goodIn_r _ [12, 13, 14, 29, 30, 31, 32, 33, 34, 35, 36, 37, 38, 39, 40, 41, 42, 43, 44, 45, 46, 47, 48, 49, 50, 51, 52, 53, 54, 55, 56, 57, 58, 59, 60, 61, 62, 63, 64, 65, 66, 67, 68, 69, 70, 71] (by decide +kernel) (by decide +kernel)
set_option maxRecDepth 20000 in
theorem gX6_kept_X6_isThere : GoodIn wsX6_kept (wsV RX6 244 RX6 yX6_isThere wsX6_isThere) := goodIn_app (goodIn_of _ (by decide +kernel)) ggX6_kept_X6_isThere
set_option maxRecDepth 20000 in
theorem ggX6_kept_X6_brokenIn : GoodIn wsX6_kept wsX6_brokenIn := goodIn_r _ [18, 19, 20, 21, 22, 23, 24, 4, 25, 26, 27, 28, 29, 30, 31, 32, 33, 34, 35, 36, 37, 38, 39, 40, 41, 42, 43, 44, 45, 46, 47, 48, 49, 50, 51, 52, 53, 54, 55, 56, 57, 58, 59, 60, 61, 62, 63, 64, 65, 66, 67, 68, 69, 70, 71] (by decide +kernel) (by decide +kernel)
set_option maxRecDepth 20000 in
theorem gX6_kept_X6_brokenIn : GoodIn wsX6_kept (wsV RX6 238 RX6 yX6_brokenIn wsX6_brokenIn) := goodIn_app (goodIn_of _ (by decide +kernel)) ggX6_kept_X6_brokenIn
theorem dX6_kept_0 : decode cX6_kept 0 = .ok (.iload_n 1, 1) := by decide +kernel
theorem dX6_kept_1 : decode cX6_kept 1 = .ok (.invokestatic 241, 3) := by decide +kernel
theorem dX6_kept_4 : decode cX6_kept 4 = .ok (.ifCond .ne 5, 3) := by decide +kernel
theorem dX6_kept_7 : decode cX6_kept 7 = .ok (.iconst (-1), 1) := by decide +kernel
theorem dX6_kept_8 : decode cX6_kept 8 = .ok (.ireturn, 1) := by decide +kernel
theorem dX6_kept_9 : decode cX6_kept 9 = .ok (.iconst 0, 1) := by decide +kernel
theorem dX6_kept_10 : decode cX6_kept 10 = .ok (.istore_n 2, 1) := by decide +kernel
theorem dX6_kept_11 : decode cX6_kept 11 = .ok (.iconst 0, 1) := by decide +kernel
theorem dX6_kept_12 : decode cX6_kept 12 = .ok (.istore_n 3, 1) := by decide +kernel
theorem dX6_kept_13 : decode cX6_kept 13 = .ok (.iload_n 3, 1) := by decide +kernel
theorem dX6_kept_14 : decode cX6_kept 14 = .ok (.aload_n 0, 1) := by decide +kernel
theorem dX6_kept_15 : decode cX6_kept 15 = .ok (.getfield 87, 3) := by decide +kernel
theorem dX6_kept_18 : decode cX6_kept 18 = .ok (.if_icmp .ge 36, 3) := by decide +kernel
theorem dX6_kept_21 : decode cX6_kept 21 = .ok (.iload_n 2, 1) := by decide +kernel
theorem dX6_kept_22 : decode cX6_kept 22 = .ok (.aload_n 0, 1) := by decide +kernel
theorem dX6_kept_23 : decode cX6_kept 23 = .ok (.iload_n 3, 1) := by decide +kernel
theorem dX6_kept_24 : decode cX6_kept 24 = .ok (.iload_n 1, 1) := by decide +kernel
theorem dX6_kept_25 : decode cX6_kept 25 = .ok (.invokevirtual 244, 3) := by decide +kernel
theorem dX6_kept_28 : decode cX6_kept 28 = .ok (.ifCond .eq 17, 3) := by decide +kernel
theorem dX6_kept_31 : decode cX6_kept 31 = .ok (.aload_n 0, 1) := by decide +kernel
theorem dX6_kept_32 : decode cX6_kept 32 = .ok (.iload_n 3, 1) := by decide +kernel
theorem dX6_kept_33 : decode cX6_kept 33 = .ok (.invokevirtual 238, 3) := by decide +kernel
theorem dX6_kept_36 : decode cX6_kept 36 = .ok (.bipush (-4), 2) := by decide +kernel
theorem dX6_kept_38 : decode cX6_kept 38 = .ok (.if_icmp .ne 7, 3) := by decide +kernel
theorem dX6_kept_41 : decode cX6_kept 41 = .ok (.iconst 1, 1) := by decide +kernel
theorem dX6_kept_42 : decode cX6_kept 42 = .ok (.goto 4, 3) := by decide +kernel
theorem dX6_kept_45 : decode cX6_kept 45 = .ok (.iconst 0, 1) := by decide +kernel
theorem dX6_kept_46 : decode cX6_kept 46 = .ok (.iadd, 1) := by decide +kernel
theorem dX6_kept_47 : decode cX6_kept 47 = .ok (.istore_n 2, 1) := by decide +kernel
theorem dX6_kept_48 : decode cX6_kept 48 = .ok (.iinc 3 1, 3) := by decide +kernel
theorem dX6_kept_51 : decode cX6_kept 51 = .ok (.goto (-38), 3) := by decide +kernel
theorem dX6_kept_54 : decode cX6_kept 54 = .ok (.iload_n 2, 1) := by decide +kernel
theorem dX6_kept_55 : decode cX6_kept 55 = .ok (.ireturn, 1) := by decide +kernel
theorem dX6_isPart_0 : decode cX6_isPart 0 = .ok (.iload_n 1, 1) := by decide +kernel
theorem dX6_isPart_1 : decode cX6_isPart 1 = .ok (.ifCond .lt 15, 3) := by decide +kernel
theorem dX6_isPart_4 : decode cX6_isPart 4 = .ok (.iload_n 1, 1) := by decide +kernel
theorem dX6_isPart_5 : decode cX6_isPart 5 = .ok (.aload_n 0, 1) := by decide +kernel
theorem dX6_isPart_6 : decode cX6_isPart 6 = .ok (.getfield 247, 3) := by decide +kernel
theorem dX6_isPart_9 : decode cX6_isPart 9 = .ok (.if_icmp .ge 7, 3) := by decide +kernel
theorem dX6_isPart_12 : decode cX6_isPart 12 = .ok (.iconst 1, 1) := by decide +kernel
theorem dX6_isPart_13 : decode cX6_isPart 13 = .ok (.goto 4, 3) := by decide +kernel
theorem dX6_isPart_16 : decode cX6_isPart 16 = .ok (.iconst 0, 1) := by decide +kernel
theorem dX6_isPart_17 : decode cX6_isPart 17 = .ok (.ireturn, 1) := by decide +kernel
theorem dX6_part_0 : decode cX6_part 0 = .ok (.aload_n 0, 1) := by decide +kernel
theorem dX6_part_1 : decode cX6_part 1 = .ok (.getfield 247, 3) := by decide +kernel
theorem dX6_part_4 : decode cX6_part 4 = .ok (.bipush 20, 2) := by decide +kernel
theorem dX6_part_6 : decode cX6_part 6 = .ok (.if_icmp .ne 6, 3) := by decide +kernel
theorem dX6_part_9 : decode cX6_part 9 = .ok (.bipush (-2), 2) := by decide +kernel
theorem dX6_part_11 : decode cX6_part 11 = .ok (.ireturn, 1) := by decide +kernel
theorem dX6_part_12 : decode cX6_part 12 = .ok (.aload_n 0, 1) := by decide +kernel
theorem dX6_part_13 : decode cX6_part 13 = .ok (.dup, 1) := by decide +kernel
theorem dX6_part_14 : decode cX6_part 14 = .ok (.getfield 247, 3) := by decide +kernel
theorem dX6_part_17 : decode cX6_part 17 = .ok (.iconst 1, 1) := by decide +kernel
theorem dX6_part_18 : decode cX6_part 18 = .ok (.iadd, 1) := by decide +kernel
theorem dX6_part_19 : decode cX6_part 19 = .ok (.putfield 247, 3) := by decide +kernel
theorem dX6_part_22 : decode cX6_part 22 = .ok (.aload_n 0, 1) := by decide +kernel
theorem dX6_part_23 : decode cX6_part 23 = .ok (.getfield 247, 3) := by decide +kernel
theorem dX6_part_26 : decode cX6_part 26 = .ok (.iconst 1, 1) := by decide +kernel
theorem dX6_part_27 : decode cX6_part 27 = .ok (.isub, 1) := by decide +kernel
theorem dX6_part_28 : decode cX6_part 28 = .ok (.ireturn, 1) := by decide +kernel
set_option maxRecDepth 20000 in
theorem ggX6_use_X6_isPart : GoodIn wsX6_use wsX6_isPart := goodIn_r _ [6, 7, 11, 12, 13, 14, 15, 16, 17, 18, 19, 20, 21, 22, 23, 24, 25, 26, 27, 28, 29, 30, 31, 32, 33, 34, 35, 36, 37, 38, 39, 40, 41, 42, 43, 44, 45, 46, 47, 48, 49, 50, 51, 52, 53] (by decide +kernel) (by decide +kernel)
set_option maxRecDepth 20000 in
theorem gX6_use_X6_isPart : GoodIn wsX6_use (wsV RX6 250 RX6 yX6_isPart wsX6_isPart) := goodIn_app (goodIn_of _ (by decide +kernel)) ggX6_use_X6_isPart
set_option maxRecDepth 20000 in
theorem ggX6_use_X6_within : GoodIn wsX6_use wsX6_within := goodIn_r _ [10] (by decide +kernel) (by decide +kernel)
set_option maxRecDepth 20000 in
theorem gX6_use_X6_within : GoodIn wsX6_use (va_wsS RX6 94 yX6_within wsX6_within) := goodIn_app (goodIn_of _ (by decide +kernel)) ggX6_use_X6_within
theorem dX6_use_0 : decode cX6_use 0 = .ok (.aload_n 0, 1) := by decide +kernel
theorem dX6_use_1 : decode cX6_use 1 = .ok (.iload_n 1, 1) := by decide +kernel
theorem dX6_use_2 : decode cX6_use 2 = .ok (.invokevirtual 250, 3) := by decide +kernel
theorem dX6_use_5 : decode cX6_use 5 = .ok (.ifCond .eq 23, 3) := by decide +kernel
theorem dX6_use_8 : decode cX6_use 8 = .ok (.iload_n 2, 1) := by decide +kernel
theorem dX6_use_9 : decode cX6_use 9 = .ok (.iconst 0, 1) := by decide +kernel
theorem dX6_use_10 : decode cX6_use 10 = .ok (.iload_n 1, 1) := by decide +kernel
theorem dX6_use_11 : decode cX6_use 11 = .ok (.iconst 1, 1) := by decide +kernel
theorem dX6_use_12 : decode cX6_use 12 = .ok (.isub, 1) := by decide +kernel
theorem dX6_use_13 : decode cX6_use 13 = .ok (.invokestatic 94, 3) := by decide +kernel
theorem dX6_use_16 : decode cX6_use 16 = .ok (.ifCond .eq 12, 3) := by decide +kernel
theorem dX6_use_19 : decode cX6_use 19 = .ok (.iload_n 3, 1) := by decide +kernel
theorem dX6_use_20 : decode cX6_use 20 = .ok (.iconst 0, 1) := by decide +kernel
theorem dX6_use_21 : decode cX6_use 21 = .ok (.iconst 1, 1) := by decide +kernel
theorem dX6_use_22 : decode cX6_use 22 = .ok (.invokestatic 94, 3) := by decide +kernel
theorem dX6_use_25 : decode cX6_use 25 = .ok (.ifCond .ne 5, 3) := by decide +kernel
theorem dX6_use_28 : decode cX6_use 28 = .ok (.iconst (-1), 1) := by decide +kernel
theorem dX6_use_29 : decode cX6_use 29 = .ok (.ireturn, 1) := by decide +kernel
theorem dX6_use_30 : decode cX6_use 30 = .ok (.aload_n 0, 1) := by decide +kernel
theorem dX6_use_31 : decode cX6_use 31 = .ok (.getfield 72, 3) := by decide +kernel
theorem dX6_use_34 : decode cX6_use 34 = .ok (.iload_n 1, 1) := by decide +kernel
theorem dX6_use_35 : decode cX6_use 35 = .ok (.iaload, 1) := by decide +kernel
theorem dX6_use_36 : decode cX6_use 36 = .ok (.iload_n 2, 1) := by decide +kernel
theorem dX6_use_37 : decode cX6_use 37 = .ok (.ishr, 1) := by decide +kernel
theorem dX6_use_38 : decode cX6_use 38 = .ok (.iconst 1, 1) := by decide +kernel
theorem dX6_use_39 : decode cX6_use 39 = .ok (.iand, 1) := by decide +kernel
theorem dX6_use_40 : decode cX6_use 40 = .ok (.istore 4, 2) := by decide +kernel
theorem dX6_use_42 : decode cX6_use 42 = .ok (.aload_n 0, 1) := by decide +kernel
theorem dX6_use_43 : decode cX6_use 43 = .ok (.getfield 72, 3) := by decide +kernel
theorem dX6_use_46 : decode cX6_use 46 = .ok (.iload_n 1, 1) := by decide +kernel
theorem dX6_use_47 : decode cX6_use 47 = .ok (.aload_n 0, 1) := by decide +kernel
theorem dX6_use_48 : decode cX6_use 48 = .ok (.getfield 72, 3) := by decide +kernel
theorem dX6_use_51 : decode cX6_use 51 = .ok (.iload_n 1, 1) := by decide +kernel
theorem dX6_use_52 : decode cX6_use 52 = .ok (.iaload, 1) := by decide +kernel
theorem dX6_use_53 : decode cX6_use 53 = .ok (.iconst 1, 1) := by decide +kernel
theorem dX6_use_54 : decode cX6_use 54 = .ok (.iload_n 2, 1) := by decide +kernel
theorem dX6_use_55 : decode cX6_use 55 = .ok (.ishl, 1) := by decide +kernel
theorem dX6_use_56 : decode cX6_use 56 = .ok (.iconst (-1), 1) := by decide +kernel
theorem dX6_use_57 : decode cX6_use 57 = .ok (.ixor, 1) := by decide +kernel
theorem dX6_use_58 : decode cX6_use 58 = .ok (.iand, 1) := by decide +kernel
theorem dX6_use_59 : decode cX6_use 59 = .ok (.iload_n 3, 1) := by decide +kernel
theorem dX6_use_60 : decode cX6_use 60 = .ok (.iload_n 2, 1) := by decide +kernel
theorem dX6_use_61 : decode cX6_use 61 = .ok (.ishl, 1) := by decide +kernel
theorem dX6_use_62 : decode cX6_use 62 = .ok (.ior, 1) := by decide +kernel
theorem dX6_use_63 : decode cX6_use 63 = .ok (.iastore, 1) := by decide +kernel
theorem dX6_use_64 : decode cX6_use 64 = .ok (.iload 4, 2) := by decide +kernel
theorem dX6_use_66 : decode cX6_use 66 = .ok (.ireturn, 1) := by decide +kernel
set_option maxRecDepth 20000 in
theorem ggX6_lead_X6_isWant : GoodIn wsX6_lead wsX6_isWant := goodIn_r _ [6, 7, 16, 17, 18, 19, 20, 21, 22, 23, 24, 25, 26, 27, 28, 29, 30, 31, 32, 33, 34, 35, 36, 37, 38, 39, 40, 41, 42, 43, 44, 45, 46, 47, 48, 49, 50, 51, 52, 53, 54, 55, 56, 57, 58] (by decide +kernel) (by decide +kernel)
set_option maxRecDepth 20000 in
theorem gX6_lead_X6_isWant : GoodIn wsX6_lead (wsV RX6 137 RX6 yX6_isWant wsX6_isWant) := goodIn_app (goodIn_of _ (by decide +kernel)) ggX6_lead_X6_isWant
set_option maxRecDepth 20000 in
theorem ggX6_lead_X6_isPart : GoodIn wsX6_lead wsX6_isPart := goodIn_r _ [11, 12, 16, 17, 18, 19, 20, 21, 22, 23, 24, 25, 26, 27, 28, 29, 30, 31, 32, 33, 34, 35, 36, 37, 38, 39, 40, 41, 42, 43, 44, 45, 46, 47, 48, 49, 50, 51, 52, 53, 54, 55, 56, 57, 58] (by decide +kernel) (by decide +kernel)
set_option maxRecDepth 20000 in
theorem gX6_lead_X6_isPart : GoodIn wsX6_lead (wsV RX6 250 RX6 yX6_isPart wsX6_isPart) := goodIn_app (goodIn_of _ (by decide +kernel)) ggX6_lead_X6_isPart
set_option maxRecDepth 20000 in
theorem ggX6_lead_X6_within : GoodIn wsX6_lead wsX6_within := goodIn_r _ [15] (by decide +kernel) (by decide +kernel)
set_option maxRecDepth 20000 in
theorem gX6_lead_X6_within : GoodIn wsX6_lead (va_wsS RX6 94 yX6_within wsX6_within) := goodIn_app (goodIn_of _ (by decide +kernel)) ggX6_lead_X6_within
theorem dX6_lead_0 : decode cX6_lead 0 = .ok (.aload_n 0, 1) := by decide +kernel
theorem dX6_lead_1 : decode cX6_lead 1 = .ok (.iload_n 1, 1) := by decide +kernel
theorem dX6_lead_2 : decode cX6_lead 2 = .ok (.invokevirtual 137, 3) := by decide +kernel
theorem dX6_lead_5 : decode cX6_lead 5 = .ok (.ifCond .eq 20, 3) := by decide +kernel
theorem dX6_lead_8 : decode cX6_lead 8 = .ok (.aload_n 0, 1) := by decide +kernel
theorem dX6_lead_9 : decode cX6_lead 9 = .ok (.iload_n 2, 1) := by decide +kernel
theorem dX6_lead_10 : decode cX6_lead 10 = .ok (.invokevirtual 250, 3) := by decide +kernel
theorem dX6_lead_13 : decode cX6_lead 13 = .ok (.ifCond .eq 12, 3) := by decide +kernel
theorem dX6_lead_16 : decode cX6_lead 16 = .ok (.iload_n 3, 1) := by decide +kernel
theorem dX6_lead_17 : decode cX6_lead 17 = .ok (.iconst 0, 1) := by decide +kernel
theorem dX6_lead_18 : decode cX6_lead 18 = .ok (.iconst 1, 1) := by decide +kernel
theorem dX6_lead_19 : decode cX6_lead 19 = .ok (.invokestatic 94, 3) := by decide +kernel
theorem dX6_lead_22 : decode cX6_lead 22 = .ok (.ifCond .ne 5, 3) := by decide +kernel
theorem dX6_lead_25 : decode cX6_lead 25 = .ok (.iconst (-1), 1) := by decide +kernel
theorem dX6_lead_26 : decode cX6_lead 26 = .ok (.ireturn, 1) := by decide +kernel
theorem dX6_lead_27 : decode cX6_lead 27 = .ok (.aload_n 0, 1) := by decide +kernel
theorem dX6_lead_28 : decode cX6_lead 28 = .ok (.getfield 75, 3) := by decide +kernel
theorem dX6_lead_31 : decode cX6_lead 31 = .ok (.iload_n 1, 1) := by decide +kernel
theorem dX6_lead_32 : decode cX6_lead 32 = .ok (.iaload, 1) := by decide +kernel
theorem dX6_lead_33 : decode cX6_lead 33 = .ok (.iload_n 2, 1) := by decide +kernel
theorem dX6_lead_34 : decode cX6_lead 34 = .ok (.ishr, 1) := by decide +kernel
theorem dX6_lead_35 : decode cX6_lead 35 = .ok (.iconst 1, 1) := by decide +kernel
theorem dX6_lead_36 : decode cX6_lead 36 = .ok (.iand, 1) := by decide +kernel
theorem dX6_lead_37 : decode cX6_lead 37 = .ok (.istore 4, 2) := by decide +kernel
theorem dX6_lead_39 : decode cX6_lead 39 = .ok (.aload_n 0, 1) := by decide +kernel
theorem dX6_lead_40 : decode cX6_lead 40 = .ok (.getfield 75, 3) := by decide +kernel
theorem dX6_lead_43 : decode cX6_lead 43 = .ok (.iload_n 1, 1) := by decide +kernel
theorem dX6_lead_44 : decode cX6_lead 44 = .ok (.aload_n 0, 1) := by decide +kernel
theorem dX6_lead_45 : decode cX6_lead 45 = .ok (.getfield 75, 3) := by decide +kernel
theorem dX6_lead_48 : decode cX6_lead 48 = .ok (.iload_n 1, 1) := by decide +kernel
theorem dX6_lead_49 : decode cX6_lead 49 = .ok (.iaload, 1) := by decide +kernel
theorem dX6_lead_50 : decode cX6_lead 50 = .ok (.iconst 1, 1) := by decide +kernel
theorem dX6_lead_51 : decode cX6_lead 51 = .ok (.iload_n 2, 1) := by decide +kernel
theorem dX6_lead_52 : decode cX6_lead 52 = .ok (.ishl, 1) := by decide +kernel
theorem dX6_lead_53 : decode cX6_lead 53 = .ok (.iconst (-1), 1) := by decide +kernel
theorem dX6_lead_54 : decode cX6_lead 54 = .ok (.ixor, 1) := by decide +kernel
theorem dX6_lead_55 : decode cX6_lead 55 = .ok (.iand, 1) := by decide +kernel
theorem dX6_lead_56 : decode cX6_lead 56 = .ok (.iload_n 3, 1) := by decide +kernel
theorem dX6_lead_57 : decode cX6_lead 57 = .ok (.iload_n 2, 1) := by decide +kernel
theorem dX6_lead_58 : decode cX6_lead 58 = .ok (.ishl, 1) := by decide +kernel
theorem dX6_lead_59 : decode cX6_lead 59 = .ok (.ior, 1) := by decide +kernel
theorem dX6_lead_60 : decode cX6_lead 60 = .ok (.iastore, 1) := by decide +kernel
theorem dX6_lead_61 : decode cX6_lead 61 = .ok (.iload 4, 2) := by decide +kernel
theorem dX6_lead_63 : decode cX6_lead 63 = .ok (.ireturn, 1) := by decide +kernel
set_option maxRecDepth 20000 in
theorem ggX6_gaps_X6_isDay : GoodIn wsX6_gaps wsX6_isDay := goodIn_r _ [6, 7, 8, 5, 9] (by decide +kernel) (by decide +kernel)
set_option maxRecDepth 20000 in
theorem gX6_gaps_X6_isDay : GoodIn wsX6_gaps (va_wsS RX6 241 yX6_isDay wsX6_isDay) := goodIn_app (goodIn_of _ (by decide +kernel)) ggX6_gaps_X6_isDay
set_option maxRecDepth 20000 in
theorem ggX6_gaps_X6_isThere : GoodIn wsX6_gaps wsX6_isThere := goodIn_r _ [13, 14, 15, 16, 17, 18, 19, 20, 21, 22, 23, 24, 25, 26, 27, 28, 29, 30, 31, 32, 33, 34, 35, 36, 37, 38, 39, 40, 41, 42, 43, 44, 45, 46, 47, 48, 49, 50, 51, 52, 53, 54, 55, 56, 57, 58] (by decide +kernel) (by decide +kernel)
set_option maxRecDepth 20000 in
theorem gX6_gaps_X6_isThere : GoodIn wsX6_gaps (wsV RX6 244 RX6 yX6_isThere wsX6_isThere) := goodIn_app (goodIn_of _ (by decide +kernel)) ggX6_gaps_X6_isThere
theorem dX6_gaps_0 : decode cX6_gaps 0 = .ok (.iload_n 1, 1) := by decide +kernel
theorem dX6_gaps_1 : decode cX6_gaps 1 = .ok (.invokestatic 241, 3) := by decide +kernel
theorem dX6_gaps_4 : decode cX6_gaps 4 = .ok (.ifCond .ne 5, 3) := by decide +kernel
theorem dX6_gaps_7 : decode cX6_gaps 7 = .ok (.iconst (-1), 1) := by decide +kernel
theorem dX6_gaps_8 : decode cX6_gaps 8 = .ok (.ireturn, 1) := by decide +kernel
theorem dX6_gaps_9 : decode cX6_gaps 9 = .ok (.iconst 0, 1) := by decide +kernel
theorem dX6_gaps_10 : decode cX6_gaps 10 = .ok (.istore_n 2, 1) := by decide +kernel
theorem dX6_gaps_11 : decode cX6_gaps 11 = .ok (.iconst 0, 1) := by decide +kernel
theorem dX6_gaps_12 : decode cX6_gaps 12 = .ok (.istore_n 3, 1) := by decide +kernel
theorem dX6_gaps_13 : decode cX6_gaps 13 = .ok (.iload_n 3, 1) := by decide +kernel
theorem dX6_gaps_14 : decode cX6_gaps 14 = .ok (.aload_n 0, 1) := by decide +kernel
theorem dX6_gaps_15 : decode cX6_gaps 15 = .ok (.getfield 87, 3) := by decide +kernel
theorem dX6_gaps_18 : decode cX6_gaps 18 = .ok (.if_icmp .ge 37, 3) := by decide +kernel
theorem dX6_gaps_21 : decode cX6_gaps 21 = .ok (.iload_n 2, 1) := by decide +kernel
theorem dX6_gaps_22 : decode cX6_gaps 22 = .ok (.aload_n 0, 1) := by decide +kernel
theorem dX6_gaps_23 : decode cX6_gaps 23 = .ok (.iload_n 3, 1) := by decide +kernel
theorem dX6_gaps_24 : decode cX6_gaps 24 = .ok (.iload_n 1, 1) := by decide +kernel
theorem dX6_gaps_25 : decode cX6_gaps 25 = .ok (.invokevirtual 244, 3) := by decide +kernel
theorem dX6_gaps_28 : decode cX6_gaps 28 = .ok (.ifCond .eq 18, 3) := by decide +kernel
theorem dX6_gaps_31 : decode cX6_gaps 31 = .ok (.aload_n 0, 1) := by decide +kernel
theorem dX6_gaps_32 : decode cX6_gaps 32 = .ok (.getfield 75, 3) := by decide +kernel
theorem dX6_gaps_35 : decode cX6_gaps 35 = .ok (.iload_n 3, 1) := by decide +kernel
theorem dX6_gaps_36 : decode cX6_gaps 36 = .ok (.iaload, 1) := by decide +kernel
theorem dX6_gaps_37 : decode cX6_gaps 37 = .ok (.ifCond .ne 9, 3) := by decide +kernel
theorem dX6_gaps_40 : decode cX6_gaps 40 = .ok (.iconst 1, 1) := by decide +kernel
theorem dX6_gaps_41 : decode cX6_gaps 41 = .ok (.iload_n 3, 1) := by decide +kernel
theorem dX6_gaps_42 : decode cX6_gaps 42 = .ok (.ishl, 1) := by decide +kernel
theorem dX6_gaps_43 : decode cX6_gaps 43 = .ok (.goto 4, 3) := by decide +kernel
theorem dX6_gaps_46 : decode cX6_gaps 46 = .ok (.iconst 0, 1) := by decide +kernel
theorem dX6_gaps_47 : decode cX6_gaps 47 = .ok (.ior, 1) := by decide +kernel
theorem dX6_gaps_48 : decode cX6_gaps 48 = .ok (.istore_n 2, 1) := by decide +kernel
theorem dX6_gaps_49 : decode cX6_gaps 49 = .ok (.iinc 3 1, 3) := by decide +kernel
theorem dX6_gaps_52 : decode cX6_gaps 52 = .ok (.goto (-39), 3) := by decide +kernel
theorem dX6_gaps_55 : decode cX6_gaps 55 = .ok (.iload_n 2, 1) := by decide +kernel
theorem dX6_gaps_56 : decode cX6_gaps 56 = .ok (.ireturn, 1) := by decide +kernel
set_option maxRecDepth 20000 in
theorem ggX6_bare_X6_isDay : GoodIn wsX6_bare wsX6_isDay := goodIn_r _ [8, 9, 10, 7, 11] (by decide +kernel) (by decide +kernel)
set_option maxRecDepth 20000 in
theorem gX6_bare_X6_isDay : GoodIn wsX6_bare (va_wsS RX6 241 yX6_isDay wsX6_isDay) := goodIn_app (goodIn_of _ (by decide +kernel)) ggX6_bare_X6_isDay
set_option maxRecDepth 20000 in
theorem ggX6_bare_X6_isThere : GoodIn wsX6_bare wsX6_isThere := goodIn_r _ [15, 16, 17, 18, 19, 20, 21, 22, 23, 24, 25, 26, 27, 28, 29, 30, 31, 32, 33, 34, 35, 36, 37, 38, 39, 40, 41, 42, 43, 44, 45, 46, 47, 48, 49, 50, 51, 52, 53, 54, 55, 56, 57, 58, 59, 60] (by decide +kernel) (by decide +kernel)
set_option maxRecDepth 20000 in
theorem gX6_bare_X6_isThere : GoodIn wsX6_bare (wsV RX6 244 RX6 yX6_isThere wsX6_isThere) := goodIn_app (goodIn_of _ (by decide +kernel)) ggX6_bare_X6_isThere
theorem dX6_bare_0 : decode cX6_bare 0 = .ok (.iload_n 1, 1) := by decide +kernel
theorem dX6_bare_1 : decode cX6_bare 1 = .ok (.invokestatic 241, 3) := by decide +kernel
theorem dX6_bare_4 : decode cX6_bare 4 = .ok (.ifCond .ne 5, 3) := by decide +kernel
theorem dX6_bare_7 : decode cX6_bare 7 = .ok (.iconst (-1), 1) := by decide +kernel
theorem dX6_bare_8 : decode cX6_bare 8 = .ok (.ireturn, 1) := by decide +kernel
theorem dX6_bare_9 : decode cX6_bare 9 = .ok (.iconst 0, 1) := by decide +kernel
theorem dX6_bare_10 : decode cX6_bare 10 = .ok (.istore_n 2, 1) := by decide +kernel
theorem dX6_bare_11 : decode cX6_bare 11 = .ok (.iconst 0, 1) := by decide +kernel
theorem dX6_bare_12 : decode cX6_bare 12 = .ok (.istore_n 3, 1) := by decide +kernel
theorem dX6_bare_13 : decode cX6_bare 13 = .ok (.iload_n 3, 1) := by decide +kernel
theorem dX6_bare_14 : decode cX6_bare 14 = .ok (.aload_n 0, 1) := by decide +kernel
theorem dX6_bare_15 : decode cX6_bare 15 = .ok (.getfield 87, 3) := by decide +kernel
theorem dX6_bare_18 : decode cX6_bare 18 = .ok (.if_icmp .ge 31, 3) := by decide +kernel
theorem dX6_bare_21 : decode cX6_bare 21 = .ok (.iload_n 2, 1) := by decide +kernel
theorem dX6_bare_22 : decode cX6_bare 22 = .ok (.aload_n 0, 1) := by decide +kernel
theorem dX6_bare_23 : decode cX6_bare 23 = .ok (.iload_n 3, 1) := by decide +kernel
theorem dX6_bare_24 : decode cX6_bare 24 = .ok (.iload_n 1, 1) := by decide +kernel
theorem dX6_bare_25 : decode cX6_bare 25 = .ok (.invokevirtual 244, 3) := by decide +kernel
theorem dX6_bare_28 : decode cX6_bare 28 = .ok (.ifCond .eq 12, 3) := by decide +kernel
theorem dX6_bare_31 : decode cX6_bare 31 = .ok (.aload_n 0, 1) := by decide +kernel
theorem dX6_bare_32 : decode cX6_bare 32 = .ok (.getfield 75, 3) := by decide +kernel
theorem dX6_bare_35 : decode cX6_bare 35 = .ok (.iload_n 3, 1) := by decide +kernel
theorem dX6_bare_36 : decode cX6_bare 36 = .ok (.iaload, 1) := by decide +kernel
theorem dX6_bare_37 : decode cX6_bare 37 = .ok (.goto 4, 3) := by decide +kernel
theorem dX6_bare_40 : decode cX6_bare 40 = .ok (.iconst 0, 1) := by decide +kernel
theorem dX6_bare_41 : decode cX6_bare 41 = .ok (.ior, 1) := by decide +kernel
theorem dX6_bare_42 : decode cX6_bare 42 = .ok (.istore_n 2, 1) := by decide +kernel
theorem dX6_bare_43 : decode cX6_bare 43 = .ok (.iinc 3 1, 3) := by decide +kernel
theorem dX6_bare_46 : decode cX6_bare 46 = .ok (.goto (-33), 3) := by decide +kernel
theorem dX6_bare_49 : decode cX6_bare 49 = .ok (.aload_n 0, 1) := by decide +kernel
theorem dX6_bare_50 : decode cX6_bare 50 = .ok (.getfield 247, 3) := by decide +kernel
theorem dX6_bare_53 : decode cX6_bare 53 = .ok (.iconst 1, 1) := by decide +kernel
theorem dX6_bare_54 : decode cX6_bare 54 = .ok (.isub, 1) := by decide +kernel
theorem dX6_bare_55 : decode cX6_bare 55 = .ok (.istore_n 3, 1) := by decide +kernel
theorem dX6_bare_56 : decode cX6_bare 56 = .ok (.iload_n 3, 1) := by decide +kernel
theorem dX6_bare_57 : decode cX6_bare 57 = .ok (.ifCond .lt 31, 3) := by decide +kernel
theorem dX6_bare_60 : decode cX6_bare 60 = .ok (.iload_n 2, 1) := by decide +kernel
theorem dX6_bare_61 : decode cX6_bare 61 = .ok (.iload_n 2, 1) := by decide +kernel
theorem dX6_bare_62 : decode cX6_bare 62 = .ok (.iload_n 3, 1) := by decide +kernel
theorem dX6_bare_63 : decode cX6_bare 63 = .ok (.ishr, 1) := by decide +kernel
theorem dX6_bare_64 : decode cX6_bare 64 = .ok (.iconst 1, 1) := by decide +kernel
theorem dX6_bare_65 : decode cX6_bare 65 = .ok (.iand, 1) := by decide +kernel
theorem dX6_bare_66 : decode cX6_bare 66 = .ok (.iconst 1, 1) := by decide +kernel
theorem dX6_bare_67 : decode cX6_bare 67 = .ok (.if_icmp .ne 12, 3) := by decide +kernel
theorem dX6_bare_70 : decode cX6_bare 70 = .ok (.aload_n 0, 1) := by decide +kernel
theorem dX6_bare_71 : decode cX6_bare 71 = .ok (.getfield 72, 3) := by decide +kernel
theorem dX6_bare_74 : decode cX6_bare 74 = .ok (.iload_n 3, 1) := by decide +kernel
theorem dX6_bare_75 : decode cX6_bare 75 = .ok (.iaload, 1) := by decide +kernel
theorem dX6_bare_76 : decode cX6_bare 76 = .ok (.goto 4, 3) := by decide +kernel
theorem dX6_bare_79 : decode cX6_bare 79 = .ok (.iconst 0, 1) := by decide +kernel
theorem dX6_bare_80 : decode cX6_bare 80 = .ok (.ior, 1) := by decide +kernel
theorem dX6_bare_81 : decode cX6_bare 81 = .ok (.istore_n 2, 1) := by decide +kernel
theorem dX6_bare_82 : decode cX6_bare 82 = .ok (.iinc 3 (-1), 3) := by decide +kernel
theorem dX6_bare_85 : decode cX6_bare 85 = .ok (.goto (-29), 3) := by decide +kernel
theorem dX6_bare_88 : decode cX6_bare 88 = .ok (.iconst 1, 1) := by decide +kernel
theorem dX6_bare_89 : decode cX6_bare 89 = .ok (.aload_n 0, 1) := by decide +kernel
theorem dX6_bare_90 : decode cX6_bare 90 = .ok (.getfield 247, 3) := by decide +kernel
theorem dX6_bare_93 : decode cX6_bare 93 = .ok (.ishl, 1) := by decide +kernel
theorem dX6_bare_94 : decode cX6_bare 94 = .ok (.iconst 1, 1) := by decide +kernel
theorem dX6_bare_95 : decode cX6_bare 95 = .ok (.isub, 1) := by decide +kernel
theorem dX6_bare_96 : decode cX6_bare 96 = .ok (.iload_n 2, 1) := by decide +kernel
theorem dX6_bare_97 : decode cX6_bare 97 = .ok (.iconst (-1), 1) := by decide +kernel
theorem dX6_bare_98 : decode cX6_bare 98 = .ok (.ixor, 1) := by decide +kernel
theorem dX6_bare_99 : decode cX6_bare 99 = .ok (.iand, 1) := by decide +kernel
theorem dX6_bare_100 : decode cX6_bare 100 = .ok (.ireturn, 1) := by decide +kernel
theorem dX6_reachOf_0 : decode cX6_reachOf 0 = .ok (.aload_n 0, 1) := by decide +kernel
theorem dX6_reachOf_1 : decode cX6_reachOf 1 = .ok (.getfield 75, 3) := by decide +kernel
theorem dX6_reachOf_4 : decode cX6_reachOf 4 = .ok (.iload_n 1, 1) := by decide +kernel
theorem dX6_reachOf_5 : decode cX6_reachOf 5 = .ok (.iaload, 1) := by decide +kernel
theorem dX6_reachOf_6 : decode cX6_reachOf 6 = .ok (.istore_n 2, 1) := by decide +kernel
theorem dX6_reachOf_7 : decode cX6_reachOf 7 = .ok (.iconst 0, 1) := by decide +kernel
theorem dX6_reachOf_8 : decode cX6_reachOf 8 = .ok (.istore_n 3, 1) := by decide +kernel
theorem dX6_reachOf_9 : decode cX6_reachOf 9 = .ok (.iload_n 3, 1) := by decide +kernel
theorem dX6_reachOf_10 : decode cX6_reachOf 10 = .ok (.aload_n 0, 1) := by decide +kernel
theorem dX6_reachOf_11 : decode cX6_reachOf 11 = .ok (.getfield 247, 3) := by decide +kernel
theorem dX6_reachOf_14 : decode cX6_reachOf 14 = .ok (.if_icmp .ge 30, 3) := by decide +kernel
theorem dX6_reachOf_17 : decode cX6_reachOf 17 = .ok (.iload_n 2, 1) := by decide +kernel
theorem dX6_reachOf_18 : decode cX6_reachOf 18 = .ok (.aload_n 0, 1) := by decide +kernel
theorem dX6_reachOf_19 : decode cX6_reachOf 19 = .ok (.getfield 72, 3) := by decide +kernel
theorem dX6_reachOf_22 : decode cX6_reachOf 22 = .ok (.iload_n 3, 1) := by decide +kernel
theorem dX6_reachOf_23 : decode cX6_reachOf 23 = .ok (.iaload, 1) := by decide +kernel
theorem dX6_reachOf_24 : decode cX6_reachOf 24 = .ok (.iload_n 2, 1) := by decide +kernel
theorem dX6_reachOf_25 : decode cX6_reachOf 25 = .ok (.iand, 1) := by decide +kernel
theorem dX6_reachOf_26 : decode cX6_reachOf 26 = .ok (.ifCond .eq 9, 3) := by decide +kernel
theorem dX6_reachOf_29 : decode cX6_reachOf 29 = .ok (.iconst 1, 1) := by decide +kernel
theorem dX6_reachOf_30 : decode cX6_reachOf 30 = .ok (.iload_n 3, 1) := by decide +kernel
theorem dX6_reachOf_31 : decode cX6_reachOf 31 = .ok (.ishl, 1) := by decide +kernel
theorem dX6_reachOf_32 : decode cX6_reachOf 32 = .ok (.goto 4, 3) := by decide +kernel
theorem dX6_reachOf_35 : decode cX6_reachOf 35 = .ok (.iconst 0, 1) := by decide +kernel
theorem dX6_reachOf_36 : decode cX6_reachOf 36 = .ok (.ior, 1) := by decide +kernel
theorem dX6_reachOf_37 : decode cX6_reachOf 37 = .ok (.istore_n 2, 1) := by decide +kernel
theorem dX6_reachOf_38 : decode cX6_reachOf 38 = .ok (.iinc 3 1, 3) := by decide +kernel
theorem dX6_reachOf_41 : decode cX6_reachOf 41 = .ok (.goto (-32), 3) := by decide +kernel
