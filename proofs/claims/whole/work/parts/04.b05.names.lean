theorem dX6_one_163 : decode cX6_one 163 = .ok (.iload_n 1, 1) := by decide +kernel
theorem dX6_one_164 : decode cX6_one 164 = .ok (.bipush 49, 2) := by decide +kernel
theorem dX6_one_166 : decode cX6_one 166 = .ok (.if_icmp .eq 8, 3) := by decide +kernel
theorem dX6_one_169 : decode cX6_one 169 = .ok (.aload_n 0, 1) := by decide +kernel
theorem dX6_one_170 : decode cX6_one 170 = .ok (.invokevirtual 121, 3) := by decide +kernel
theorem dX6_one_173 : decode cX6_one 173 = .ok (.lreturn, 1) := by decide +kernel
theorem dX6_one_174 : decode cX6_one 174 = .ok (.aload_n 0, 1) := by decide +kernel
theorem dX6_one_175 : decode cX6_one 175 = .ok (.dup, 1) := by decide +kernel
theorem dX6_one_176 : decode cX6_one 176 = .ok (.getfield 101, 3) := by decide +kernel
theorem dX6_one_179 : decode cX6_one 179 = .ok (.iconst 1, 1) := by decide +kernel
theorem dX6_one_180 : decode cX6_one 180 = .ok (.iadd, 1) := by decide +kernel
theorem dX6_one_181 : decode cX6_one 181 = .ok (.putfield 101, 3) := by decide +kernel
theorem dX6_one_184 : decode cX6_one 184 = .ok (.iload_n 2, 1) := by decide +kernel
theorem dX6_one_185 : decode cX6_one 185 = .ok (.ifCond .eq 15, 3) := by decide +kernel
theorem dX6_one_188 : decode cX6_one 188 = .ok (.iconst 3, 1) := by decide +kernel
theorem dX6_one_189 : decode cX6_one 189 = .ok (.iload_n 1, 1) := by decide +kernel
theorem dX6_one_190 : decode cX6_one 190 = .ok (.iadd, 1) := by decide +kernel
theorem dX6_one_191 : decode cX6_one 191 = .ok (.bipush 97, 2) := by decide +kernel
theorem dX6_one_193 : decode cX6_one 193 = .ok (.isub, 1) := by decide +kernel
theorem dX6_one_194 : decode cX6_one 194 = .ok (.invokestatic 133, 3) := by decide +kernel
theorem dX6_one_197 : decode cX6_one 197 = .ok (.goto 30, 3) := by decide +kernel
theorem dX6_one_200 : decode cX6_one 200 = .ok (.iload_n 3, 1) := by decide +kernel
theorem dX6_one_201 : decode cX6_one 201 = .ok (.ifCond .eq 13, 3) := by decide +kernel
theorem dX6_one_204 : decode cX6_one 204 = .ok (.iload_n 1, 1) := by decide +kernel
theorem dX6_one_205 : decode cX6_one 205 = .ok (.bipush 120, 2) := by decide +kernel
theorem dX6_one_207 : decode cX6_one 207 = .ok (.isub, 1) := by decide +kernel
theorem dX6_one_208 : decode cX6_one 208 = .ok (.invokestatic 133, 3) := by decide +kernel
theorem dX6_one_211 : decode cX6_one 211 = .ok (.goto 16, 3) := by decide +kernel
theorem dX6_one_214 : decode cX6_one 214 = .ok (.iload_n 1, 1) := by decide +kernel
theorem dX6_one_215 : decode cX6_one 215 = .ok (.bipush 49, 2) := by decide +kernel
theorem dX6_one_217 : decode cX6_one 217 = .ok (.if_icmp .ne 9, 3) := by decide +kernel
theorem dX6_one_220 : decode cX6_one 220 = .ok (.ldc2_w 128, 3) := by decide +kernel
theorem dX6_one_223 : decode cX6_one 223 = .ok (.goto 4, 3) := by decide +kernel
theorem dX6_one_226 : decode cX6_one 226 = .ok (.lconst 0, 1) := by decide +kernel
theorem dX6_one_227 : decode cX6_one 227 = .ok (.lreturn, 1) := by decide +kernel
set_option maxRecDepth 20000 in
theorem ggX6_want_X6_within : GoodIn wsX6_want wsX6_within := goodIn_r _ [20] (by decide +kernel) (by decide +kernel)
set_option maxRecDepth 20000 in
theorem gX6_want_X6_within : GoodIn wsX6_want (va_wsS RX6 94 yX6_within wsX6_within) := goodIn_app (goodIn_of _ (by decide +kernel)) ggX6_want_X6_within
set_option maxRecDepth 20000 in
theorem ggX6_want_X6_byteAt : GoodIn wsX6_want wsX6_byteAt := goodIn_r _ [24, 2, 9, 25, 50, 51, 52, 53, 54, 55, 56, 57, 58, 59, 60, 61, 62, 63, 64, 65, 66, 67, 68, 69, 70, 71, 72, 73, 74, 75, 76, 77, 78, 79, 80, 81, 82, 83, 84, 85, 86, 87, 88, 89, 90, 91, 92] (by decide +kernel) (by decide +kernel)
set_option maxRecDepth 20000 in
theorem gX6_want_X6_byteAt : GoodIn wsX6_want (wsV RX6 111 RX6 yX6_byteAt wsX6_byteAt) := goodIn_app (goodIn_of _ (by decide +kernel)) ggX6_want_X6_byteAt
set_option maxRecDepth 20000 in
theorem ggX6_want_X6_any : GoodIn wsX6_want wsX6_any := goodIn_r _ [29, 4, 2, 30, 31, 32, 19, 21, 22, 23, 24, 9, 25, 33, 34, 35, 36, 37, 38, 3, 39, 40, 41, 42, 43, 44, 45, 46, 26, 27, 28, 47, 48, 49, 50, 51, 52, 53, 54, 55, 56, 57, 58, 59, 60, 61, 62, 63, 64, 65, 66, 67, 68, 69, 70, 71, 72, 73, 74, 75, 76, 77, 78, 79, 80, 81, 82, 83, 84, 85, 86, 87, 88, 89, 90, 91, 92] (by decide +kernel) (by decide +kernel)
set_option maxRecDepth 20000 in
theorem gX6_want_X6_any : GoodIn wsX6_want (wsV RX6 130 RX6 yX6_any wsX6_any) := goodIn_app (goodIn_of _ (by decide +kernel)) ggX6_want_X6_any
set_option maxRecDepth 20000 in
theorem ggX6_want_X6_wrong : GoodIn wsX6_want wsX6_wrong := goodIn_r _ [46, 4, 2, 50, 51, 52, 53, 54, 55, 56, 57, 58, 59, 60, 61, 62, 63, 64, 65, 66, 67, 68, 69, 70, 71, 72, 73, 74, 75, 76, 77, 78, 79, 80, 81, 82, 83, 84, 85, 86, 87, 88, 89, 90, 91, 92] (by decide +kernel) (by decide +kernel)
set_option maxRecDepth 20000 in
theorem gX6_want_X6_wrong : GoodIn wsX6_want (wsV RX6 121 RX6 yX6_wrong wsX6_wrong) := goodIn_app (goodIn_of _ (by decide +kernel)) ggX6_want_X6_wrong
theorem dX6_want_0 : decode cX6_want 0 = .ok (.iload_n 1, 1) := by decide +kernel
theorem dX6_want_1 : decode cX6_want 1 = .ok (.iconst 0, 1) := by decide +kernel
theorem dX6_want_2 : decode cX6_want 2 = .ok (.bipush 9, 2) := by decide +kernel
theorem dX6_want_4 : decode cX6_want 4 = .ok (.invokestatic 94, 3) := by decide +kernel
theorem dX6_want_7 : decode cX6_want 7 = .ok (.ifCond .eq 23, 3) := by decide +kernel
theorem dX6_want_10 : decode cX6_want 10 = .ok (.iload_n 2, 1) := by decide +kernel
theorem dX6_want_11 : decode cX6_want 11 = .ok (.iconst 1, 1) := by decide +kernel
theorem dX6_want_12 : decode cX6_want 12 = .ok (.bipush 99, 2) := by decide +kernel
theorem dX6_want_14 : decode cX6_want 14 = .ok (.invokestatic 94, 3) := by decide +kernel
theorem dX6_want_17 : decode cX6_want 17 = .ok (.ifCond .eq 13, 3) := by decide +kernel
theorem dX6_want_20 : decode cX6_want 20 = .ok (.iload_n 3, 1) := by decide +kernel
theorem dX6_want_21 : decode cX6_want 21 = .ok (.iconst 1, 1) := by decide +kernel
theorem dX6_want_22 : decode cX6_want 22 = .ok (.bipush 99, 2) := by decide +kernel
theorem dX6_want_24 : decode cX6_want 24 = .ok (.invokestatic 94, 3) := by decide +kernel
theorem dX6_want_27 : decode cX6_want 27 = .ok (.ifCond .ne 5, 3) := by decide +kernel
theorem dX6_want_30 : decode cX6_want 30 = .ok (.iconst (-1), 1) := by decide +kernel
theorem dX6_want_31 : decode cX6_want 31 = .ok (.ireturn, 1) := by decide +kernel
theorem dX6_want_32 : decode cX6_want 32 = .ok (.aload_n 0, 1) := by decide +kernel
theorem dX6_want_33 : decode cX6_want 33 = .ok (.getfield 87, 3) := by decide +kernel
theorem dX6_want_36 : decode cX6_want 36 = .ok (.bipush 20, 2) := by decide +kernel
theorem dX6_want_38 : decode cX6_want 38 = .ok (.if_icmp .ne 6, 3) := by decide +kernel
theorem dX6_want_41 : decode cX6_want 41 = .ok (.bipush (-2), 2) := by decide +kernel
theorem dX6_want_43 : decode cX6_want 43 = .ok (.ireturn, 1) := by decide +kernel
theorem dX6_want_44 : decode cX6_want 44 = .ok (.aload_n 0, 1) := by decide +kernel
theorem dX6_want_45 : decode cX6_want 45 = .ok (.iconst 0, 1) := by decide +kernel
theorem dX6_want_46 : decode cX6_want 46 = .ok (.putfield 101, 3) := by decide +kernel
theorem dX6_want_49 : decode cX6_want 49 = .ok (.aload_n 0, 1) := by decide +kernel
theorem dX6_want_50 : decode cX6_want 50 = .ok (.iconst 0, 1) := by decide +kernel
theorem dX6_want_51 : decode cX6_want 51 = .ok (.putfield 118, 3) := by decide +kernel
theorem dX6_want_54 : decode cX6_want 54 = .ok (.aload_n 0, 1) := by decide +kernel
theorem dX6_want_55 : decode cX6_want 55 = .ok (.iconst (-1), 1) := by decide +kernel
theorem dX6_want_56 : decode cX6_want 56 = .ok (.putfield 104, 3) := by decide +kernel
theorem dX6_want_59 : decode cX6_want 59 = .ok (.aload_n 0, 1) := by decide +kernel
theorem dX6_want_60 : decode cX6_want 60 = .ok (.getfield 87, 3) := by decide +kernel
theorem dX6_want_63 : decode cX6_want 63 = .ok (.istore 4, 2) := by decide +kernel
theorem dX6_want_65 : decode cX6_want 65 = .ok (.aload_n 0, 1) := by decide +kernel
theorem dX6_want_66 : decode cX6_want 66 = .ok (.getfield 23, 3) := by decide +kernel
theorem dX6_want_69 : decode cX6_want 69 = .ok (.iload 4, 2) := by decide +kernel
theorem dX6_want_71 : decode cX6_want 71 = .ok (.lconst 0, 1) := by decide +kernel
theorem dX6_want_72 : decode cX6_want 72 = .ok (.lastore, 1) := by decide +kernel
theorem dX6_want_73 : decode cX6_want 73 = .ok (.aload_n 0, 1) := by decide +kernel
theorem dX6_want_74 : decode cX6_want 74 = .ok (.getfield 16, 3) := by decide +kernel
theorem dX6_want_77 : decode cX6_want 77 = .ok (.iload 4, 2) := by decide +kernel
theorem dX6_want_79 : decode cX6_want 79 = .ok (.iconst 0, 1) := by decide +kernel
theorem dX6_want_80 : decode cX6_want 80 = .ok (.iastore, 1) := by decide +kernel
theorem dX6_want_81 : decode cX6_want 81 = .ok (.aload_n 0, 1) := by decide +kernel
theorem dX6_want_82 : decode cX6_want 82 = .ok (.invokevirtual 111, 3) := by decide +kernel
theorem dX6_want_85 : decode cX6_want 85 = .ok (.bipush 33, 2) := by decide +kernel
theorem dX6_want_87 : decode cX6_want 87 = .ok (.if_icmp .ne 35, 3) := by decide +kernel
theorem dX6_want_90 : decode cX6_want 90 = .ok (.aload_n 0, 1) := by decide +kernel
theorem dX6_want_91 : decode cX6_want 91 = .ok (.getfield 13, 3) := by decide +kernel
theorem dX6_want_94 : decode cX6_want 94 = .ok (.iload 4, 2) := by decide +kernel
theorem dX6_want_96 : decode cX6_want 96 = .ok (.iconst 0, 1) := by decide +kernel
theorem dX6_want_97 : decode cX6_want 97 = .ok (.iastore, 1) := by decide +kernel
theorem dX6_want_98 : decode cX6_want 98 = .ok (.aload_n 0, 1) := by decide +kernel
theorem dX6_want_99 : decode cX6_want 99 = .ok (.dup, 1) := by decide +kernel
theorem dX6_want_100 : decode cX6_want 100 = .ok (.getfield 101, 3) := by decide +kernel
theorem dX6_want_103 : decode cX6_want 103 = .ok (.iconst 1, 1) := by decide +kernel
theorem dX6_want_104 : decode cX6_want 104 = .ok (.iadd, 1) := by decide +kernel
theorem dX6_want_105 : decode cX6_want 105 = .ok (.putfield 101, 3) := by decide +kernel
theorem dX6_want_108 : decode cX6_want 108 = .ok (.aload_n 0, 1) := by decide +kernel
theorem dX6_want_109 : decode cX6_want 109 = .ok (.getfield 19, 3) := by decide +kernel
theorem dX6_want_112 : decode cX6_want 112 = .ok (.iload 4, 2) := by decide +kernel
theorem dX6_want_114 : decode cX6_want 114 = .ok (.aload_n 0, 1) := by decide +kernel
theorem dX6_want_115 : decode cX6_want 115 = .ok (.invokevirtual 130, 3) := by decide +kernel
theorem dX6_want_118 : decode cX6_want 118 = .ok (.lastore, 1) := by decide +kernel
theorem dX6_want_119 : decode cX6_want 119 = .ok (.goto 156, 3) := by decide +kernel
theorem dX6_want_122 : decode cX6_want 122 = .ok (.aload_n 0, 1) := by decide +kernel
theorem dX6_want_123 : decode cX6_want 123 = .ok (.getfield 19, 3) := by decide +kernel
theorem dX6_want_126 : decode cX6_want 126 = .ok (.iload 4, 2) := by decide +kernel
theorem dX6_want_128 : decode cX6_want 128 = .ok (.aload_n 0, 1) := by decide +kernel
theorem dX6_want_129 : decode cX6_want 129 = .ok (.invokevirtual 130, 3) := by decide +kernel
theorem dX6_want_132 : decode cX6_want 132 = .ok (.lastore, 1) := by decide +kernel
theorem dX6_want_133 : decode cX6_want 133 = .ok (.aload_n 0, 1) := by decide +kernel
theorem dX6_want_134 : decode cX6_want 134 = .ok (.invokevirtual 111, 3) := by decide +kernel
theorem dX6_want_137 : decode cX6_want 137 = .ok (.istore 5, 2) := by decide +kernel
theorem dX6_want_139 : decode cX6_want 139 = .ok (.aload_n 0, 1) := by decide +kernel
theorem dX6_want_140 : decode cX6_want 140 = .ok (.getfield 104, 3) := by decide +kernel
theorem dX6_want_143 : decode cX6_want 143 = .ok (.ifCond .ge 23, 3) := by decide +kernel
theorem dX6_want_146 : decode cX6_want 146 = .ok (.iload 5, 2) := by decide +kernel
theorem dX6_want_148 : decode cX6_want 148 = .ok (.bipush 62, 2) := by decide +kernel
theorem dX6_want_150 : decode cX6_want 150 = .ok (.if_icmp .eq 16, 3) := by decide +kernel
theorem dX6_want_153 : decode cX6_want 153 = .ok (.iload 5, 2) := by decide +kernel
theorem dX6_want_155 : decode cX6_want 155 = .ok (.bipush 59, 2) := by decide +kernel
theorem dX6_want_157 : decode cX6_want 157 = .ok (.if_icmp .eq 9, 3) := by decide +kernel
theorem dX6_want_160 : decode cX6_want 160 = .ok (.aload_n 0, 1) := by decide +kernel
theorem dX6_want_161 : decode cX6_want 161 = .ok (.invokevirtual 121, 3) := by decide +kernel
theorem dX6_want_164 : decode cX6_want 164 = .ok (.lstore 6, 2) := by decide +kernel
theorem dX6_want_166 : decode cX6_want 166 = .ok (.aload_n 0, 1) := by decide +kernel
theorem dX6_want_167 : decode cX6_want 167 = .ok (.getfield 104, 3) := by decide +kernel
theorem dX6_want_170 : decode cX6_want 170 = .ok (.ifCond .ge 43, 3) := by decide +kernel
theorem dX6_want_173 : decode cX6_want 173 = .ok (.aload_n 0, 1) := by decide +kernel
theorem dX6_want_174 : decode cX6_want 174 = .ok (.getfield 13, 3) := by decide +kernel
theorem dX6_want_177 : decode cX6_want 177 = .ok (.iload 4, 2) := by decide +kernel
theorem dX6_want_179 : decode cX6_want 179 = .ok (.iload 5, 2) := by decide +kernel
theorem dX6_want_181 : decode cX6_want 181 = .ok (.bipush 62, 2) := by decide +kernel
theorem dX6_want_183 : decode cX6_want 183 = .ok (.if_icmp .ne 7, 3) := by decide +kernel
theorem dX6_want_186 : decode cX6_want 186 = .ok (.iconst 1, 1) := by decide +kernel
theorem dX6_want_187 : decode cX6_want 187 = .ok (.goto 4, 3) := by decide +kernel
theorem dX6_want_190 : decode cX6_want 190 = .ok (.iconst 2, 1) := by decide +kernel
theorem dX6_want_191 : decode cX6_want 191 = .ok (.iastore, 1) := by decide +kernel
theorem dX6_want_192 : decode cX6_want 192 = .ok (.aload_n 0, 1) := by decide +kernel
theorem dX6_want_193 : decode cX6_want 193 = .ok (.dup, 1) := by decide +kernel
theorem dX6_want_194 : decode cX6_want 194 = .ok (.getfield 101, 3) := by decide +kernel
theorem dX6_want_197 : decode cX6_want 197 = .ok (.iconst 1, 1) := by decide +kernel
theorem dX6_want_198 : decode cX6_want 198 = .ok (.iadd, 1) := by decide +kernel
theorem dX6_want_199 : decode cX6_want 199 = .ok (.putfield 101, 3) := by decide +kernel
theorem dX6_want_202 : decode cX6_want 202 = .ok (.aload_n 0, 1) := by decide +kernel
theorem dX6_want_203 : decode cX6_want 203 = .ok (.getfield 23, 3) := by decide +kernel
theorem dX6_want_206 : decode cX6_want 206 = .ok (.iload 4, 2) := by decide +kernel
theorem dX6_want_208 : decode cX6_want 208 = .ok (.aload_n 0, 1) := by decide +kernel
theorem dX6_want_209 : decode cX6_want 209 = .ok (.invokevirtual 130, 3) := by decide +kernel
theorem dX6_want_212 : decode cX6_want 212 = .ok (.lastore, 1) := by decide +kernel
theorem dX6_want_213 : decode cX6_want 213 = .ok (.aload_n 0, 1) := by decide +kernel
theorem dX6_want_214 : decode cX6_want 214 = .ok (.getfield 104, 3) := by decide +kernel
theorem dX6_want_217 : decode cX6_want 217 = .ok (.ifCond .ge 27, 3) := by decide +kernel
theorem dX6_want_220 : decode cX6_want 220 = .ok (.aload_n 0, 1) := by decide +kernel
theorem dX6_want_221 : decode cX6_want 221 = .ok (.invokevirtual 111, 3) := by decide +kernel
theorem dX6_want_224 : decode cX6_want 224 = .ok (.bipush 48, 2) := by decide +kernel
theorem dX6_want_226 : decode cX6_want 226 = .ok (.if_icmp .lt 12, 3) := by decide +kernel
theorem dX6_want_229 : decode cX6_want 229 = .ok (.aload_n 0, 1) := by decide +kernel
theorem dX6_want_230 : decode cX6_want 230 = .ok (.invokevirtual 111, 3) := by decide +kernel
theorem dX6_want_233 : decode cX6_want 233 = .ok (.bipush 51, 2) := by decide +kernel
theorem dX6_want_235 : decode cX6_want 235 = .ok (.if_icmp .le 9, 3) := by decide +kernel
theorem dX6_want_238 : decode cX6_want 238 = .ok (.aload_n 0, 1) := by decide +kernel
theorem dX6_want_239 : decode cX6_want 239 = .ok (.invokevirtual 121, 3) := by decide +kernel
theorem dX6_want_242 : decode cX6_want 242 = .ok (.lstore 6, 2) := by decide +kernel
theorem dX6_want_244 : decode cX6_want 244 = .ok (.aload_n 0, 1) := by decide +kernel
theorem dX6_want_245 : decode cX6_want 245 = .ok (.getfield 104, 3) := by decide +kernel
theorem dX6_want_248 : decode cX6_want 248 = .ok (.ifCond .ge 27, 3) := by decide +kernel
theorem dX6_want_251 : decode cX6_want 251 = .ok (.aload_n 0, 1) := by decide +kernel
theorem dX6_want_252 : decode cX6_want 252 = .ok (.getfield 16, 3) := by decide +kernel
theorem dX6_want_255 : decode cX6_want 255 = .ok (.iload 4, 2) := by decide +kernel
theorem dX6_want_257 : decode cX6_want 257 = .ok (.aload_n 0, 1) := by decide +kernel
theorem dX6_want_258 : decode cX6_want 258 = .ok (.invokevirtual 111, 3) := by decide +kernel
theorem dX6_want_261 : decode cX6_want 261 = .ok (.bipush 48, 2) := by decide +kernel
theorem dX6_want_263 : decode cX6_want 263 = .ok (.isub, 1) := by decide +kernel
theorem dX6_want_264 : decode cX6_want 264 = .ok (.iastore, 1) := by decide +kernel
theorem dX6_want_265 : decode cX6_want 265 = .ok (.aload_n 0, 1) := by decide +kernel
theorem dX6_want_266 : decode cX6_want 266 = .ok (.dup, 1) := by decide +kernel
theorem dX6_want_267 : decode cX6_want 267 = .ok (.getfield 101, 3) := by decide +kernel
theorem dX6_want_270 : decode cX6_want 270 = .ok (.iconst 1, 1) := by decide +kernel
theorem dX6_want_271 : decode cX6_want 271 = .ok (.iadd, 1) := by decide +kernel
theorem dX6_want_272 : decode cX6_want 272 = .ok (.putfield 101, 3) := by decide +kernel
theorem dX6_want_275 : decode cX6_want 275 = .ok (.aload_n 0, 1) := by decide +kernel
theorem dX6_want_276 : decode cX6_want 276 = .ok (.getfield 104, 3) := by decide +kernel
theorem dX6_want_279 : decode cX6_want 279 = .ok (.ifCond .ge 20, 3) := by decide +kernel
theorem dX6_want_282 : decode cX6_want 282 = .ok (.aload_n 0, 1) := by decide +kernel
theorem dX6_want_283 : decode cX6_want 283 = .ok (.getfield 101, 3) := by decide +kernel
theorem dX6_want_286 : decode cX6_want 286 = .ok (.aload_n 0, 1) := by decide +kernel
theorem dX6_want_287 : decode cX6_want 287 = .ok (.getfield 98, 3) := by decide +kernel
theorem dX6_want_290 : decode cX6_want 290 = .ok (.if_icmp .ge 9, 3) := by decide +kernel
theorem dX6_want_293 : decode cX6_want 293 = .ok (.aload_n 0, 1) := by decide +kernel
theorem dX6_want_294 : decode cX6_want 294 = .ok (.invokevirtual 121, 3) := by decide +kernel
theorem dX6_want_297 : decode cX6_want 297 = .ok (.lstore 5, 2) := by decide +kernel
theorem dX6_want_299 : decode cX6_want 299 = .ok (.aload_n 0, 1) := by decide +kernel
theorem dX6_want_300 : decode cX6_want 300 = .ok (.getfield 98, 3) := by decide +kernel
theorem dX6_want_303 : decode cX6_want 303 = .ok (.istore 5, 2) := by decide +kernel
theorem dX6_want_305 : decode cX6_want 305 = .ok (.aload_n 0, 1) := by decide +kernel
theorem dX6_want_306 : decode cX6_want 306 = .ok (.iconst 0, 1) := by decide +kernel
theorem dX6_want_307 : decode cX6_want 307 = .ok (.putfield 98, 3) := by decide +kernel
theorem dX6_want_310 : decode cX6_want 310 = .ok (.aload_n 0, 1) := by decide +kernel
theorem dX6_want_311 : decode cX6_want 311 = .ok (.getfield 104, 3) := by decide +kernel
theorem dX6_want_314 : decode cX6_want 314 = .ok (.ifCond .lt 11, 3) := by decide +kernel
theorem dX6_want_317 : decode cX6_want 317 = .ok (.bipush (-100), 2) := by decide +kernel
theorem dX6_want_319 : decode cX6_want 319 = .ok (.aload_n 0, 1) := by decide +kernel
theorem dX6_want_320 : decode cX6_want 320 = .ok (.getfield 104, 3) := by decide +kernel
theorem dX6_want_323 : decode cX6_want 323 = .ok (.isub, 1) := by decide +kernel
theorem dX6_want_324 : decode cX6_want 324 = .ok (.ireturn, 1) := by decide +kernel
theorem dX6_want_325 : decode cX6_want 325 = .ok (.aload_n 0, 1) := by decide +kernel
theorem dX6_want_326 : decode cX6_want 326 = .ok (.getfield 26, 3) := by decide +kernel
theorem dX6_want_329 : decode cX6_want 329 = .ok (.iload 4, 2) := by decide +kernel
theorem dX6_want_331 : decode cX6_want 331 = .ok (.iload_n 1, 1) := by decide +kernel
theorem dX6_want_332 : decode cX6_want 332 = .ok (.iastore, 1) := by decide +kernel
theorem dX6_want_333 : decode cX6_want 333 = .ok (.aload_n 0, 1) := by decide +kernel
theorem dX6_want_334 : decode cX6_want 334 = .ok (.getfield 29, 3) := by decide +kernel
theorem dX6_want_337 : decode cX6_want 337 = .ok (.iload 4, 2) := by decide +kernel
theorem dX6_want_339 : decode cX6_want 339 = .ok (.iload_n 2, 1) := by decide +kernel
theorem dX6_want_340 : decode cX6_want 340 = .ok (.iastore, 1) := by decide +kernel
theorem dX6_want_341 : decode cX6_want 341 = .ok (.aload_n 0, 1) := by decide +kernel
theorem dX6_want_342 : decode cX6_want 342 = .ok (.getfield 32, 3) := by decide +kernel
theorem dX6_want_345 : decode cX6_want 345 = .ok (.iload 4, 2) := by decide +kernel
theorem dX6_want_347 : decode cX6_want 347 = .ok (.iload_n 3, 1) := by decide +kernel
theorem dX6_want_348 : decode cX6_want 348 = .ok (.iastore, 1) := by decide +kernel
theorem dX6_want_349 : decode cX6_want 349 = .ok (.aload_n 0, 1) := by decide +kernel
theorem dX6_want_350 : decode cX6_want 350 = .ok (.getfield 35, 3) := by decide +kernel
theorem dX6_want_353 : decode cX6_want 353 = .ok (.iload 4, 2) := by decide +kernel
theorem dX6_want_355 : decode cX6_want 355 = .ok (.aload_n 0, 1) := by decide +kernel
theorem dX6_want_356 : decode cX6_want 356 = .ok (.getfield 91, 3) := by decide +kernel
theorem dX6_want_359 : decode cX6_want 359 = .ok (.iastore, 1) := by decide +kernel
theorem dX6_want_360 : decode cX6_want 360 = .ok (.aload_n 0, 1) := by decide +kernel
theorem dX6_want_361 : decode cX6_want 361 = .ok (.getfield 38, 3) := by decide +kernel
theorem dX6_want_364 : decode cX6_want 364 = .ok (.iload 4, 2) := by decide +kernel
theorem dX6_want_366 : decode cX6_want 366 = .ok (.iconst (-1), 1) := by decide +kernel
theorem dX6_want_367 : decode cX6_want 367 = .ok (.iastore, 1) := by decide +kernel
theorem dX6_want_368 : decode cX6_want 368 = .ok (.aload_n 0, 1) := by decide +kernel
theorem dX6_want_369 : decode cX6_want 369 = .ok (.getfield 41, 3) := by decide +kernel
theorem dX6_want_372 : decode cX6_want 372 = .ok (.iload 4, 2) := by decide +kernel
theorem dX6_want_374 : decode cX6_want 374 = .ok (.iload 5, 2) := by decide +kernel
theorem dX6_want_376 : decode cX6_want 376 = .ok (.iastore, 1) := by decide +kernel
theorem dX6_want_377 : decode cX6_want 377 = .ok (.aload_n 0, 1) := by decide +kernel
theorem dX6_want_378 : decode cX6_want 378 = .ok (.dup, 1) := by decide +kernel
theorem dX6_want_379 : decode cX6_want 379 = .ok (.getfield 87, 3) := by decide +kernel
theorem dX6_want_382 : decode cX6_want 382 = .ok (.iconst 1, 1) := by decide +kernel
theorem dX6_want_383 : decode cX6_want 383 = .ok (.iadd, 1) := by decide +kernel
theorem dX6_want_384 : decode cX6_want 384 = .ok (.putfield 87, 3) := by decide +kernel
theorem dX6_want_387 : decode cX6_want 387 = .ok (.iload 4, 2) := by decide +kernel
theorem dX6_want_389 : decode cX6_want 389 = .ok (.ireturn, 1) := by decide +kernel
set_option maxRecDepth 20000 in
theorem ggX6_giveUp_X6_isWant : GoodIn wsX6_giveUp wsX6_isWant := goodIn_r _ [7, 8, 9, 10, 11, 12, 13, 14, 15, 16, 17, 18, 19, 20, 21, 22, 23, 24, 25, 26, 27, 28, 29, 30, 31, 32, 33, 34, 35, 36, 37, 38, 39, 40, 41, 42, 43, 44, 45, 46, 47, 48, 49, 50, 51] (by decide +kernel) (by decide +kernel)
set_option maxRecDepth 20000 in
theorem gX6_giveUp_X6_isWant : GoodIn wsX6_giveUp (wsV RX6 137 RX6 yX6_isWant wsX6_isWant) := goodIn_app (goodIn_of _ (by decide +kernel)) ggX6_giveUp_X6_isWant
theorem dX6_giveUp_0 : decode cX6_giveUp 0 = .ok (.aload_n 0, 1) := by decide +kernel
theorem dX6_giveUp_1 : decode cX6_giveUp 1 = .ok (.iload_n 1, 1) := by decide +kernel
theorem dX6_giveUp_2 : decode cX6_giveUp 2 = .ok (.invokevirtual 137, 3) := by decide +kernel
theorem dX6_giveUp_5 : decode cX6_giveUp 5 = .ok (.ifCond .ne 5, 3) := by decide +kernel
theorem dX6_giveUp_8 : decode cX6_giveUp 8 = .ok (.iconst (-1), 1) := by decide +kernel
theorem dX6_giveUp_9 : decode cX6_giveUp 9 = .ok (.ireturn, 1) := by decide +kernel
theorem dX6_giveUp_10 : decode cX6_giveUp 10 = .ok (.aload_n 0, 1) := by decide +kernel
theorem dX6_giveUp_11 : decode cX6_giveUp 11 = .ok (.getfield 38, 3) := by decide +kernel
theorem dX6_giveUp_14 : decode cX6_giveUp 14 = .ok (.iload_n 1, 1) := by decide +kernel
theorem dX6_giveUp_15 : decode cX6_giveUp 15 = .ok (.iaload, 1) := by decide +kernel
theorem dX6_giveUp_16 : decode cX6_giveUp 16 = .ok (.ifCond .lt 6, 3) := by decide +kernel
theorem dX6_giveUp_19 : decode cX6_giveUp 19 = .ok (.bipush (-3), 2) := by decide +kernel
theorem dX6_giveUp_21 : decode cX6_giveUp 21 = .ok (.ireturn, 1) := by decide +kernel
theorem dX6_giveUp_22 : decode cX6_giveUp 22 = .ok (.aload_n 0, 1) := by decide +kernel
theorem dX6_giveUp_23 : decode cX6_giveUp 23 = .ok (.getfield 38, 3) := by decide +kernel
theorem dX6_giveUp_26 : decode cX6_giveUp 26 = .ok (.iload_n 1, 1) := by decide +kernel
theorem dX6_giveUp_27 : decode cX6_giveUp 27 = .ok (.aload_n 0, 1) := by decide +kernel
theorem dX6_giveUp_28 : decode cX6_giveUp 28 = .ok (.getfield 91, 3) := by decide +kernel
theorem dX6_giveUp_31 : decode cX6_giveUp 31 = .ok (.iastore, 1) := by decide +kernel
theorem dX6_giveUp_32 : decode cX6_giveUp 32 = .ok (.iconst 1, 1) := by decide +kernel
theorem dX6_giveUp_33 : decode cX6_giveUp 33 = .ok (.ireturn, 1) := by decide +kernel
theorem dX6_isThere_0 : decode cX6_isThere 0 = .ok (.aload_n 0, 1) := by decide +kernel
theorem dX6_isThere_1 : decode cX6_isThere 1 = .ok (.getfield 35, 3) := by decide +kernel
theorem dX6_isThere_4 : decode cX6_isThere 4 = .ok (.iload_n 1, 1) := by decide +kernel
theorem dX6_isThere_5 : decode cX6_isThere 5 = .ok (.iaload, 1) := by decide +kernel
theorem dX6_isThere_6 : decode cX6_isThere 6 = .ok (.iload_n 2, 1) := by decide +kernel
theorem dX6_isThere_7 : decode cX6_isThere 7 = .ok (.if_icmp .gt 26, 3) := by decide +kernel
theorem dX6_isThere_10 : decode cX6_isThere 10 = .ok (.aload_n 0, 1) := by decide +kernel
theorem dX6_isThere_11 : decode cX6_isThere 11 = .ok (.getfield 38, 3) := by decide +kernel
theorem dX6_isThere_14 : decode cX6_isThere 14 = .ok (.iload_n 1, 1) := by decide +kernel
theorem dX6_isThere_15 : decode cX6_isThere 15 = .ok (.iaload, 1) := by decide +kernel
theorem dX6_isThere_16 : decode cX6_isThere 16 = .ok (.ifCond .lt 13, 3) := by decide +kernel
theorem dX6_isThere_19 : decode cX6_isThere 19 = .ok (.aload_n 0, 1) := by decide +kernel
theorem dX6_isThere_20 : decode cX6_isThere 20 = .ok (.getfield 38, 3) := by decide +kernel
theorem dX6_isThere_23 : decode cX6_isThere 23 = .ok (.iload_n 1, 1) := by decide +kernel
theorem dX6_isThere_24 : decode cX6_isThere 24 = .ok (.iaload, 1) := by decide +kernel
theorem dX6_isThere_25 : decode cX6_isThere 25 = .ok (.iload_n 2, 1) := by decide +kernel
theorem dX6_isThere_26 : decode cX6_isThere 26 = .ok (.if_icmp .le 7, 3) := by decide +kernel
theorem dX6_isThere_29 : decode cX6_isThere 29 = .ok (.iconst 1, 1) := by decide +kernel
theorem dX6_isThere_30 : decode cX6_isThere 30 = .ok (.goto 4, 3) := by decide +kernel
theorem dX6_isThere_33 : decode cX6_isThere 33 = .ok (.iconst 0, 1) := by decide +kernel
theorem dX6_isThere_34 : decode cX6_isThere 34 = .ok (.ireturn, 1) := by decide +kernel
theorem dX6_countBits_0 : decode cX6_countBits 0 = .ok (.iconst 0, 1) := by decide +kernel
theorem dX6_countBits_1 : decode cX6_countBits 1 = .ok (.istore_n 1, 1) := by decide +kernel
theorem dX6_countBits_2 : decode cX6_countBits 2 = .ok (.iconst 0, 1) := by decide +kernel
theorem dX6_countBits_3 : decode cX6_countBits 3 = .ok (.istore_n 2, 1) := by decide +kernel
theorem dX6_countBits_4 : decode cX6_countBits 4 = .ok (.iload_n 2, 1) := by decide +kernel
theorem dX6_countBits_5 : decode cX6_countBits 5 = .ok (.bipush 20, 2) := by decide +kernel
theorem dX6_countBits_7 : decode cX6_countBits 7 = .ok (.if_icmp .ge 17, 3) := by decide +kernel
theorem dX6_countBits_10 : decode cX6_countBits 10 = .ok (.iload_n 1, 1) := by decide +kernel
theorem dX6_countBits_11 : decode cX6_countBits 11 = .ok (.iload_n 0, 1) := by decide +kernel
theorem dX6_countBits_12 : decode cX6_countBits 12 = .ok (.iload_n 2, 1) := by decide +kernel
theorem dX6_countBits_13 : decode cX6_countBits 13 = .ok (.ishr, 1) := by decide +kernel
theorem dX6_countBits_14 : decode cX6_countBits 14 = .ok (.iconst 1, 1) := by decide +kernel
theorem dX6_countBits_15 : decode cX6_countBits 15 = .ok (.iand, 1) := by decide +kernel
theorem dX6_countBits_16 : decode cX6_countBits 16 = .ok (.iadd, 1) := by decide +kernel
theorem dX6_countBits_17 : decode cX6_countBits 17 = .ok (.istore_n 1, 1) := by decide +kernel
theorem dX6_countBits_18 : decode cX6_countBits 18 = .ok (.iinc 2 1, 3) := by decide +kernel
theorem dX6_countBits_21 : decode cX6_countBits 21 = .ok (.goto (-17), 3) := by decide +kernel
theorem dX6_countBits_24 : decode cX6_countBits 24 = .ok (.iload_n 1, 1) := by decide +kernel
theorem dX6_countBits_25 : decode cX6_countBits 25 = .ok (.ireturn, 1) := by decide +kernel
set_option maxRecDepth 20000 in
theorem ggX6_about_X6_isWant : GoodIn wsX6_about wsX6_isWant := goodIn_r _ [14, 15, 19, 20, 21, 22, 23, 24, 25, 26, 27, 28, 29, 30, 31, 32, 33, 34, 35, 36, 37, 38, 39, 40, 41, 42, 43, 44, 45, 46, 47, 48, 49, 50, 51, 52, 53, 54, 55, 56, 57, 58, 59, 60, 61] (by decide +kernel) (by decide +kernel)
set_option maxRecDepth 20000 in
theorem gX6_about_X6_isWant : GoodIn wsX6_about (wsV RX6 137 RX6 yX6_isWant wsX6_isWant) := goodIn_app (goodIn_of _ (by decide +kernel)) ggX6_about_X6_isWant
set_option maxRecDepth 20000 in
theorem ggX6_about_X6_countBits : GoodIn wsX6_about wsX6_countBits := goodIn_r _ [18] (by decide +kernel) (by decide +kernel)
set_option maxRecDepth 20000 in
theorem gX6_about_X6_countBits : GoodIn wsX6_about (va_wsS RX6 141 yX6_countBits wsX6_countBits) := goodIn_app (goodIn_of _ (by decide +kernel)) ggX6_about_X6_countBits
theorem dX6_about_0 : decode cX6_about 0 = .ok (.aload_n 0, 1) := by decide +kernel
theorem dX6_about_1 : decode cX6_about 1 = .ok (.iload_n 1, 1) := by decide +kernel
theorem dX6_about_2 : decode cX6_about 2 = .ok (.invokevirtual 137, 3) := by decide +kernel
theorem dX6_about_5 : decode cX6_about 5 = .ok (.ifCond .ne 5, 3) := by decide +kernel
theorem dX6_about_8 : decode cX6_about 8 = .ok (.iconst (-1), 1) := by decide +kernel
theorem dX6_about_9 : decode cX6_about 9 = .ok (.ireturn, 1) := by decide +kernel
theorem dX6_about_10 : decode cX6_about 10 = .ok (.iload_n 2, 1) := by decide +kernel
theorem dX6_about_11 : decode cX6_about 11 = .ok (.tableswitch 115 0 8 #[49, 56, 63, 70, 77, 84, 91, 98, 108], 49) := by decide +kernel
theorem dX6_about_60 : decode cX6_about 60 = .ok (.aload_n 0, 1) := by decide +kernel
theorem dX6_about_61 : decode cX6_about 61 = .ok (.getfield 13, 3) := by decide +kernel
theorem dX6_about_64 : decode cX6_about 64 = .ok (.iload_n 1, 1) := by decide +kernel
theorem dX6_about_65 : decode cX6_about 65 = .ok (.iaload, 1) := by decide +kernel
theorem dX6_about_66 : decode cX6_about 66 = .ok (.ireturn, 1) := by decide +kernel
theorem dX6_about_67 : decode cX6_about 67 = .ok (.aload_n 0, 1) := by decide +kernel
theorem dX6_about_68 : decode cX6_about 68 = .ok (.getfield 16, 3) := by decide +kernel
theorem dX6_about_71 : decode cX6_about 71 = .ok (.iload_n 1, 1) := by decide +kernel
theorem dX6_about_72 : decode cX6_about 72 = .ok (.iaload, 1) := by decide +kernel
theorem dX6_about_73 : decode cX6_about 73 = .ok (.ireturn, 1) := by decide +kernel
theorem dX6_about_74 : decode cX6_about 74 = .ok (.aload_n 0, 1) := by decide +kernel
theorem dX6_about_75 : decode cX6_about 75 = .ok (.getfield 26, 3) := by decide +kernel
theorem dX6_about_78 : decode cX6_about 78 = .ok (.iload_n 1, 1) := by decide +kernel
theorem dX6_about_79 : decode cX6_about 79 = .ok (.iaload, 1) := by decide +kernel
theorem dX6_about_80 : decode cX6_about 80 = .ok (.ireturn, 1) := by decide +kernel
theorem dX6_about_81 : decode cX6_about 81 = .ok (.aload_n 0, 1) := by decide +kernel
theorem dX6_about_82 : decode cX6_about 82 = .ok (.getfield 29, 3) := by decide +kernel
theorem dX6_about_85 : decode cX6_about 85 = .ok (.iload_n 1, 1) := by decide +kernel
theorem dX6_about_86 : decode cX6_about 86 = .ok (.iaload, 1) := by decide +kernel
theorem dX6_about_87 : decode cX6_about 87 = .ok (.ireturn, 1) := by decide +kernel
theorem dX6_about_88 : decode cX6_about 88 = .ok (.aload_n 0, 1) := by decide +kernel
theorem dX6_about_89 : decode cX6_about 89 = .ok (.getfield 32, 3) := by decide +kernel
theorem dX6_about_92 : decode cX6_about 92 = .ok (.iload_n 1, 1) := by decide +kernel
theorem dX6_about_93 : decode cX6_about 93 = .ok (.iaload, 1) := by decide +kernel
theorem dX6_about_94 : decode cX6_about 94 = .ok (.ireturn, 1) := by decide +kernel
theorem dX6_about_95 : decode cX6_about 95 = .ok (.aload_n 0, 1) := by decide +kernel
theorem dX6_about_96 : decode cX6_about 96 = .ok (.getfield 35, 3) := by decide +kernel
theorem dX6_about_99 : decode cX6_about 99 = .ok (.iload_n 1, 1) := by decide +kernel
theorem dX6_about_100 : decode cX6_about 100 = .ok (.iaload, 1) := by decide +kernel
theorem dX6_about_101 : decode cX6_about 101 = .ok (.ireturn, 1) := by decide +kernel
theorem dX6_about_102 : decode cX6_about 102 = .ok (.aload_n 0, 1) := by decide +kernel
theorem dX6_about_103 : decode cX6_about 103 = .ok (.getfield 38, 3) := by decide +kernel
theorem dX6_about_106 : decode cX6_about 106 = .ok (.iload_n 1, 1) := by decide +kernel
theorem dX6_about_107 : decode cX6_about 107 = .ok (.iaload, 1) := by decide +kernel
theorem dX6_about_108 : decode cX6_about 108 = .ok (.ireturn, 1) := by decide +kernel
theorem dX6_about_109 : decode cX6_about 109 = .ok (.aload_n 0, 1) := by decide +kernel
theorem dX6_about_110 : decode cX6_about 110 = .ok (.getfield 75, 3) := by decide +kernel
theorem dX6_about_113 : decode cX6_about 113 = .ok (.iload_n 1, 1) := by decide +kernel
theorem dX6_about_114 : decode cX6_about 114 = .ok (.iaload, 1) := by decide +kernel
theorem dX6_about_115 : decode cX6_about 115 = .ok (.invokestatic 141, 3) := by decide +kernel
theorem dX6_about_118 : decode cX6_about 118 = .ok (.ireturn, 1) := by decide +kernel
theorem dX6_about_119 : decode cX6_about 119 = .ok (.aload_n 0, 1) := by decide +kernel
theorem dX6_about_120 : decode cX6_about 120 = .ok (.getfield 41, 3) := by decide +kernel
theorem dX6_about_123 : decode cX6_about 123 = .ok (.iload_n 1, 1) := by decide +kernel
theorem dX6_about_124 : decode cX6_about 124 = .ok (.iaload, 1) := by decide +kernel
theorem dX6_about_125 : decode cX6_about 125 = .ok (.ireturn, 1) := by decide +kernel
theorem dX6_about_126 : decode cX6_about 126 = .ok (.iconst (-1), 1) := by decide +kernel
theorem dX6_about_127 : decode cX6_about 127 = .ok (.ireturn, 1) := by decide +kernel
set_option maxRecDepth 20000 in
theorem ggX6_holds_X6_isWant : GoodIn wsX6_holds wsX6_isWant := goodIn_r _ [8, 9, 13, 14, 15, 16, 17, 18, 19, 20, 21, 22, 23, 24, 25, 26, 27, 28, 29, 30, 31, 32, 33, 34, 35, 36, 37, 38, 39, 40, 41, 42, 43, 44, 45, 46, 47, 48, 49, 50, 51, 52, 53, 54, 55] (by decide +kernel) (by decide +kernel)
set_option maxRecDepth 20000 in
theorem gX6_holds_X6_isWant : GoodIn wsX6_holds (wsV RX6 137 RX6 yX6_isWant wsX6_isWant) := goodIn_app (goodIn_of _ (by decide +kernel)) ggX6_holds_X6_isWant
set_option maxRecDepth 20000 in
theorem ggX6_holds_X6_within : GoodIn wsX6_holds wsX6_within := goodIn_r _ [12] (by decide +kernel) (by decide +kernel)
set_option maxRecDepth 20000 in
theorem gX6_holds_X6_within : GoodIn wsX6_holds (va_wsS RX6 94 yX6_within wsX6_within) := goodIn_app (goodIn_of _ (by decide +kernel)) ggX6_holds_X6_within
theorem dX6_holds_0 : decode cX6_holds 0 = .ok (.aload_n 0, 1) := by decide +kernel
theorem dX6_holds_1 : decode cX6_holds 1 = .ok (.iload_n 1, 1) := by decide +kernel
theorem dX6_holds_2 : decode cX6_holds 2 = .ok (.invokevirtual 137, 3) := by decide +kernel
theorem dX6_holds_5 : decode cX6_holds 5 = .ok (.ifCond .eq 46, 3) := by decide +kernel
theorem dX6_holds_8 : decode cX6_holds 8 = .ok (.iload_n 2, 1) := by decide +kernel
theorem dX6_holds_9 : decode cX6_holds 9 = .ok (.iconst 0, 1) := by decide +kernel
theorem dX6_holds_10 : decode cX6_holds 10 = .ok (.aload_n 0, 1) := by decide +kernel
theorem dX6_holds_11 : decode cX6_holds 11 = .ok (.getfield 13, 3) := by decide +kernel
theorem dX6_holds_14 : decode cX6_holds 14 = .ok (.iload_n 1, 1) := by decide +kernel
theorem dX6_holds_15 : decode cX6_holds 15 = .ok (.iaload, 1) := by decide +kernel
theorem dX6_holds_16 : decode cX6_holds 16 = .ok (.ifCond .ne 7, 3) := by decide +kernel
theorem dX6_holds_19 : decode cX6_holds 19 = .ok (.iconst 0, 1) := by decide +kernel
theorem dX6_holds_20 : decode cX6_holds 20 = .ok (.goto 4, 3) := by decide +kernel
theorem dX6_holds_23 : decode cX6_holds 23 = .ok (.iconst 1, 1) := by decide +kernel
theorem dX6_holds_24 : decode cX6_holds 24 = .ok (.invokestatic 94, 3) := by decide +kernel
theorem dX6_holds_27 : decode cX6_holds 27 = .ok (.ifCond .eq 24, 3) := by decide +kernel
theorem dX6_holds_30 : decode cX6_holds 30 = .ok (.iload_n 3, 1) := by decide +kernel
theorem dX6_holds_31 : decode cX6_holds 31 = .ok (.iconst 0, 1) := by decide +kernel
theorem dX6_holds_32 : decode cX6_holds 32 = .ok (.bipush 7, 2) := by decide +kernel
theorem dX6_holds_34 : decode cX6_holds 34 = .ok (.invokestatic 94, 3) := by decide +kernel
theorem dX6_holds_37 : decode cX6_holds 37 = .ok (.ifCond .eq 14, 3) := by decide +kernel
theorem dX6_holds_40 : decode cX6_holds 40 = .ok (.iload 4, 2) := by decide +kernel
theorem dX6_holds_42 : decode cX6_holds 42 = .ok (.iconst 0, 1) := by decide +kernel
theorem dX6_holds_43 : decode cX6_holds 43 = .ok (.bipush 7, 2) := by decide +kernel
theorem dX6_holds_45 : decode cX6_holds 45 = .ok (.invokestatic 94, 3) := by decide +kernel
theorem dX6_holds_48 : decode cX6_holds 48 = .ok (.ifCond .ne 5, 3) := by decide +kernel
theorem dX6_holds_51 : decode cX6_holds 51 = .ok (.iconst (-1), 1) := by decide +kernel
theorem dX6_holds_52 : decode cX6_holds 52 = .ok (.ireturn, 1) := by decide +kernel
theorem dX6_holds_53 : decode cX6_holds 53 = .ok (.iload_n 2, 1) := by decide +kernel
theorem dX6_holds_54 : decode cX6_holds 54 = .ok (.ifCond .ne 12, 3) := by decide +kernel
theorem dX6_holds_57 : decode cX6_holds 57 = .ok (.aload_n 0, 1) := by decide +kernel
theorem dX6_holds_58 : decode cX6_holds 58 = .ok (.getfield 19, 3) := by decide +kernel
theorem dX6_holds_61 : decode cX6_holds 61 = .ok (.iload_n 1, 1) := by decide +kernel
theorem dX6_holds_62 : decode cX6_holds 62 = .ok (.laload, 1) := by decide +kernel
theorem dX6_holds_63 : decode cX6_holds 63 = .ok (.goto 9, 3) := by decide +kernel
theorem dX6_holds_66 : decode cX6_holds 66 = .ok (.aload_n 0, 1) := by decide +kernel
theorem dX6_holds_67 : decode cX6_holds 67 = .ok (.getfield 23, 3) := by decide +kernel
theorem dX6_holds_70 : decode cX6_holds 70 = .ok (.iload_n 1, 1) := by decide +kernel
theorem dX6_holds_71 : decode cX6_holds 71 = .ok (.laload, 1) := by decide +kernel
theorem dX6_holds_72 : decode cX6_holds 72 = .ok (.bipush 8, 2) := by decide +kernel
theorem dX6_holds_74 : decode cX6_holds 74 = .ok (.iload_n 3, 1) := by decide +kernel
theorem dX6_holds_75 : decode cX6_holds 75 = .ok (.imul, 1) := by decide +kernel
theorem dX6_holds_76 : decode cX6_holds 76 = .ok (.iload 4, 2) := by decide +kernel
theorem dX6_holds_78 : decode cX6_holds 78 = .ok (.iadd, 1) := by decide +kernel
theorem dX6_holds_79 : decode cX6_holds 79 = .ok (.lshr, 1) := by decide +kernel
theorem dX6_holds_80 : decode cX6_holds 80 = .ok (.lconst 1, 1) := by decide +kernel
theorem dX6_holds_81 : decode cX6_holds 81 = .ok (.land, 1) := by decide +kernel
theorem dX6_holds_82 : decode cX6_holds 82 = .ok (.l2i, 1) := by decide +kernel
theorem dX6_holds_83 : decode cX6_holds 83 = .ok (.ireturn, 1) := by decide +kernel
theorem dX6_stateBehind_0 : decode cX6_stateBehind 0 = .ok (.aload_n 0, 1) := by decide +kernel
theorem dX6_stateBehind_1 : decode cX6_stateBehind 1 = .ok (.getfield 19, 3) := by decide +kernel
theorem dX6_stateBehind_4 : decode cX6_stateBehind 4 = .ok (.iload_n 1, 1) := by decide +kernel
theorem dX6_stateBehind_5 : decode cX6_stateBehind 5 = .ok (.laload, 1) := by decide +kernel
theorem dX6_stateBehind_6 : decode cX6_stateBehind 6 = .ok (.iload 4, 2) := by decide +kernel
theorem dX6_stateBehind_8 : decode cX6_stateBehind 8 = .ok (.lshr, 1) := by decide +kernel
theorem dX6_stateBehind_9 : decode cX6_stateBehind 9 = .ok (.lconst 1, 1) := by decide +kernel
theorem dX6_stateBehind_10 : decode cX6_stateBehind 10 = .ok (.land, 1) := by decide +kernel
theorem dX6_stateBehind_11 : decode cX6_stateBehind 11 = .ok (.lconst 1, 1) := by decide +kernel
theorem dX6_stateBehind_12 : decode cX6_stateBehind 12 = .ok (.lcmp, 1) := by decide +kernel
theorem dX6_stateBehind_13 : decode cX6_stateBehind 13 = .ok (.ifCond .ne 7, 3) := by decide +kernel
theorem dX6_stateBehind_16 : decode cX6_stateBehind 16 = .ok (.iconst 1, 1) := by decide +kernel
theorem dX6_stateBehind_17 : decode cX6_stateBehind 17 = .ok (.goto 4, 3) := by decide +kernel
theorem dX6_stateBehind_20 : decode cX6_stateBehind 20 = .ok (.iconst 0, 1) := by decide +kernel
theorem dX6_stateBehind_21 : decode cX6_stateBehind 21 = .ok (.istore 5, 2) := by decide +kernel
theorem dX6_stateBehind_23 : decode cX6_stateBehind 23 = .ok (.aload_n 0, 1) := by decide +kernel
theorem dX6_stateBehind_24 : decode cX6_stateBehind 24 = .ok (.getfield 23, 3) := by decide +kernel
theorem dX6_stateBehind_27 : decode cX6_stateBehind 27 = .ok (.iload_n 1, 1) := by decide +kernel
theorem dX6_stateBehind_28 : decode cX6_stateBehind 28 = .ok (.laload, 1) := by decide +kernel
theorem dX6_stateBehind_29 : decode cX6_stateBehind 29 = .ok (.iload 4, 2) := by decide +kernel
theorem dX6_stateBehind_31 : decode cX6_stateBehind 31 = .ok (.lshr, 1) := by decide +kernel
theorem dX6_stateBehind_32 : decode cX6_stateBehind 32 = .ok (.lconst 1, 1) := by decide +kernel
theorem dX6_stateBehind_33 : decode cX6_stateBehind 33 = .ok (.land, 1) := by decide +kernel
theorem dX6_stateBehind_34 : decode cX6_stateBehind 34 = .ok (.lconst 1, 1) := by decide +kernel
theorem dX6_stateBehind_35 : decode cX6_stateBehind 35 = .ok (.lcmp, 1) := by decide +kernel
theorem dX6_stateBehind_36 : decode cX6_stateBehind 36 = .ok (.ifCond .ne 7, 3) := by decide +kernel
theorem dX6_stateBehind_39 : decode cX6_stateBehind 39 = .ok (.iconst 1, 1) := by decide +kernel
theorem dX6_stateBehind_40 : decode cX6_stateBehind 40 = .ok (.goto 4, 3) := by decide +kernel
theorem dX6_stateBehind_43 : decode cX6_stateBehind 43 = .ok (.iconst 0, 1) := by decide +kernel
theorem dX6_stateBehind_44 : decode cX6_stateBehind 44 = .ok (.istore 6, 2) := by decide +kernel
theorem dX6_stateBehind_46 : decode cX6_stateBehind 46 = .ok (.aload_n 0, 1) := by decide +kernel
theorem dX6_stateBehind_47 : decode cX6_stateBehind 47 = .ok (.getfield 13, 3) := by decide +kernel
theorem dX6_stateBehind_50 : decode cX6_stateBehind 50 = .ok (.iload_n 1, 1) := by decide +kernel
theorem dX6_stateBehind_51 : decode cX6_stateBehind 51 = .ok (.iaload, 1) := by decide +kernel
theorem dX6_stateBehind_52 : decode cX6_stateBehind 52 = .ok (.ifCond .ne 15, 3) := by decide +kernel
theorem dX6_stateBehind_55 : decode cX6_stateBehind 55 = .ok (.iload 5, 2) := by decide +kernel
theorem dX6_stateBehind_57 : decode cX6_stateBehind 57 = .ok (.ifCond .eq 8, 3) := by decide +kernel
theorem dX6_stateBehind_60 : decode cX6_stateBehind 60 = .ok (.bipush (-4), 2) := by decide +kernel
theorem dX6_stateBehind_62 : decode cX6_stateBehind 62 = .ok (.goto 4, 3) := by decide +kernel
theorem dX6_stateBehind_65 : decode cX6_stateBehind 65 = .ok (.iload_n 3, 1) := by decide +kernel
theorem dX6_stateBehind_66 : decode cX6_stateBehind 66 = .ok (.ireturn, 1) := by decide +kernel
theorem dX6_stateBehind_67 : decode cX6_stateBehind 67 = .ok (.aload_n 0, 1) := by decide +kernel
theorem dX6_stateBehind_68 : decode cX6_stateBehind 68 = .ok (.getfield 13, 3) := by decide +kernel
theorem dX6_stateBehind_71 : decode cX6_stateBehind 71 = .ok (.iload_n 1, 1) := by decide +kernel
theorem dX6_stateBehind_72 : decode cX6_stateBehind 72 = .ok (.iaload, 1) := by decide +kernel
theorem dX6_stateBehind_73 : decode cX6_stateBehind 73 = .ok (.iconst 1, 1) := by decide +kernel
theorem dX6_stateBehind_74 : decode cX6_stateBehind 74 = .ok (.if_icmp .ne 48, 3) := by decide +kernel
theorem dX6_stateBehind_77 : decode cX6_stateBehind 77 = .ok (.iload 6, 2) := by decide +kernel
theorem dX6_stateBehind_79 : decode cX6_stateBehind 79 = .ok (.ifCond .eq 5, 3) := by decide +kernel
theorem dX6_stateBehind_82 : decode cX6_stateBehind 82 = .ok (.iconst 0, 1) := by decide +kernel
theorem dX6_stateBehind_83 : decode cX6_stateBehind 83 = .ok (.ireturn, 1) := by decide +kernel
theorem dX6_stateBehind_84 : decode cX6_stateBehind 84 = .ok (.iload_n 3, 1) := by decide +kernel
theorem dX6_stateBehind_85 : decode cX6_stateBehind 85 = .ok (.ifCond .le 17, 3) := by decide +kernel
theorem dX6_stateBehind_88 : decode cX6_stateBehind 88 = .ok (.iload_n 3, 1) := by decide +kernel
theorem dX6_stateBehind_89 : decode cX6_stateBehind 89 = .ok (.iconst 1, 1) := by decide +kernel
theorem dX6_stateBehind_90 : decode cX6_stateBehind 90 = .ok (.if_icmp .ne 8, 3) := by decide +kernel
theorem dX6_stateBehind_93 : decode cX6_stateBehind 93 = .ok (.bipush (-4), 2) := by decide +kernel
theorem dX6_stateBehind_95 : decode cX6_stateBehind 95 = .ok (.goto 6, 3) := by decide +kernel
theorem dX6_stateBehind_98 : decode cX6_stateBehind 98 = .ok (.iload_n 3, 1) := by decide +kernel
theorem dX6_stateBehind_99 : decode cX6_stateBehind 99 = .ok (.iconst 1, 1) := by decide +kernel
theorem dX6_stateBehind_100 : decode cX6_stateBehind 100 = .ok (.isub, 1) := by decide +kernel
theorem dX6_stateBehind_101 : decode cX6_stateBehind 101 = .ok (.ireturn, 1) := by decide +kernel
theorem dX6_stateBehind_102 : decode cX6_stateBehind 102 = .ok (.iload 5, 2) := by decide +kernel
theorem dX6_stateBehind_104 : decode cX6_stateBehind 104 = .ok (.ifCond .ne 7, 3) := by decide +kernel
theorem dX6_stateBehind_107 : decode cX6_stateBehind 107 = .ok (.iconst 0, 1) := by decide +kernel
theorem dX6_stateBehind_108 : decode cX6_stateBehind 108 = .ok (.goto 13, 3) := by decide +kernel
theorem dX6_stateBehind_111 : decode cX6_stateBehind 111 = .ok (.iload_n 2, 1) := by decide +kernel
theorem dX6_stateBehind_112 : decode cX6_stateBehind 112 = .ok (.ifCond .ne 8, 3) := by decide +kernel
theorem dX6_stateBehind_115 : decode cX6_stateBehind 115 = .ok (.bipush (-4), 2) := by decide +kernel
theorem dX6_stateBehind_117 : decode cX6_stateBehind 117 = .ok (.goto 4, 3) := by decide +kernel
theorem dX6_stateBehind_120 : decode cX6_stateBehind 120 = .ok (.iload_n 2, 1) := by decide +kernel
theorem dX6_stateBehind_121 : decode cX6_stateBehind 121 = .ok (.ireturn, 1) := by decide +kernel
theorem dX6_stateBehind_122 : decode cX6_stateBehind 122 = .ok (.iload_n 3, 1) := by decide +kernel
theorem dX6_stateBehind_123 : decode cX6_stateBehind 123 = .ok (.ifCond .le 11, 3) := by decide +kernel
theorem dX6_stateBehind_126 : decode cX6_stateBehind 126 = .ok (.iload 6, 2) := by decide +kernel
theorem dX6_stateBehind_128 : decode cX6_stateBehind 128 = .ok (.ifCond .ne 6, 3) := by decide +kernel
theorem dX6_stateBehind_131 : decode cX6_stateBehind 131 = .ok (.bipush (-4), 2) := by decide +kernel
theorem dX6_stateBehind_133 : decode cX6_stateBehind 133 = .ok (.ireturn, 1) := by decide +kernel
theorem dX6_stateBehind_134 : decode cX6_stateBehind 134 = .ok (.iload_n 3, 1) := by decide +kernel
theorem dX6_stateBehind_135 : decode cX6_stateBehind 135 = .ok (.ifCond .le 9, 3) := by decide +kernel
theorem dX6_stateBehind_138 : decode cX6_stateBehind 138 = .ok (.iload_n 3, 1) := by decide +kernel
theorem dX6_stateBehind_139 : decode cX6_stateBehind 139 = .ok (.iconst 1, 1) := by decide +kernel
theorem dX6_stateBehind_140 : decode cX6_stateBehind 140 = .ok (.isub, 1) := by decide +kernel
theorem dX6_stateBehind_141 : decode cX6_stateBehind 141 = .ok (.goto 4, 3) := by decide +kernel
theorem dX6_stateBehind_144 : decode cX6_stateBehind 144 = .ok (.iconst 0, 1) := by decide +kernel
theorem dX6_stateBehind_145 : decode cX6_stateBehind 145 = .ok (.istore 7, 2) := by decide +kernel
theorem dX6_stateBehind_147 : decode cX6_stateBehind 147 = .ok (.iload 5, 2) := by decide +kernel
theorem dX6_stateBehind_149 : decode cX6_stateBehind 149 = .ok (.ifCond .eq 13, 3) := by decide +kernel
theorem dX6_stateBehind_152 : decode cX6_stateBehind 152 = .ok (.iload_n 2, 1) := by decide +kernel
theorem dX6_stateBehind_153 : decode cX6_stateBehind 153 = .ok (.iload 7, 2) := by decide +kernel
theorem dX6_stateBehind_155 : decode cX6_stateBehind 155 = .ok (.if_icmp .le 7, 3) := by decide +kernel
theorem dX6_stateBehind_158 : decode cX6_stateBehind 158 = .ok (.iload_n 2, 1) := by decide +kernel
theorem dX6_stateBehind_159 : decode cX6_stateBehind 159 = .ok (.goto 5, 3) := by decide +kernel
theorem dX6_stateBehind_162 : decode cX6_stateBehind 162 = .ok (.iload 7, 2) := by decide +kernel
theorem dX6_stateBehind_164 : decode cX6_stateBehind 164 = .ok (.ireturn, 1) := by decide +kernel
set_option maxRecDepth 20000 in
theorem ggX6_next_X6_isWant : GoodIn wsX6_next wsX6_isWant := goodIn_r _ [6, 7, 18, 19, 20, 21, 22, 23, 24, 25, 26, 27, 28, 29, 30, 31, 32, 33, 34, 35, 36, 37, 38, 39, 40, 41, 42, 43, 44, 45, 46, 47, 48, 49, 50, 51, 52, 53, 54, 55, 56, 57, 58, 59, 60] (by decide +kernel) (by decide +kernel)
set_option maxRecDepth 20000 in
theorem gX6_next_X6_isWant : GoodIn wsX6_next (wsV RX6 137 RX6 yX6_isWant wsX6_isWant) := goodIn_app (goodIn_of _ (by decide +kernel)) ggX6_next_X6_isWant
set_option maxRecDepth 20000 in
theorem ggX6_next_X6_within : GoodIn wsX6_next wsX6_within := goodIn_r _ [10] (by decide +kernel) (by decide +kernel)
set_option maxRecDepth 20000 in
theorem gX6_next_X6_within : GoodIn wsX6_next (va_wsS RX6 94 yX6_within wsX6_within) := goodIn_app (goodIn_of _ (by decide +kernel)) ggX6_next_X6_within
set_option maxRecDepth 20000 in
theorem ggX6_next_X6_stateBehind : GoodIn wsX6_next wsX6_stateBehind := goodIn_r _ [14, 15, 16, 17, 18, 19, 20, 21, 22, 23, 24, 25, 26, 27, 28, 29, 30, 31, 32, 33, 34, 35, 36, 37, 38, 39, 40, 41, 42, 43, 44, 45, 46, 47, 48, 49, 50, 51, 52, 53, 54, 55, 56, 57, 58, 59, 60] (by decide +kernel) (by decide +kernel)
set_option maxRecDepth 20000 in
theorem gX6_next_X6_stateBehind : GoodIn wsX6_next (wsV RX6 145 RX6 yX6_stateBehind wsX6_stateBehind) := goodIn_app (goodIn_of _ (by decide +kernel)) ggX6_next_X6_stateBehind
theorem dX6_next_0 : decode cX6_next 0 = .ok (.aload_n 0, 1) := by decide +kernel
theorem dX6_next_1 : decode cX6_next 1 = .ok (.iload_n 1, 1) := by decide +kernel
theorem dX6_next_2 : decode cX6_next 2 = .ok (.invokevirtual 137, 3) := by decide +kernel
theorem dX6_next_5 : decode cX6_next 5 = .ok (.ifCond .eq 22, 3) := by decide +kernel
theorem dX6_next_8 : decode cX6_next 8 = .ok (.iload_n 2, 1) := by decide +kernel
theorem dX6_next_9 : decode cX6_next 9 = .ok (.iconst 0, 1) := by decide +kernel
theorem dX6_next_10 : decode cX6_next 10 = .ok (.iconst 3, 1) := by decide +kernel
theorem dX6_next_11 : decode cX6_next 11 = .ok (.invokestatic 94, 3) := by decide +kernel
theorem dX6_next_14 : decode cX6_next 14 = .ok (.ifCond .eq 13, 3) := by decide +kernel
theorem dX6_next_17 : decode cX6_next 17 = .ok (.iload_n 3, 1) := by decide +kernel
theorem dX6_next_18 : decode cX6_next 18 = .ok (.iconst 0, 1) := by decide +kernel
theorem dX6_next_19 : decode cX6_next 19 = .ok (.bipush 63, 2) := by decide +kernel
theorem dX6_next_21 : decode cX6_next 21 = .ok (.invokestatic 94, 3) := by decide +kernel
theorem dX6_next_24 : decode cX6_next 24 = .ok (.ifCond .ne 5, 3) := by decide +kernel
theorem dX6_next_27 : decode cX6_next 27 = .ok (.iconst (-1), 1) := by decide +kernel
theorem dX6_next_28 : decode cX6_next 28 = .ok (.ireturn, 1) := by decide +kernel
theorem dX6_next_29 : decode cX6_next 29 = .ok (.aload_n 0, 1) := by decide +kernel
theorem dX6_next_30 : decode cX6_next 30 = .ok (.iload_n 1, 1) := by decide +kernel
theorem dX6_next_31 : decode cX6_next 31 = .ok (.aload_n 0, 1) := by decide +kernel
theorem dX6_next_32 : decode cX6_next 32 = .ok (.getfield 16, 3) := by decide +kernel
theorem dX6_next_35 : decode cX6_next 35 = .ok (.iload_n 1, 1) := by decide +kernel
theorem dX6_next_36 : decode cX6_next 36 = .ok (.iaload, 1) := by decide +kernel
theorem dX6_next_37 : decode cX6_next 37 = .ok (.iload_n 2, 1) := by decide +kernel
theorem dX6_next_38 : decode cX6_next 38 = .ok (.iload_n 3, 1) := by decide +kernel
theorem dX6_next_39 : decode cX6_next 39 = .ok (.invokevirtual 145, 3) := by decide +kernel
theorem dX6_next_42 : decode cX6_next 42 = .ok (.ireturn, 1) := by decide +kernel
set_option maxRecDepth 20000 in
theorem ggX6_isSet_X6_countBits : GoodIn wsX6_isSet wsX6_countBits := goodIn_r _ [5] (by decide +kernel) (by decide +kernel)
set_option maxRecDepth 20000 in
theorem gX6_isSet_X6_countBits : GoodIn wsX6_isSet (va_wsS RX6 141 yX6_countBits wsX6_countBits) := goodIn_app (goodIn_of _ (by decide +kernel)) ggX6_isSet_X6_countBits
theorem dX6_isSet_0 : decode cX6_isSet 0 = .ok (.iload_n 1, 1) := by decide +kernel
theorem dX6_isSet_1 : decode cX6_isSet 1 = .ok (.ifCond .le 25, 3) := by decide +kernel
theorem dX6_isSet_4 : decode cX6_isSet 4 = .ok (.iload_n 1, 1) := by decide +kernel
theorem dX6_isSet_5 : decode cX6_isSet 5 = .ok (.iconst 1, 1) := by decide +kernel
theorem dX6_isSet_6 : decode cX6_isSet 6 = .ok (.aload_n 0, 1) := by decide +kernel
theorem dX6_isSet_7 : decode cX6_isSet 7 = .ok (.getfield 87, 3) := by decide +kernel
theorem dX6_isSet_10 : decode cX6_isSet 10 = .ok (.ishl, 1) := by decide +kernel
theorem dX6_isSet_11 : decode cX6_isSet 11 = .ok (.if_icmp .ge 15, 3) := by decide +kernel
theorem dX6_isSet_14 : decode cX6_isSet 14 = .ok (.iload_n 1, 1) := by decide +kernel
theorem dX6_isSet_15 : decode cX6_isSet 15 = .ok (.invokestatic 141, 3) := by decide +kernel
theorem dX6_isSet_18 : decode cX6_isSet 18 = .ok (.iload_n 2, 1) := by decide +kernel
theorem dX6_isSet_19 : decode cX6_isSet 19 = .ok (.if_icmp .gt 7, 3) := by decide +kernel
theorem dX6_isSet_22 : decode cX6_isSet 22 = .ok (.iconst 1, 1) := by decide +kernel
theorem dX6_isSet_23 : decode cX6_isSet 23 = .ok (.goto 4, 3) := by decide +kernel
theorem dX6_isSet_26 : decode cX6_isSet 26 = .ok (.iconst 0, 1) := by decide +kernel
theorem dX6_isSet_27 : decode cX6_isSet 27 = .ok (.ireturn, 1) := by decide +kernel
theorem dX6_add_0 : decode cX6_add 0 = .ok (.aload_n 0, 1) := by decide +kernel
theorem dX6_add_1 : decode cX6_add 1 = .ok (.getfield 44, 3) := by decide +kernel
theorem dX6_add_4 : decode cX6_add 4 = .ok (.aload_n 0, 1) := by decide +kernel
theorem dX6_add_5 : decode cX6_add 5 = .ok (.getfield 149, 3) := by decide +kernel
theorem dX6_add_8 : decode cX6_add 8 = .ok (.iload_n 1, 1) := by decide +kernel
theorem dX6_add_9 : decode cX6_add 9 = .ok (.iastore, 1) := by decide +kernel
theorem dX6_add_10 : decode cX6_add 10 = .ok (.aload_n 0, 1) := by decide +kernel
theorem dX6_add_11 : decode cX6_add 11 = .ok (.getfield 47, 3) := by decide +kernel
theorem dX6_add_14 : decode cX6_add 14 = .ok (.aload_n 0, 1) := by decide +kernel
theorem dX6_add_15 : decode cX6_add 15 = .ok (.getfield 149, 3) := by decide +kernel
theorem dX6_add_18 : decode cX6_add 18 = .ok (.iload_n 2, 1) := by decide +kernel
theorem dX6_add_19 : decode cX6_add 19 = .ok (.iastore, 1) := by decide +kernel
theorem dX6_add_20 : decode cX6_add 20 = .ok (.aload_n 0, 1) := by decide +kernel
theorem dX6_add_21 : decode cX6_add 21 = .ok (.dup, 1) := by decide +kernel
theorem dX6_add_22 : decode cX6_add 22 = .ok (.getfield 149, 3) := by decide +kernel
theorem dX6_add_25 : decode cX6_add 25 = .ok (.iconst 1, 1) := by decide +kernel
theorem dX6_add_26 : decode cX6_add 26 = .ok (.iadd, 1) := by decide +kernel
theorem dX6_add_27 : decode cX6_add 27 = .ok (.putfield 149, 3) := by decide +kernel
theorem dX6_add_30 : decode cX6_add 30 = .ok (.return_, 1) := by decide +kernel
set_option maxRecDepth 20000 in
theorem ggX6_takeSet_X6_add : GoodIn wsX6_takeSet wsX6_add := goodIn_r _ [8, 9, 1, 10, 11, 12, 13, 14, 15, 16, 17, 18, 19, 20, 21, 22, 23, 24, 25, 26, 27, 28, 29, 30, 31, 32, 33, 34, 35, 36, 37, 38, 39, 40, 41, 42, 43, 44, 45, 46, 47, 48, 49, 50, 51, 52, 53] (by decide +kernel) (by decide +kernel)
set_option maxRecDepth 20000 in
theorem gX6_takeSet_X6_add : GoodIn wsX6_takeSet (wsV RX6 152 RX6 yX6_add wsX6_add) := goodIn_app (goodIn_of _ (by decide +kernel)) ggX6_takeSet_X6_add
theorem dX6_takeSet_0 : decode cX6_takeSet 0 = .ok (.aload_n 0, 1) := by decide +kernel
theorem dX6_takeSet_1 : decode cX6_takeSet 1 = .ok (.iconst 0, 1) := by decide +kernel
theorem dX6_takeSet_2 : decode cX6_takeSet 2 = .ok (.putfield 149, 3) := by decide +kernel
theorem dX6_takeSet_5 : decode cX6_takeSet 5 = .ok (.iconst 0, 1) := by decide +kernel
theorem dX6_takeSet_6 : decode cX6_takeSet 6 = .ok (.istore_n 2, 1) := by decide +kernel
theorem dX6_takeSet_7 : decode cX6_takeSet 7 = .ok (.iload_n 2, 1) := by decide +kernel
theorem dX6_takeSet_8 : decode cX6_takeSet 8 = .ok (.aload_n 0, 1) := by decide +kernel
theorem dX6_takeSet_9 : decode cX6_takeSet 9 = .ok (.getfield 87, 3) := by decide +kernel
theorem dX6_takeSet_12 : decode cX6_takeSet 12 = .ok (.if_icmp .ge 29, 3) := by decide +kernel
theorem dX6_takeSet_15 : decode cX6_takeSet 15 = .ok (.iload_n 1, 1) := by decide +kernel
theorem dX6_takeSet_16 : decode cX6_takeSet 16 = .ok (.iload_n 2, 1) := by decide +kernel
theorem dX6_takeSet_17 : decode cX6_takeSet 17 = .ok (.ishr, 1) := by decide +kernel
theorem dX6_takeSet_18 : decode cX6_takeSet 18 = .ok (.iconst 1, 1) := by decide +kernel
theorem dX6_takeSet_19 : decode cX6_takeSet 19 = .ok (.iand, 1) := by decide +kernel
theorem dX6_takeSet_20 : decode cX6_takeSet 20 = .ok (.iconst 1, 1) := by decide +kernel
theorem dX6_takeSet_21 : decode cX6_takeSet 21 = .ok (.if_icmp .ne 14, 3) := by decide +kernel
theorem dX6_takeSet_24 : decode cX6_takeSet 24 = .ok (.aload_n 0, 1) := by decide +kernel
theorem dX6_takeSet_25 : decode cX6_takeSet 25 = .ok (.iload_n 2, 1) := by decide +kernel
theorem dX6_takeSet_26 : decode cX6_takeSet 26 = .ok (.aload_n 0, 1) := by decide +kernel
theorem dX6_takeSet_27 : decode cX6_takeSet 27 = .ok (.getfield 16, 3) := by decide +kernel
theorem dX6_takeSet_30 : decode cX6_takeSet 30 = .ok (.iload_n 2, 1) := by decide +kernel
theorem dX6_takeSet_31 : decode cX6_takeSet 31 = .ok (.iaload, 1) := by decide +kernel
theorem dX6_takeSet_32 : decode cX6_takeSet 32 = .ok (.invokevirtual 152, 3) := by decide +kernel
theorem dX6_takeSet_35 : decode cX6_takeSet 35 = .ok (.iinc 2 1, 3) := by decide +kernel
theorem dX6_takeSet_38 : decode cX6_takeSet 38 = .ok (.goto (-31), 3) := by decide +kernel
theorem dX6_takeSet_41 : decode cX6_takeSet 41 = .ok (.return_, 1) := by decide +kernel
set_option maxRecDepth 20000 in
theorem ggX6_findSteps_X6_stateBehind : GoodIn wsX6_findSteps wsX6_stateBehind := goodIn_r _ [10, 11, 12, 13, 14, 15, 16, 17, 18, 19, 20, 21, 22, 23, 24, 25, 26, 27, 28, 29, 30, 31, 32, 33, 34, 35, 36, 37, 38, 39, 40, 41, 42, 43, 44, 45, 46, 47, 48, 49, 50, 51, 52, 53, 54, 55, 56] (by decide +kernel) (by decide +kernel)
set_option maxRecDepth 20000 in
theorem gX6_findSteps_X6_stateBehind : GoodIn wsX6_findSteps (wsV RX6 145 RX6 yX6_stateBehind wsX6_stateBehind) := goodIn_app (goodIn_of _ (by decide +kernel)) ggX6_findSteps_X6_stateBehind
theorem dX6_findSteps_0 : decode cX6_findSteps 0 = .ok (.aload_n 0, 1) := by decide +kernel
theorem dX6_findSteps_1 : decode cX6_findSteps 1 = .ok (.iconst 1, 1) := by decide +kernel
theorem dX6_findSteps_2 : decode cX6_findSteps 2 = .ok (.putfield 156, 3) := by decide +kernel
theorem dX6_findSteps_5 : decode cX6_findSteps 5 = .ok (.iconst 0, 1) := by decide +kernel
theorem dX6_findSteps_6 : decode cX6_findSteps 6 = .ok (.istore_n 1, 1) := by decide +kernel
theorem dX6_findSteps_7 : decode cX6_findSteps 7 = .ok (.iload_n 1, 1) := by decide +kernel
theorem dX6_findSteps_8 : decode cX6_findSteps 8 = .ok (.aload_n 0, 1) := by decide +kernel
theorem dX6_findSteps_9 : decode cX6_findSteps 9 = .ok (.getfield 149, 3) := by decide +kernel
theorem dX6_findSteps_12 : decode cX6_findSteps 12 = .ok (.if_icmp .ge 79, 3) := by decide +kernel
theorem dX6_findSteps_15 : decode cX6_findSteps 15 = .ok (.aload_n 0, 1) := by decide +kernel
theorem dX6_findSteps_16 : decode cX6_findSteps 16 = .ok (.dup, 1) := by decide +kernel
theorem dX6_findSteps_17 : decode cX6_findSteps 17 = .ok (.getfield 156, 3) := by decide +kernel
theorem dX6_findSteps_20 : decode cX6_findSteps 20 = .ok (.iconst 4, 1) := by decide +kernel
theorem dX6_findSteps_21 : decode cX6_findSteps 21 = .ok (.imul, 1) := by decide +kernel
theorem dX6_findSteps_22 : decode cX6_findSteps 22 = .ok (.putfield 156, 3) := by decide +kernel
theorem dX6_findSteps_25 : decode cX6_findSteps 25 = .ok (.iconst 0, 1) := by decide +kernel
theorem dX6_findSteps_26 : decode cX6_findSteps 26 = .ok (.istore_n 2, 1) := by decide +kernel
theorem dX6_findSteps_27 : decode cX6_findSteps 27 = .ok (.iload_n 2, 1) := by decide +kernel
theorem dX6_findSteps_28 : decode cX6_findSteps 28 = .ok (.iconst 4, 1) := by decide +kernel
theorem dX6_findSteps_29 : decode cX6_findSteps 29 = .ok (.if_icmp .ge 56, 3) := by decide +kernel
theorem dX6_findSteps_32 : decode cX6_findSteps 32 = .ok (.iconst 0, 1) := by decide +kernel
theorem dX6_findSteps_33 : decode cX6_findSteps 33 = .ok (.istore_n 3, 1) := by decide +kernel
theorem dX6_findSteps_34 : decode cX6_findSteps 34 = .ok (.iload_n 3, 1) := by decide +kernel
theorem dX6_findSteps_35 : decode cX6_findSteps 35 = .ok (.bipush 64, 2) := by decide +kernel
theorem dX6_findSteps_37 : decode cX6_findSteps 37 = .ok (.if_icmp .ge 42, 3) := by decide +kernel
theorem dX6_findSteps_40 : decode cX6_findSteps 40 = .ok (.aload_n 0, 1) := by decide +kernel
theorem dX6_findSteps_41 : decode cX6_findSteps 41 = .ok (.getfield 50, 3) := by decide +kernel
theorem dX6_findSteps_44 : decode cX6_findSteps 44 = .ok (.iconst 4, 1) := by decide +kernel
theorem dX6_findSteps_45 : decode cX6_findSteps 45 = .ok (.iload_n 1, 1) := by decide +kernel
theorem dX6_findSteps_46 : decode cX6_findSteps 46 = .ok (.imul, 1) := by decide +kernel
theorem dX6_findSteps_47 : decode cX6_findSteps 47 = .ok (.iload_n 2, 1) := by decide +kernel
theorem dX6_findSteps_48 : decode cX6_findSteps 48 = .ok (.iadd, 1) := by decide +kernel
theorem dX6_findSteps_49 : decode cX6_findSteps 49 = .ok (.bipush 64, 2) := by decide +kernel
theorem dX6_findSteps_51 : decode cX6_findSteps 51 = .ok (.imul, 1) := by decide +kernel
theorem dX6_findSteps_52 : decode cX6_findSteps 52 = .ok (.iload_n 3, 1) := by decide +kernel
theorem dX6_findSteps_53 : decode cX6_findSteps 53 = .ok (.iadd, 1) := by decide +kernel
theorem dX6_findSteps_54 : decode cX6_findSteps 54 = .ok (.aload_n 0, 1) := by decide +kernel
theorem dX6_findSteps_55 : decode cX6_findSteps 55 = .ok (.aload_n 0, 1) := by decide +kernel
theorem dX6_findSteps_56 : decode cX6_findSteps 56 = .ok (.getfield 44, 3) := by decide +kernel
theorem dX6_findSteps_59 : decode cX6_findSteps 59 = .ok (.iload_n 1, 1) := by decide +kernel
theorem dX6_findSteps_60 : decode cX6_findSteps 60 = .ok (.iaload, 1) := by decide +kernel
theorem dX6_findSteps_61 : decode cX6_findSteps 61 = .ok (.aload_n 0, 1) := by decide +kernel
theorem dX6_findSteps_62 : decode cX6_findSteps 62 = .ok (.getfield 47, 3) := by decide +kernel
theorem dX6_findSteps_65 : decode cX6_findSteps 65 = .ok (.iload_n 1, 1) := by decide +kernel
theorem dX6_findSteps_66 : decode cX6_findSteps 66 = .ok (.iaload, 1) := by decide +kernel
theorem dX6_findSteps_67 : decode cX6_findSteps 67 = .ok (.iload_n 2, 1) := by decide +kernel
theorem dX6_findSteps_68 : decode cX6_findSteps 68 = .ok (.iload_n 3, 1) := by decide +kernel
theorem dX6_findSteps_69 : decode cX6_findSteps 69 = .ok (.invokevirtual 145, 3) := by decide +kernel
theorem dX6_findSteps_72 : decode cX6_findSteps 72 = .ok (.iastore, 1) := by decide +kernel
theorem dX6_findSteps_73 : decode cX6_findSteps 73 = .ok (.iinc 3 1, 3) := by decide +kernel
theorem dX6_findSteps_76 : decode cX6_findSteps 76 = .ok (.goto (-42), 3) := by decide +kernel
theorem dX6_findSteps_79 : decode cX6_findSteps 79 = .ok (.iinc 2 1, 3) := by decide +kernel
theorem dX6_findSteps_82 : decode cX6_findSteps 82 = .ok (.goto (-55), 3) := by decide +kernel
theorem dX6_findSteps_85 : decode cX6_findSteps 85 = .ok (.iinc 1 1, 3) := by decide +kernel
theorem dX6_findSteps_88 : decode cX6_findSteps 88 = .ok (.goto (-81), 3) := by decide +kernel
theorem dX6_findSteps_91 : decode cX6_findSteps 91 = .ok (.return_, 1) := by decide +kernel
theorem dX6_behind_0 : decode cX6_behind 0 = .ok (.iconst 0, 1) := by decide +kernel
theorem dX6_behind_1 : decode cX6_behind 1 = .ok (.istore_n 3, 1) := by decide +kernel
theorem dX6_behind_2 : decode cX6_behind 2 = .ok (.iconst 1, 1) := by decide +kernel
theorem dX6_behind_3 : decode cX6_behind 3 = .ok (.istore 4, 2) := by decide +kernel
theorem dX6_behind_5 : decode cX6_behind 5 = .ok (.iload_n 1, 1) := by decide +kernel
theorem dX6_behind_6 : decode cX6_behind 6 = .ok (.istore 5, 2) := by decide +kernel
theorem dX6_behind_8 : decode cX6_behind 8 = .ok (.iconst 0, 1) := by decide +kernel
theorem dX6_behind_9 : decode cX6_behind 9 = .ok (.istore 6, 2) := by decide +kernel
theorem dX6_behind_11 : decode cX6_behind 11 = .ok (.iload 6, 2) := by decide +kernel
theorem dX6_behind_13 : decode cX6_behind 13 = .ok (.aload_n 0, 1) := by decide +kernel
theorem dX6_behind_14 : decode cX6_behind 14 = .ok (.getfield 149, 3) := by decide +kernel
theorem dX6_behind_17 : decode cX6_behind 17 = .ok (.if_icmp .ge 57, 3) := by decide +kernel
theorem dX6_behind_20 : decode cX6_behind 20 = .ok (.aload_n 0, 1) := by decide +kernel
theorem dX6_behind_21 : decode cX6_behind 21 = .ok (.getfield 50, 3) := by decide +kernel
theorem dX6_behind_24 : decode cX6_behind 24 = .ok (.iconst 4, 1) := by decide +kernel
theorem dX6_behind_25 : decode cX6_behind 25 = .ok (.iload 6, 2) := by decide +kernel
theorem dX6_behind_27 : decode cX6_behind 27 = .ok (.imul, 1) := by decide +kernel
theorem dX6_behind_28 : decode cX6_behind 28 = .ok (.iload 5, 2) := by decide +kernel
theorem dX6_behind_30 : decode cX6_behind 30 = .ok (.iconst 4, 1) := by decide +kernel
theorem dX6_behind_31 : decode cX6_behind 31 = .ok (.irem, 1) := by decide +kernel
theorem dX6_behind_32 : decode cX6_behind 32 = .ok (.iadd, 1) := by decide +kernel
theorem dX6_behind_33 : decode cX6_behind 33 = .ok (.bipush 64, 2) := by decide +kernel
theorem dX6_behind_35 : decode cX6_behind 35 = .ok (.imul, 1) := by decide +kernel
theorem dX6_behind_36 : decode cX6_behind 36 = .ok (.iload_n 2, 1) := by decide +kernel
theorem dX6_behind_37 : decode cX6_behind 37 = .ok (.iadd, 1) := by decide +kernel
theorem dX6_behind_38 : decode cX6_behind 38 = .ok (.iaload, 1) := by decide +kernel
theorem dX6_behind_39 : decode cX6_behind 39 = .ok (.istore 7, 2) := by decide +kernel
theorem dX6_behind_41 : decode cX6_behind 41 = .ok (.iload 7, 2) := by decide +kernel
theorem dX6_behind_43 : decode cX6_behind 43 = .ok (.ifCond .ge 5, 3) := by decide +kernel
theorem dX6_behind_46 : decode cX6_behind 46 = .ok (.iconst (-1), 1) := by decide +kernel
theorem dX6_behind_47 : decode cX6_behind 47 = .ok (.ireturn, 1) := by decide +kernel
theorem dX6_behind_48 : decode cX6_behind 48 = .ok (.iload_n 3, 1) := by decide +kernel
theorem dX6_behind_49 : decode cX6_behind 49 = .ok (.iload 4, 2) := by decide +kernel
theorem dX6_behind_51 : decode cX6_behind 51 = .ok (.iload 7, 2) := by decide +kernel
theorem dX6_behind_53 : decode cX6_behind 53 = .ok (.imul, 1) := by decide +kernel
theorem dX6_behind_54 : decode cX6_behind 54 = .ok (.iadd, 1) := by decide +kernel
theorem dX6_behind_55 : decode cX6_behind 55 = .ok (.istore_n 3, 1) := by decide +kernel
theorem dX6_behind_56 : decode cX6_behind 56 = .ok (.iload 4, 2) := by decide +kernel
theorem dX6_behind_58 : decode cX6_behind 58 = .ok (.iconst 4, 1) := by decide +kernel
theorem dX6_behind_59 : decode cX6_behind 59 = .ok (.imul, 1) := by decide +kernel
theorem dX6_behind_60 : decode cX6_behind 60 = .ok (.istore 4, 2) := by decide +kernel
theorem dX6_behind_62 : decode cX6_behind 62 = .ok (.iload 5, 2) := by decide +kernel
theorem dX6_behind_64 : decode cX6_behind 64 = .ok (.iconst 4, 1) := by decide +kernel
theorem dX6_behind_65 : decode cX6_behind 65 = .ok (.idiv, 1) := by decide +kernel
theorem dX6_behind_66 : decode cX6_behind 66 = .ok (.istore 5, 2) := by decide +kernel
theorem dX6_behind_68 : decode cX6_behind 68 = .ok (.iinc 6 1, 3) := by decide +kernel
theorem dX6_behind_71 : decode cX6_behind 71 = .ok (.goto (-60), 3) := by decide +kernel
theorem dX6_behind_74 : decode cX6_behind 74 = .ok (.iload_n 3, 1) := by decide +kernel
theorem dX6_behind_75 : decode cX6_behind 75 = .ok (.ireturn, 1) := by decide +kernel
set_option maxRecDepth 20000 in
theorem ggX6_holdsOut_X6_behind : GoodIn wsX6_holdsOut wsX6_behind := goodIn_r _ [6, 7, 8, 9, 10, 11, 12, 13, 14, 15, 16, 17, 18, 19, 20, 21, 22, 23, 24, 25, 26, 27, 28, 29, 30, 31, 32, 33, 34, 35, 36, 37, 38, 39, 40, 41, 42, 43, 44, 45, 46, 47, 48, 49, 50, 51] (by decide +kernel) (by decide +kernel)
set_option maxRecDepth 20000 in
theorem gX6_holdsOut_X6_behind : GoodIn wsX6_holdsOut (wsV RX6 159 RX6 yX6_behind wsX6_behind) := goodIn_app (goodIn_of _ (by decide +kernel)) ggX6_holdsOut_X6_behind
theorem dX6_holdsOut_0 : decode cX6_holdsOut 0 = .ok (.iconst 0, 1) := by decide +kernel
theorem dX6_holdsOut_1 : decode cX6_holdsOut 1 = .ok (.istore_n 2, 1) := by decide +kernel
theorem dX6_holdsOut_2 : decode cX6_holdsOut 2 = .ok (.iload_n 2, 1) := by decide +kernel
theorem dX6_holdsOut_3 : decode cX6_holdsOut 3 = .ok (.bipush 8, 2) := by decide +kernel
theorem dX6_holdsOut_5 : decode cX6_holdsOut 5 = .ok (.if_icmp .ge 72, 3) := by decide +kernel
theorem dX6_holdsOut_8 : decode cX6_holdsOut 8 = .ok (.iconst 0, 1) := by decide +kernel
theorem dX6_holdsOut_9 : decode cX6_holdsOut 9 = .ok (.istore_n 3, 1) := by decide +kernel
theorem dX6_holdsOut_10 : decode cX6_holdsOut 10 = .ok (.iconst 0, 1) := by decide +kernel
theorem dX6_holdsOut_11 : decode cX6_holdsOut 11 = .ok (.istore 4, 2) := by decide +kernel
theorem dX6_holdsOut_13 : decode cX6_holdsOut 13 = .ok (.iload 4, 2) := by decide +kernel
theorem dX6_holdsOut_15 : decode cX6_holdsOut 15 = .ok (.bipush 8, 2) := by decide +kernel
theorem dX6_holdsOut_17 : decode cX6_holdsOut 17 = .ok (.if_icmp .ge 48, 3) := by decide +kernel
theorem dX6_holdsOut_20 : decode cX6_holdsOut 20 = .ok (.iload_n 3, 1) := by decide +kernel
theorem dX6_holdsOut_21 : decode cX6_holdsOut 21 = .ok (.ifCond .ne 44, 3) := by decide +kernel
theorem dX6_holdsOut_24 : decode cX6_holdsOut 24 = .ok (.aload_n 0, 1) := by decide +kernel
theorem dX6_holdsOut_25 : decode cX6_holdsOut 25 = .ok (.iload_n 1, 1) := by decide +kernel
theorem dX6_holdsOut_26 : decode cX6_holdsOut 26 = .ok (.bipush 8, 2) := by decide +kernel
theorem dX6_holdsOut_28 : decode cX6_holdsOut 28 = .ok (.iload_n 2, 1) := by decide +kernel
theorem dX6_holdsOut_29 : decode cX6_holdsOut 29 = .ok (.imul, 1) := by decide +kernel
theorem dX6_holdsOut_30 : decode cX6_holdsOut 30 = .ok (.iload 4, 2) := by decide +kernel
theorem dX6_holdsOut_32 : decode cX6_holdsOut 32 = .ok (.iadd, 1) := by decide +kernel
theorem dX6_holdsOut_33 : decode cX6_holdsOut 33 = .ok (.invokevirtual 159, 3) := by decide +kernel
theorem dX6_holdsOut_36 : decode cX6_holdsOut 36 = .ok (.istore 5, 2) := by decide +kernel
theorem dX6_holdsOut_38 : decode cX6_holdsOut 38 = .ok (.iload 5, 2) := by decide +kernel
theorem dX6_holdsOut_40 : decode cX6_holdsOut 40 = .ok (.ifCond .lt 17, 3) := by decide +kernel
theorem dX6_holdsOut_43 : decode cX6_holdsOut 43 = .ok (.aload_n 0, 1) := by decide +kernel
theorem dX6_holdsOut_44 : decode cX6_holdsOut 44 = .ok (.getfield 53, 3) := by decide +kernel
theorem dX6_holdsOut_47 : decode cX6_holdsOut 47 = .ok (.iload 5, 2) := by decide +kernel
theorem dX6_holdsOut_49 : decode cX6_holdsOut 49 = .ok (.baload, 1) := by decide +kernel
theorem dX6_holdsOut_50 : decode cX6_holdsOut 50 = .ok (.ifCond .eq 7, 3) := by decide +kernel
theorem dX6_holdsOut_53 : decode cX6_holdsOut 53 = .ok (.iconst 1, 1) := by decide +kernel
theorem dX6_holdsOut_54 : decode cX6_holdsOut 54 = .ok (.goto 4, 3) := by decide +kernel
theorem dX6_holdsOut_57 : decode cX6_holdsOut 57 = .ok (.iconst 0, 1) := by decide +kernel
theorem dX6_holdsOut_58 : decode cX6_holdsOut 58 = .ok (.istore_n 3, 1) := by decide +kernel
theorem dX6_holdsOut_59 : decode cX6_holdsOut 59 = .ok (.iinc 4 1, 3) := by decide +kernel
theorem dX6_holdsOut_62 : decode cX6_holdsOut 62 = .ok (.goto (-49), 3) := by decide +kernel
theorem dX6_holdsOut_65 : decode cX6_holdsOut 65 = .ok (.iload_n 3, 1) := by decide +kernel
theorem dX6_holdsOut_66 : decode cX6_holdsOut 66 = .ok (.ifCond .ne 5, 3) := by decide +kernel
theorem dX6_holdsOut_69 : decode cX6_holdsOut 69 = .ok (.iconst 0, 1) := by decide +kernel
theorem dX6_holdsOut_70 : decode cX6_holdsOut 70 = .ok (.ireturn, 1) := by decide +kernel
