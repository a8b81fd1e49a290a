theorem dX7_cheapestBy_149 : decode cX7_cheapestBy 149 = .ok (.aload_n 0, 1) := by decide +kernel
theorem dX7_cheapestBy_150 : decode cX7_cheapestBy 150 = .ok (.getfield 44, 3) := by decide +kernel
theorem dX7_cheapestBy_153 : decode cX7_cheapestBy 153 = .ok (.iload 4, 2) := by decide +kernel
theorem dX7_cheapestBy_155 : decode cX7_cheapestBy 155 = .ok (.iaload, 1) := by decide +kernel
theorem dX7_cheapestBy_156 : decode cX7_cheapestBy 156 = .ok (.iastore, 1) := by decide +kernel
theorem dX7_cheapestBy_157 : decode cX7_cheapestBy 157 = .ok (.iinc 4 1, 3) := by decide +kernel
theorem dX7_cheapestBy_160 : decode cX7_cheapestBy 160 = .ok (.goto (-23), 3) := by decide +kernel
theorem dX7_cheapestBy_163 : decode cX7_cheapestBy 163 = .ok (.iinc 3 1, 3) := by decide +kernel
theorem dX7_cheapestBy_166 : decode cX7_cheapestBy 166 = .ok (.goto (-109), 3) := by decide +kernel
theorem dX7_cheapestBy_169 : decode cX7_cheapestBy 169 = .ok (.bipush (-9), 2) := by decide +kernel
theorem dX7_cheapestBy_171 : decode cX7_cheapestBy 171 = .ok (.istore_n 3, 1) := by decide +kernel
theorem dX7_cheapestBy_172 : decode cX7_cheapestBy 172 = .ok (.iconst 0, 1) := by decide +kernel
theorem dX7_cheapestBy_173 : decode cX7_cheapestBy 173 = .ok (.istore 4, 2) := by decide +kernel
theorem dX7_cheapestBy_175 : decode cX7_cheapestBy 175 = .ok (.iload 4, 2) := by decide +kernel
theorem dX7_cheapestBy_177 : decode cX7_cheapestBy 177 = .ok (.iload_n 2, 1) := by decide +kernel
theorem dX7_cheapestBy_178 : decode cX7_cheapestBy 178 = .ok (.if_icmp .ge 50, 3) := by decide +kernel
theorem dX7_cheapestBy_181 : decode cX7_cheapestBy 181 = .ok (.aload_n 0, 1) := by decide +kernel
theorem dX7_cheapestBy_182 : decode cX7_cheapestBy 182 = .ok (.getfield 41, 3) := by decide +kernel
theorem dX7_cheapestBy_185 : decode cX7_cheapestBy 185 = .ok (.iload 4, 2) := by decide +kernel
theorem dX7_cheapestBy_187 : decode cX7_cheapestBy 187 = .ok (.iaload, 1) := by decide +kernel
theorem dX7_cheapestBy_188 : decode cX7_cheapestBy 188 = .ok (.bipush (-9), 2) := by decide +kernel
theorem dX7_cheapestBy_190 : decode cX7_cheapestBy 190 = .ok (.if_icmp .eq 30, 3) := by decide +kernel
theorem dX7_cheapestBy_193 : decode cX7_cheapestBy 193 = .ok (.iload_n 3, 1) := by decide +kernel
theorem dX7_cheapestBy_194 : decode cX7_cheapestBy 194 = .ok (.bipush (-9), 2) := by decide +kernel
theorem dX7_cheapestBy_196 : decode cX7_cheapestBy 196 = .ok (.if_icmp .eq 14, 3) := by decide +kernel
theorem dX7_cheapestBy_199 : decode cX7_cheapestBy 199 = .ok (.aload_n 0, 1) := by decide +kernel
theorem dX7_cheapestBy_200 : decode cX7_cheapestBy 200 = .ok (.getfield 41, 3) := by decide +kernel
theorem dX7_cheapestBy_203 : decode cX7_cheapestBy 203 = .ok (.iload 4, 2) := by decide +kernel
theorem dX7_cheapestBy_205 : decode cX7_cheapestBy 205 = .ok (.iaload, 1) := by decide +kernel
theorem dX7_cheapestBy_206 : decode cX7_cheapestBy 206 = .ok (.iload_n 3, 1) := by decide +kernel
theorem dX7_cheapestBy_207 : decode cX7_cheapestBy 207 = .ok (.if_icmp .ge 13, 3) := by decide +kernel
theorem dX7_cheapestBy_210 : decode cX7_cheapestBy 210 = .ok (.aload_n 0, 1) := by decide +kernel
theorem dX7_cheapestBy_211 : decode cX7_cheapestBy 211 = .ok (.getfield 41, 3) := by decide +kernel
theorem dX7_cheapestBy_214 : decode cX7_cheapestBy 214 = .ok (.iload 4, 2) := by decide +kernel
theorem dX7_cheapestBy_216 : decode cX7_cheapestBy 216 = .ok (.iaload, 1) := by decide +kernel
theorem dX7_cheapestBy_217 : decode cX7_cheapestBy 217 = .ok (.goto 4, 3) := by decide +kernel
theorem dX7_cheapestBy_220 : decode cX7_cheapestBy 220 = .ok (.iload_n 3, 1) := by decide +kernel
theorem dX7_cheapestBy_221 : decode cX7_cheapestBy 221 = .ok (.istore_n 3, 1) := by decide +kernel
theorem dX7_cheapestBy_222 : decode cX7_cheapestBy 222 = .ok (.iinc 4 1, 3) := by decide +kernel
theorem dX7_cheapestBy_225 : decode cX7_cheapestBy 225 = .ok (.goto (-50), 3) := by decide +kernel
theorem dX7_cheapestBy_228 : decode cX7_cheapestBy 228 = .ok (.iload_n 3, 1) := by decide +kernel
theorem dX7_cheapestBy_229 : decode cX7_cheapestBy 229 = .ok (.ireturn, 1) := by decide +kernel
set_option maxRecDepth 20000 in
theorem ggX7_liftsAll_X7_powerOfTen : GoodIn wsX7_liftsAll wsX7_powerOfTen := goodIn_r _ [9] (by decide +kernel) (by decide +kernel)
set_option maxRecDepth 20000 in
theorem gX7_liftsAll_X7_powerOfTen : GoodIn wsX7_liftsAll (va_wsS RX7 188 yX7_powerOfTen wsX7_powerOfTen) := goodIn_app (goodIn_of _ (by decide +kernel)) ggX7_liftsAll_X7_powerOfTen
theorem dX7_liftsAll_0 : decode cX7_liftsAll 0 = .ok (.aload_n 0, 1) := by decide +kernel
theorem dX7_liftsAll_1 : decode cX7_liftsAll 1 = .ok (.getfield 130, 3) := by decide +kernel
theorem dX7_liftsAll_4 : decode cX7_liftsAll 4 = .ok (.iconst 4, 1) := by decide +kernel
theorem dX7_liftsAll_5 : decode cX7_liftsAll 5 = .ok (.if_icmp .ne 9, 3) := by decide +kernel
theorem dX7_liftsAll_8 : decode cX7_liftsAll 8 = .ok (.sipush 10000, 3) := by decide +kernel
theorem dX7_liftsAll_11 : decode cX7_liftsAll 11 = .ok (.goto 10, 3) := by decide +kernel
theorem dX7_liftsAll_14 : decode cX7_liftsAll 14 = .ok (.aload_n 0, 1) := by decide +kernel
theorem dX7_liftsAll_15 : decode cX7_liftsAll 15 = .ok (.getfield 130, 3) := by decide +kernel
theorem dX7_liftsAll_18 : decode cX7_liftsAll 18 = .ok (.invokestatic 188, 3) := by decide +kernel
theorem dX7_liftsAll_21 : decode cX7_liftsAll 21 = .ok (.istore_n 2, 1) := by decide +kernel
theorem dX7_liftsAll_22 : decode cX7_liftsAll 22 = .ok (.iconst 0, 1) := by decide +kernel
theorem dX7_liftsAll_23 : decode cX7_liftsAll 23 = .ok (.istore_n 3, 1) := by decide +kernel
theorem dX7_liftsAll_24 : decode cX7_liftsAll 24 = .ok (.iconst 0, 1) := by decide +kernel
theorem dX7_liftsAll_25 : decode cX7_liftsAll 25 = .ok (.istore 4, 2) := by decide +kernel
theorem dX7_liftsAll_27 : decode cX7_liftsAll 27 = .ok (.iconst 0, 1) := by decide +kernel
theorem dX7_liftsAll_28 : decode cX7_liftsAll 28 = .ok (.istore 5, 2) := by decide +kernel
theorem dX7_liftsAll_30 : decode cX7_liftsAll 30 = .ok (.iload 5, 2) := by decide +kernel
theorem dX7_liftsAll_32 : decode cX7_liftsAll 32 = .ok (.aload_n 0, 1) := by decide +kernel
theorem dX7_liftsAll_33 : decode cX7_liftsAll 33 = .ok (.getfield 130, 3) := by decide +kernel
theorem dX7_liftsAll_36 : decode cX7_liftsAll 36 = .ok (.if_icmp .ge 57, 3) := by decide +kernel
theorem dX7_liftsAll_39 : decode cX7_liftsAll 39 = .ok (.iload_n 3, 1) := by decide +kernel
theorem dX7_liftsAll_40 : decode cX7_liftsAll 40 = .ok (.iload_n 1, 1) := by decide +kernel
theorem dX7_liftsAll_41 : decode cX7_liftsAll 41 = .ok (.iload 5, 2) := by decide +kernel
theorem dX7_liftsAll_43 : decode cX7_liftsAll 43 = .ok (.ishr, 1) := by decide +kernel
theorem dX7_liftsAll_44 : decode cX7_liftsAll 44 = .ok (.iconst 1, 1) := by decide +kernel
theorem dX7_liftsAll_45 : decode cX7_liftsAll 45 = .ok (.iand, 1) := by decide +kernel
theorem dX7_liftsAll_46 : decode cX7_liftsAll 46 = .ok (.iconst 1, 1) := by decide +kernel
theorem dX7_liftsAll_47 : decode cX7_liftsAll 47 = .ok (.if_icmp .ne 11, 3) := by decide +kernel
theorem dX7_liftsAll_50 : decode cX7_liftsAll 50 = .ok (.iload 5, 2) := by decide +kernel
theorem dX7_liftsAll_52 : decode cX7_liftsAll 52 = .ok (.invokestatic 188, 3) := by decide +kernel
theorem dX7_liftsAll_55 : decode cX7_liftsAll 55 = .ok (.goto 4, 3) := by decide +kernel
theorem dX7_liftsAll_58 : decode cX7_liftsAll 58 = .ok (.iconst 0, 1) := by decide +kernel
theorem dX7_liftsAll_59 : decode cX7_liftsAll 59 = .ok (.iadd, 1) := by decide +kernel
theorem dX7_liftsAll_60 : decode cX7_liftsAll 60 = .ok (.istore_n 3, 1) := by decide +kernel
theorem dX7_liftsAll_61 : decode cX7_liftsAll 61 = .ok (.iload 4, 2) := by decide +kernel
theorem dX7_liftsAll_63 : decode cX7_liftsAll 63 = .ok (.iload_n 1, 1) := by decide +kernel
theorem dX7_liftsAll_64 : decode cX7_liftsAll 64 = .ok (.iload 5, 2) := by decide +kernel
theorem dX7_liftsAll_66 : decode cX7_liftsAll 66 = .ok (.ishr, 1) := by decide +kernel
theorem dX7_liftsAll_67 : decode cX7_liftsAll 67 = .ok (.iconst 1, 1) := by decide +kernel
theorem dX7_liftsAll_68 : decode cX7_liftsAll 68 = .ok (.iand, 1) := by decide +kernel
theorem dX7_liftsAll_69 : decode cX7_liftsAll 69 = .ok (.iconst 1, 1) := by decide +kernel
theorem dX7_liftsAll_70 : decode cX7_liftsAll 70 = .ok (.if_icmp .ne 13, 3) := by decide +kernel
theorem dX7_liftsAll_73 : decode cX7_liftsAll 73 = .ok (.aload_n 0, 1) := by decide +kernel
theorem dX7_liftsAll_74 : decode cX7_liftsAll 74 = .ok (.getfield 16, 3) := by decide +kernel
theorem dX7_liftsAll_77 : decode cX7_liftsAll 77 = .ok (.iload 5, 2) := by decide +kernel
theorem dX7_liftsAll_79 : decode cX7_liftsAll 79 = .ok (.iaload, 1) := by decide +kernel
theorem dX7_liftsAll_80 : decode cX7_liftsAll 80 = .ok (.goto 4, 3) := by decide +kernel
theorem dX7_liftsAll_83 : decode cX7_liftsAll 83 = .ok (.iconst 0, 1) := by decide +kernel
theorem dX7_liftsAll_84 : decode cX7_liftsAll 84 = .ok (.iadd, 1) := by decide +kernel
theorem dX7_liftsAll_85 : decode cX7_liftsAll 85 = .ok (.istore 4, 2) := by decide +kernel
theorem dX7_liftsAll_87 : decode cX7_liftsAll 87 = .ok (.iinc 5 1, 3) := by decide +kernel
theorem dX7_liftsAll_90 : decode cX7_liftsAll 90 = .ok (.goto (-60), 3) := by decide +kernel
theorem dX7_liftsAll_93 : decode cX7_liftsAll 93 = .ok (.iconst 0, 1) := by decide +kernel
theorem dX7_liftsAll_94 : decode cX7_liftsAll 94 = .ok (.istore 5, 2) := by decide +kernel
theorem dX7_liftsAll_96 : decode cX7_liftsAll 96 = .ok (.iload 5, 2) := by decide +kernel
theorem dX7_liftsAll_98 : decode cX7_liftsAll 98 = .ok (.iload_n 2, 1) := by decide +kernel
theorem dX7_liftsAll_99 : decode cX7_liftsAll 99 = .ok (.if_icmp .ge 157, 3) := by decide +kernel
theorem dX7_liftsAll_102 : decode cX7_liftsAll 102 = .ok (.aload_n 0, 1) := by decide +kernel
theorem dX7_liftsAll_103 : decode cX7_liftsAll 103 = .ok (.getfield 41, 3) := by decide +kernel
theorem dX7_liftsAll_106 : decode cX7_liftsAll 106 = .ok (.iload 5, 2) := by decide +kernel
theorem dX7_liftsAll_108 : decode cX7_liftsAll 108 = .ok (.iaload, 1) := by decide +kernel
theorem dX7_liftsAll_109 : decode cX7_liftsAll 109 = .ok (.bipush (-9), 2) := by decide +kernel
theorem dX7_liftsAll_111 : decode cX7_liftsAll 111 = .ok (.if_icmp .eq 7, 3) := by decide +kernel
theorem dX7_liftsAll_114 : decode cX7_liftsAll 114 = .ok (.iconst 1, 1) := by decide +kernel
theorem dX7_liftsAll_115 : decode cX7_liftsAll 115 = .ok (.goto 4, 3) := by decide +kernel
theorem dX7_liftsAll_118 : decode cX7_liftsAll 118 = .ok (.iconst 0, 1) := by decide +kernel
theorem dX7_liftsAll_119 : decode cX7_liftsAll 119 = .ok (.istore 6, 2) := by decide +kernel
theorem dX7_liftsAll_121 : decode cX7_liftsAll 121 = .ok (.iconst 0, 1) := by decide +kernel
theorem dX7_liftsAll_122 : decode cX7_liftsAll 122 = .ok (.istore 7, 2) := by decide +kernel
theorem dX7_liftsAll_124 : decode cX7_liftsAll 124 = .ok (.iload 7, 2) := by decide +kernel
theorem dX7_liftsAll_126 : decode cX7_liftsAll 126 = .ok (.aload_n 0, 1) := by decide +kernel
theorem dX7_liftsAll_127 : decode cX7_liftsAll 127 = .ok (.getfield 130, 3) := by decide +kernel
theorem dX7_liftsAll_130 : decode cX7_liftsAll 130 = .ok (.if_icmp .ge 52, 3) := by decide +kernel
theorem dX7_liftsAll_133 : decode cX7_liftsAll 133 = .ok (.iload 6, 2) := by decide +kernel
theorem dX7_liftsAll_135 : decode cX7_liftsAll 135 = .ok (.ifCond .eq 47, 3) := by decide +kernel
theorem dX7_liftsAll_138 : decode cX7_liftsAll 138 = .ok (.iload 5, 2) := by decide +kernel
theorem dX7_liftsAll_140 : decode cX7_liftsAll 140 = .ok (.iload 7, 2) := by decide +kernel
theorem dX7_liftsAll_142 : decode cX7_liftsAll 142 = .ok (.invokestatic 188, 3) := by decide +kernel
theorem dX7_liftsAll_145 : decode cX7_liftsAll 145 = .ok (.idiv, 1) := by decide +kernel
theorem dX7_liftsAll_146 : decode cX7_liftsAll 146 = .ok (.bipush 10, 2) := by decide +kernel
theorem dX7_liftsAll_148 : decode cX7_liftsAll 148 = .ok (.irem, 1) := by decide +kernel
theorem dX7_liftsAll_149 : decode cX7_liftsAll 149 = .ok (.iload_n 1, 1) := by decide +kernel
theorem dX7_liftsAll_150 : decode cX7_liftsAll 150 = .ok (.iload 7, 2) := by decide +kernel
theorem dX7_liftsAll_152 : decode cX7_liftsAll 152 = .ok (.ishr, 1) := by decide +kernel
theorem dX7_liftsAll_153 : decode cX7_liftsAll 153 = .ok (.iconst 1, 1) := by decide +kernel
theorem dX7_liftsAll_154 : decode cX7_liftsAll 154 = .ok (.iand, 1) := by decide +kernel
theorem dX7_liftsAll_155 : decode cX7_liftsAll 155 = .ok (.iadd, 1) := by decide +kernel
theorem dX7_liftsAll_156 : decode cX7_liftsAll 156 = .ok (.aload_n 0, 1) := by decide +kernel
theorem dX7_liftsAll_157 : decode cX7_liftsAll 157 = .ok (.getfield 28, 3) := by decide +kernel
theorem dX7_liftsAll_160 : decode cX7_liftsAll 160 = .ok (.bipush 16, 2) := by decide +kernel
theorem dX7_liftsAll_162 : decode cX7_liftsAll 162 = .ok (.iload 7, 2) := by decide +kernel
theorem dX7_liftsAll_164 : decode cX7_liftsAll 164 = .ok (.iadd, 1) := by decide +kernel
theorem dX7_liftsAll_165 : decode cX7_liftsAll 165 = .ok (.iaload, 1) := by decide +kernel
theorem dX7_liftsAll_166 : decode cX7_liftsAll 166 = .ok (.if_icmp .gt 7, 3) := by decide +kernel
theorem dX7_liftsAll_169 : decode cX7_liftsAll 169 = .ok (.iconst 1, 1) := by decide +kernel
theorem dX7_liftsAll_170 : decode cX7_liftsAll 170 = .ok (.goto 4, 3) := by decide +kernel
theorem dX7_liftsAll_173 : decode cX7_liftsAll 173 = .ok (.iconst 0, 1) := by decide +kernel
theorem dX7_liftsAll_174 : decode cX7_liftsAll 174 = .ok (.istore 6, 2) := by decide +kernel
theorem dX7_liftsAll_176 : decode cX7_liftsAll 176 = .ok (.iinc 7 1, 3) := by decide +kernel
theorem dX7_liftsAll_179 : decode cX7_liftsAll 179 = .ok (.goto (-55), 3) := by decide +kernel
theorem dX7_liftsAll_182 : decode cX7_liftsAll 182 = .ok (.iload 6, 2) := by decide +kernel
theorem dX7_liftsAll_184 : decode cX7_liftsAll 184 = .ok (.ifCond .eq 66, 3) := by decide +kernel
theorem dX7_liftsAll_187 : decode cX7_liftsAll 187 = .ok (.aload_n 0, 1) := by decide +kernel
theorem dX7_liftsAll_188 : decode cX7_liftsAll 188 = .ok (.getfield 41, 3) := by decide +kernel
theorem dX7_liftsAll_191 : decode cX7_liftsAll 191 = .ok (.iload 5, 2) := by decide +kernel
theorem dX7_liftsAll_193 : decode cX7_liftsAll 193 = .ok (.iaload, 1) := by decide +kernel
theorem dX7_liftsAll_194 : decode cX7_liftsAll 194 = .ok (.iload 4, 2) := by decide +kernel
theorem dX7_liftsAll_196 : decode cX7_liftsAll 196 = .ok (.iadd, 1) := by decide +kernel
theorem dX7_liftsAll_197 : decode cX7_liftsAll 197 = .ok (.istore 7, 2) := by decide +kernel
theorem dX7_liftsAll_199 : decode cX7_liftsAll 199 = .ok (.aload_n 0, 1) := by decide +kernel
theorem dX7_liftsAll_200 : decode cX7_liftsAll 200 = .ok (.getfield 44, 3) := by decide +kernel
theorem dX7_liftsAll_203 : decode cX7_liftsAll 203 = .ok (.iload 5, 2) := by decide +kernel
theorem dX7_liftsAll_205 : decode cX7_liftsAll 205 = .ok (.iload_n 3, 1) := by decide +kernel
theorem dX7_liftsAll_206 : decode cX7_liftsAll 206 = .ok (.iadd, 1) := by decide +kernel
theorem dX7_liftsAll_207 : decode cX7_liftsAll 207 = .ok (.aload_n 0, 1) := by decide +kernel
theorem dX7_liftsAll_208 : decode cX7_liftsAll 208 = .ok (.getfield 44, 3) := by decide +kernel
theorem dX7_liftsAll_211 : decode cX7_liftsAll 211 = .ok (.iload 5, 2) := by decide +kernel
theorem dX7_liftsAll_213 : decode cX7_liftsAll 213 = .ok (.iload_n 3, 1) := by decide +kernel
theorem dX7_liftsAll_214 : decode cX7_liftsAll 214 = .ok (.iadd, 1) := by decide +kernel
theorem dX7_liftsAll_215 : decode cX7_liftsAll 215 = .ok (.iaload, 1) := by decide +kernel
theorem dX7_liftsAll_216 : decode cX7_liftsAll 216 = .ok (.bipush (-9), 2) := by decide +kernel
theorem dX7_liftsAll_218 : decode cX7_liftsAll 218 = .ok (.if_icmp .eq 17, 3) := by decide +kernel
theorem dX7_liftsAll_221 : decode cX7_liftsAll 221 = .ok (.iload 7, 2) := by decide +kernel
theorem dX7_liftsAll_223 : decode cX7_liftsAll 223 = .ok (.aload_n 0, 1) := by decide +kernel
theorem dX7_liftsAll_224 : decode cX7_liftsAll 224 = .ok (.getfield 44, 3) := by decide +kernel
theorem dX7_liftsAll_227 : decode cX7_liftsAll 227 = .ok (.iload 5, 2) := by decide +kernel
theorem dX7_liftsAll_229 : decode cX7_liftsAll 229 = .ok (.iload_n 3, 1) := by decide +kernel
theorem dX7_liftsAll_230 : decode cX7_liftsAll 230 = .ok (.iadd, 1) := by decide +kernel
theorem dX7_liftsAll_231 : decode cX7_liftsAll 231 = .ok (.iaload, 1) := by decide +kernel
theorem dX7_liftsAll_232 : decode cX7_liftsAll 232 = .ok (.if_icmp .ge 8, 3) := by decide +kernel
theorem dX7_liftsAll_235 : decode cX7_liftsAll 235 = .ok (.iload 7, 2) := by decide +kernel
theorem dX7_liftsAll_237 : decode cX7_liftsAll 237 = .ok (.goto 12, 3) := by decide +kernel
theorem dX7_liftsAll_240 : decode cX7_liftsAll 240 = .ok (.aload_n 0, 1) := by decide +kernel
theorem dX7_liftsAll_241 : decode cX7_liftsAll 241 = .ok (.getfield 44, 3) := by decide +kernel
theorem dX7_liftsAll_244 : decode cX7_liftsAll 244 = .ok (.iload 5, 2) := by decide +kernel
theorem dX7_liftsAll_246 : decode cX7_liftsAll 246 = .ok (.iload_n 3, 1) := by decide +kernel
theorem dX7_liftsAll_247 : decode cX7_liftsAll 247 = .ok (.iadd, 1) := by decide +kernel
theorem dX7_liftsAll_248 : decode cX7_liftsAll 248 = .ok (.iaload, 1) := by decide +kernel
theorem dX7_liftsAll_249 : decode cX7_liftsAll 249 = .ok (.iastore, 1) := by decide +kernel
theorem dX7_liftsAll_250 : decode cX7_liftsAll 250 = .ok (.iinc 5 1, 3) := by decide +kernel
theorem dX7_liftsAll_253 : decode cX7_liftsAll 253 = .ok (.goto (-157), 3) := by decide +kernel
theorem dX7_liftsAll_256 : decode cX7_liftsAll 256 = .ok (.return_, 1) := by decide +kernel
set_option maxRecDepth 20000 in
theorem ggX7_canBy_X7_gathersDue : GoodIn wsX7_canBy wsX7_gathersDue := goodIn_r _ [9, 1, 10, 2, 11, 12, 13, 8, 14, 4, 15, 16, 17, 18, 19, 20, 21, 22, 23, 24, 25, 26, 27, 28, 29, 30, 31, 35, 36, 37, 38, 39, 40, 41, 42, 43, 44, 45, 46, 47, 48, 49, 50, 51, 52, 53, 54, 55, 56, 57, 58, 59, 60, 61, 62] (by decide +kernel) (by decide +kernel)
set_option maxRecDepth 20000 in
theorem gX7_canBy_X7_gathersDue : GoodIn wsX7_canBy (wsV RX7 185 RX7 yX7_gathersDue wsX7_gathersDue) := goodIn_app (goodIn_of _ (by decide +kernel)) ggX7_canBy_X7_gathersDue
set_option maxRecDepth 20000 in
theorem ggX7_canBy_X7_ones : GoodIn wsX7_canBy wsX7_ones := goodIn_r _ [34] (by decide +kernel) (by decide +kernel)
set_option maxRecDepth 20000 in
theorem gX7_canBy_X7_ones : GoodIn wsX7_canBy (va_wsS RX7 156 yX7_ones wsX7_ones) := goodIn_app (goodIn_of _ (by decide +kernel)) ggX7_canBy_X7_ones
set_option maxRecDepth 20000 in
theorem ggX7_canBy_X7_greater : GoodIn wsX7_canBy wsX7_greater := goodIn_r _ [31] (by decide +kernel) (by decide +kernel)
set_option maxRecDepth 20000 in
theorem gX7_canBy_X7_greater : GoodIn wsX7_canBy (va_wsS RX7 150 yX7_greater wsX7_greater) := goodIn_app (goodIn_of _ (by decide +kernel)) ggX7_canBy_X7_greater
theorem dX7_canBy_0 : decode cX7_canBy 0 = .ok (.aload_n 0, 1) := by decide +kernel
theorem dX7_canBy_1 : decode cX7_canBy 1 = .ok (.invokevirtual 185, 3) := by decide +kernel
theorem dX7_canBy_4 : decode cX7_canBy 4 = .ok (.iconst 1, 1) := by decide +kernel
theorem dX7_canBy_5 : decode cX7_canBy 5 = .ok (.istore_n 2, 1) := by decide +kernel
theorem dX7_canBy_6 : decode cX7_canBy 6 = .ok (.iconst 0, 1) := by decide +kernel
theorem dX7_canBy_7 : decode cX7_canBy 7 = .ok (.istore_n 3, 1) := by decide +kernel
theorem dX7_canBy_8 : decode cX7_canBy 8 = .ok (.iload_n 3, 1) := by decide +kernel
theorem dX7_canBy_9 : decode cX7_canBy 9 = .ok (.iload_n 1, 1) := by decide +kernel
theorem dX7_canBy_10 : decode cX7_canBy 10 = .ok (.if_icmp .gt 130, 3) := by decide +kernel
theorem dX7_canBy_13 : decode cX7_canBy 13 = .ok (.iload_n 3, 1) := by decide +kernel
theorem dX7_canBy_14 : decode cX7_canBy 14 = .ok (.iload_n 1, 1) := by decide +kernel
theorem dX7_canBy_15 : decode cX7_canBy 15 = .ok (.iconst (-1), 1) := by decide +kernel
theorem dX7_canBy_16 : decode cX7_canBy 16 = .ok (.ixor, 1) := by decide +kernel
theorem dX7_canBy_17 : decode cX7_canBy 17 = .ok (.iand, 1) := by decide +kernel
theorem dX7_canBy_18 : decode cX7_canBy 18 = .ok (.ifCond .ne 116, 3) := by decide +kernel
theorem dX7_canBy_21 : decode cX7_canBy 21 = .ok (.iconst 0, 1) := by decide +kernel
theorem dX7_canBy_22 : decode cX7_canBy 22 = .ok (.istore 4, 2) := by decide +kernel
theorem dX7_canBy_24 : decode cX7_canBy 24 = .ok (.iconst 0, 1) := by decide +kernel
theorem dX7_canBy_25 : decode cX7_canBy 25 = .ok (.istore 5, 2) := by decide +kernel
theorem dX7_canBy_27 : decode cX7_canBy 27 = .ok (.iload 5, 2) := by decide +kernel
theorem dX7_canBy_29 : decode cX7_canBy 29 = .ok (.aload_n 0, 1) := by decide +kernel
theorem dX7_canBy_30 : decode cX7_canBy 30 = .ok (.getfield 179, 3) := by decide +kernel
theorem dX7_canBy_33 : decode cX7_canBy 33 = .ok (.if_icmp .ge 34, 3) := by decide +kernel
theorem dX7_canBy_36 : decode cX7_canBy 36 = .ok (.iload 4, 2) := by decide +kernel
theorem dX7_canBy_38 : decode cX7_canBy 38 = .ok (.iconst 0, 1) := by decide +kernel
theorem dX7_canBy_39 : decode cX7_canBy 39 = .ok (.aload_n 0, 1) := by decide +kernel
theorem dX7_canBy_40 : decode cX7_canBy 40 = .ok (.getfield 38, 3) := by decide +kernel
theorem dX7_canBy_43 : decode cX7_canBy 43 = .ok (.iload 5, 2) := by decide +kernel
theorem dX7_canBy_45 : decode cX7_canBy 45 = .ok (.iaload, 1) := by decide +kernel
theorem dX7_canBy_46 : decode cX7_canBy 46 = .ok (.iload_n 1, 1) := by decide +kernel
theorem dX7_canBy_47 : decode cX7_canBy 47 = .ok (.iload_n 3, 1) := by decide +kernel
theorem dX7_canBy_48 : decode cX7_canBy 48 = .ok (.iconst (-1), 1) := by decide +kernel
theorem dX7_canBy_49 : decode cX7_canBy 49 = .ok (.ixor, 1) := by decide +kernel
theorem dX7_canBy_50 : decode cX7_canBy 50 = .ok (.iand, 1) := by decide +kernel
theorem dX7_canBy_51 : decode cX7_canBy 51 = .ok (.invokestatic 156, 3) := by decide +kernel
theorem dX7_canBy_54 : decode cX7_canBy 54 = .ok (.isub, 1) := by decide +kernel
theorem dX7_canBy_55 : decode cX7_canBy 55 = .ok (.invokestatic 150, 3) := by decide +kernel
theorem dX7_canBy_58 : decode cX7_canBy 58 = .ok (.iadd, 1) := by decide +kernel
theorem dX7_canBy_59 : decode cX7_canBy 59 = .ok (.istore 4, 2) := by decide +kernel
theorem dX7_canBy_61 : decode cX7_canBy 61 = .ok (.iinc 5 1, 3) := by decide +kernel
theorem dX7_canBy_64 : decode cX7_canBy 64 = .ok (.goto (-37), 3) := by decide +kernel
theorem dX7_canBy_67 : decode cX7_canBy 67 = .ok (.iconst 0, 1) := by decide +kernel
theorem dX7_canBy_68 : decode cX7_canBy 68 = .ok (.istore 5, 2) := by decide +kernel
theorem dX7_canBy_70 : decode cX7_canBy 70 = .ok (.iconst 0, 1) := by decide +kernel
theorem dX7_canBy_71 : decode cX7_canBy 71 = .ok (.istore 6, 2) := by decide +kernel
theorem dX7_canBy_73 : decode cX7_canBy 73 = .ok (.iload 6, 2) := by decide +kernel
theorem dX7_canBy_75 : decode cX7_canBy 75 = .ok (.aload_n 0, 1) := by decide +kernel
theorem dX7_canBy_76 : decode cX7_canBy 76 = .ok (.getfield 130, 3) := by decide +kernel
theorem dX7_canBy_79 : decode cX7_canBy 79 = .ok (.if_icmp .ge 38, 3) := by decide +kernel
theorem dX7_canBy_82 : decode cX7_canBy 82 = .ok (.iload 5, 2) := by decide +kernel
theorem dX7_canBy_84 : decode cX7_canBy 84 = .ok (.iload_n 3, 1) := by decide +kernel
theorem dX7_canBy_85 : decode cX7_canBy 85 = .ok (.iload 6, 2) := by decide +kernel
theorem dX7_canBy_87 : decode cX7_canBy 87 = .ok (.ishr, 1) := by decide +kernel
theorem dX7_canBy_88 : decode cX7_canBy 88 = .ok (.iconst 1, 1) := by decide +kernel
theorem dX7_canBy_89 : decode cX7_canBy 89 = .ok (.iand, 1) := by decide +kernel
theorem dX7_canBy_90 : decode cX7_canBy 90 = .ok (.iconst 1, 1) := by decide +kernel
theorem dX7_canBy_91 : decode cX7_canBy 91 = .ok (.if_icmp .ne 16, 3) := by decide +kernel
theorem dX7_canBy_94 : decode cX7_canBy 94 = .ok (.aload_n 0, 1) := by decide +kernel
theorem dX7_canBy_95 : decode cX7_canBy 95 = .ok (.getfield 28, 3) := by decide +kernel
theorem dX7_canBy_98 : decode cX7_canBy 98 = .ok (.bipush 16, 2) := by decide +kernel
theorem dX7_canBy_100 : decode cX7_canBy 100 = .ok (.iload 6, 2) := by decide +kernel
theorem dX7_canBy_102 : decode cX7_canBy 102 = .ok (.iadd, 1) := by decide +kernel
theorem dX7_canBy_103 : decode cX7_canBy 103 = .ok (.iaload, 1) := by decide +kernel
theorem dX7_canBy_104 : decode cX7_canBy 104 = .ok (.goto 4, 3) := by decide +kernel
theorem dX7_canBy_107 : decode cX7_canBy 107 = .ok (.iconst 0, 1) := by decide +kernel
theorem dX7_canBy_108 : decode cX7_canBy 108 = .ok (.iadd, 1) := by decide +kernel
theorem dX7_canBy_109 : decode cX7_canBy 109 = .ok (.istore 5, 2) := by decide +kernel
theorem dX7_canBy_111 : decode cX7_canBy 111 = .ok (.iinc 6 1, 3) := by decide +kernel
theorem dX7_canBy_114 : decode cX7_canBy 114 = .ok (.goto (-41), 3) := by decide +kernel
theorem dX7_canBy_117 : decode cX7_canBy 117 = .ok (.iload_n 2, 1) := by decide +kernel
theorem dX7_canBy_118 : decode cX7_canBy 118 = .ok (.ifCond .eq 14, 3) := by decide +kernel
theorem dX7_canBy_121 : decode cX7_canBy 121 = .ok (.iload 4, 2) := by decide +kernel
theorem dX7_canBy_123 : decode cX7_canBy 123 = .ok (.iload 5, 2) := by decide +kernel
theorem dX7_canBy_125 : decode cX7_canBy 125 = .ok (.if_icmp .gt 7, 3) := by decide +kernel
theorem dX7_canBy_128 : decode cX7_canBy 128 = .ok (.iconst 1, 1) := by decide +kernel
theorem dX7_canBy_129 : decode cX7_canBy 129 = .ok (.goto 4, 3) := by decide +kernel
theorem dX7_canBy_132 : decode cX7_canBy 132 = .ok (.iconst 0, 1) := by decide +kernel
theorem dX7_canBy_133 : decode cX7_canBy 133 = .ok (.istore_n 2, 1) := by decide +kernel
theorem dX7_canBy_134 : decode cX7_canBy 134 = .ok (.iinc 3 1, 3) := by decide +kernel
theorem dX7_canBy_137 : decode cX7_canBy 137 = .ok (.goto (-129), 3) := by decide +kernel
theorem dX7_canBy_140 : decode cX7_canBy 140 = .ok (.iload_n 2, 1) := by decide +kernel
theorem dX7_canBy_141 : decode cX7_canBy 141 = .ok (.ireturn, 1) := by decide +kernel
theorem dX7_everybody_0 : decode cX7_everybody 0 = .ok (.iconst 1, 1) := by decide +kernel
theorem dX7_everybody_1 : decode cX7_everybody 1 = .ok (.aload_n 0, 1) := by decide +kernel
theorem dX7_everybody_2 : decode cX7_everybody 2 = .ok (.getfield 130, 3) := by decide +kernel
theorem dX7_everybody_5 : decode cX7_everybody 5 = .ok (.ishl, 1) := by decide +kernel
theorem dX7_everybody_6 : decode cX7_everybody 6 = .ok (.iconst 1, 1) := by decide +kernel
theorem dX7_everybody_7 : decode cX7_everybody 7 = .ok (.isub, 1) := by decide +kernel
theorem dX7_everybody_8 : decode cX7_everybody 8 = .ok (.ireturn, 1) := by decide +kernel
set_option maxRecDepth 20000 in
theorem ggX7_can_X7_barred : GoodIn wsX7_can wsX7_barred := goodIn_r _ [6, 7, 8, 9, 10, 11, 12, 5, 13, 14, 15, 16, 17, 18, 53, 54, 55, 56, 57, 58, 59, 60, 61, 62, 63, 64, 65, 66, 67, 68, 69, 70, 71, 72, 73, 74, 75, 76, 77, 78, 79, 80] (by decide +kernel) (by decide +kernel)
set_option maxRecDepth 20000 in
theorem gX7_can_X7_barred : GoodIn wsX7_can (wsV RX7 166 RX7 yX7_barred wsX7_barred) := goodIn_app (goodIn_of _ (by decide +kernel)) ggX7_can_X7_barred
set_option maxRecDepth 20000 in
theorem ggX7_can_X7_everybody : GoodIn wsX7_can wsX7_everybody := goodIn_r _ [22, 23, 53, 54, 55, 56, 57, 58, 59, 60, 61, 62, 63, 64, 65, 66, 67, 68, 69, 70, 71, 72, 73, 74, 75, 76, 77, 78, 79, 80] (by decide +kernel) (by decide +kernel)
set_option maxRecDepth 20000 in
theorem gX7_can_X7_everybody : GoodIn wsX7_can (wsV RX7 194 RX7 yX7_everybody wsX7_everybody) := goodIn_app (goodIn_of _ (by decide +kernel)) ggX7_can_X7_everybody
set_option maxRecDepth 20000 in
theorem ggX7_can_X7_canBy : GoodIn wsX7_can wsX7_canBy := goodIn_r _ [27, 28, 29, 23, 8, 30, 31, 32, 5, 33, 7, 34, 35, 36, 37, 38, 39, 40, 41, 14, 15, 16, 17, 18, 42, 43, 44, 45, 46, 47, 48, 49, 50, 51, 52, 53, 54, 55, 56, 57, 58, 59, 60, 61, 62, 63, 64, 65, 66, 67, 68, 69, 70, 71, 72, 73, 74, 75, 76, 77, 78, 79, 80] (by decide +kernel) (by decide +kernel)
set_option maxRecDepth 20000 in
theorem gX7_can_X7_canBy : GoodIn wsX7_can (wsV RX7 197 RX7 yX7_canBy wsX7_canBy) := goodIn_app (goodIn_of _ (by decide +kernel)) ggX7_can_X7_canBy
theorem dX7_can_0 : decode cX7_can 0 = .ok (.aload_n 0, 1) := by decide +kernel
theorem dX7_can_1 : decode cX7_can 1 = .ok (.iconst 0, 1) := by decide +kernel
theorem dX7_can_2 : decode cX7_can 2 = .ok (.putfield 57, 3) := by decide +kernel
theorem dX7_can_5 : decode cX7_can 5 = .ok (.aload_n 0, 1) := by decide +kernel
theorem dX7_can_6 : decode cX7_can 6 = .ok (.invokevirtual 166, 3) := by decide +kernel
theorem dX7_can_9 : decode cX7_can 9 = .ok (.ifCond .eq 8, 3) := by decide +kernel
theorem dX7_can_12 : decode cX7_can 12 = .ok (.bipush (-9), 2) := by decide +kernel
theorem dX7_can_14 : decode cX7_can 14 = .ok (.goto 19, 3) := by decide +kernel
theorem dX7_can_17 : decode cX7_can 17 = .ok (.aload_n 0, 1) := by decide +kernel
theorem dX7_can_18 : decode cX7_can 18 = .ok (.aload_n 0, 1) := by decide +kernel
theorem dX7_can_19 : decode cX7_can 19 = .ok (.invokevirtual 194, 3) := by decide +kernel
theorem dX7_can_22 : decode cX7_can 22 = .ok (.invokevirtual 197, 3) := by decide +kernel
theorem dX7_can_25 : decode cX7_can 25 = .ok (.ifCond .eq 7, 3) := by decide +kernel
theorem dX7_can_28 : decode cX7_can 28 = .ok (.iconst 1, 1) := by decide +kernel
theorem dX7_can_29 : decode cX7_can 29 = .ok (.goto 4, 3) := by decide +kernel
theorem dX7_can_32 : decode cX7_can 32 = .ok (.iconst 0, 1) := by decide +kernel
theorem dX7_can_33 : decode cX7_can 33 = .ok (.ireturn, 1) := by decide +kernel
set_option maxRecDepth 20000 in
theorem ggX7_cheap_X7_barred : GoodIn wsX7_cheap wsX7_barred := goodIn_r _ [6, 7, 8, 9, 10, 11, 12, 5, 13, 14, 15, 16, 17, 18, 63, 64, 65, 66, 67, 68, 69, 70, 71, 72, 73, 74, 75, 76, 77, 78, 79, 80, 81, 82, 83, 84, 85, 86, 87, 88, 89, 90] (by decide +kernel) (by decide +kernel)
set_option maxRecDepth 20000 in
theorem gX7_cheap_X7_barred : GoodIn wsX7_cheap (wsV RX7 166 RX7 yX7_barred wsX7_barred) := goodIn_app (goodIn_of _ (by decide +kernel)) ggX7_cheap_X7_barred
set_option maxRecDepth 20000 in
theorem ggX7_cheap_X7_everybody : GoodIn wsX7_cheap wsX7_everybody := goodIn_r _ [22, 23, 63, 64, 65, 66, 67, 68, 69, 70, 71, 72, 73, 74, 75, 76, 77, 78, 79, 80, 81, 82, 83, 84, 85, 86, 87, 88, 89, 90] (by decide +kernel) (by decide +kernel)
set_option maxRecDepth 20000 in
theorem gX7_cheap_X7_everybody : GoodIn wsX7_cheap (wsV RX7 194 RX7 yX7_everybody wsX7_everybody) := goodIn_app (goodIn_of _ (by decide +kernel)) ggX7_cheap_X7_everybody
set_option maxRecDepth 20000 in
theorem ggX7_cheap_X7_cheapestBy : GoodIn wsX7_cheap wsX7_cheapestBy := goodIn_r _ [27, 23, 28, 29, 30, 31, 32, 33, 34, 5, 35, 7, 36, 37, 38, 39, 8, 40, 41, 42, 43, 14, 15, 16, 17, 18, 44, 45, 46, 47, 48, 49, 50, 51, 52, 53, 54, 55, 56, 57, 58, 59, 60, 61, 62, 63, 64, 65, 66, 67, 68, 69, 70, 71, 72, 73, 74, 75, 76, 77, 78, 79, 80, 81, 82, 83, 84, 85, 86, 87, 88, 89, 90] (by decide +kernel) (by decide +kernel)
set_option maxRecDepth 20000 in
theorem gX7_cheap_X7_cheapestBy : GoodIn wsX7_cheap (wsV RX7 200 RX7 yX7_cheapestBy wsX7_cheapestBy) := goodIn_app (goodIn_of _ (by decide +kernel)) ggX7_cheap_X7_cheapestBy
theorem dX7_cheap_0 : decode cX7_cheap 0 = .ok (.aload_n 0, 1) := by decide +kernel
theorem dX7_cheap_1 : decode cX7_cheap 1 = .ok (.iconst 0, 1) := by decide +kernel
theorem dX7_cheap_2 : decode cX7_cheap 2 = .ok (.putfield 57, 3) := by decide +kernel
theorem dX7_cheap_5 : decode cX7_cheap 5 = .ok (.aload_n 0, 1) := by decide +kernel
theorem dX7_cheap_6 : decode cX7_cheap 6 = .ok (.invokevirtual 166, 3) := by decide +kernel
theorem dX7_cheap_9 : decode cX7_cheap 9 = .ok (.ifCond .eq 8, 3) := by decide +kernel
theorem dX7_cheap_12 : decode cX7_cheap 12 = .ok (.bipush (-9), 2) := by decide +kernel
theorem dX7_cheap_14 : decode cX7_cheap 14 = .ok (.goto 11, 3) := by decide +kernel
theorem dX7_cheap_17 : decode cX7_cheap 17 = .ok (.aload_n 0, 1) := by decide +kernel
theorem dX7_cheap_18 : decode cX7_cheap 18 = .ok (.aload_n 0, 1) := by decide +kernel
theorem dX7_cheap_19 : decode cX7_cheap 19 = .ok (.invokevirtual 194, 3) := by decide +kernel
theorem dX7_cheap_22 : decode cX7_cheap 22 = .ok (.invokevirtual 200, 3) := by decide +kernel
theorem dX7_cheap_25 : decode cX7_cheap 25 = .ok (.ireturn, 1) := by decide +kernel
set_option maxRecDepth 20000 in
theorem ggX7_leastPeople_X7_barred : GoodIn wsX7_leastPeople wsX7_barred := goodIn_r _ [7, 8, 9, 10, 11, 12, 13, 6, 14, 15, 16, 17, 18, 19, 49, 50, 51, 52, 53, 54, 55, 56, 57, 58, 59, 60, 61, 62, 63, 64, 65, 66, 67, 68, 69, 70, 71, 72, 73, 74, 75, 76] (by decide +kernel) (by decide +kernel)
set_option maxRecDepth 20000 in
theorem gX7_leastPeople_X7_barred : GoodIn wsX7_leastPeople (wsV RX7 166 RX7 yX7_barred wsX7_barred) := goodIn_app (goodIn_of _ (by decide +kernel)) ggX7_leastPeople_X7_barred
set_option maxRecDepth 20000 in
theorem ggX7_leastPeople_X7_ones : GoodIn wsX7_leastPeople wsX7_ones := goodIn_r _ [22] (by decide +kernel) (by decide +kernel)
set_option maxRecDepth 20000 in
theorem gX7_leastPeople_X7_ones : GoodIn wsX7_leastPeople (va_wsS RX7 156 yX7_ones wsX7_ones) := goodIn_app (goodIn_of _ (by decide +kernel)) ggX7_leastPeople_X7_ones
set_option maxRecDepth 20000 in
theorem ggX7_leastPeople_X7_canBy : GoodIn wsX7_leastPeople wsX7_canBy := goodIn_r _ [26, 27, 28, 2, 9, 29, 30, 31, 6, 32, 8, 33, 34, 35, 36, 37, 38, 39, 40, 15, 16, 17, 18, 19, 41, 42, 43, 44, 45, 46, 47, 48, 20, 21, 22, 49, 50, 51, 52, 53, 54, 55, 56, 57, 58, 59, 60, 61, 62, 63, 64, 65, 66, 67, 68, 69, 70, 71, 72, 73, 74, 75, 76] (by decide +kernel) (by decide +kernel)
set_option maxRecDepth 20000 in
theorem gX7_leastPeople_X7_canBy : GoodIn wsX7_leastPeople (wsV RX7 197 RX7 yX7_canBy wsX7_canBy) := goodIn_app (goodIn_of _ (by decide +kernel)) ggX7_leastPeople_X7_canBy
theorem dX7_leastPeople_0 : decode cX7_leastPeople 0 = .ok (.aload_n 0, 1) := by decide +kernel
theorem dX7_leastPeople_1 : decode cX7_leastPeople 1 = .ok (.iconst 0, 1) := by decide +kernel
theorem dX7_leastPeople_2 : decode cX7_leastPeople 2 = .ok (.putfield 57, 3) := by decide +kernel
theorem dX7_leastPeople_5 : decode cX7_leastPeople 5 = .ok (.aload_n 0, 1) := by decide +kernel
theorem dX7_leastPeople_6 : decode cX7_leastPeople 6 = .ok (.invokevirtual 166, 3) := by decide +kernel
theorem dX7_leastPeople_9 : decode cX7_leastPeople 9 = .ok (.ifCond .eq 6, 3) := by decide +kernel
theorem dX7_leastPeople_12 : decode cX7_leastPeople 12 = .ok (.bipush (-9), 2) := by decide +kernel
theorem dX7_leastPeople_14 : decode cX7_leastPeople 14 = .ok (.ireturn, 1) := by decide +kernel
theorem dX7_leastPeople_15 : decode cX7_leastPeople 15 = .ok (.bipush (-9), 2) := by decide +kernel
theorem dX7_leastPeople_17 : decode cX7_leastPeople 17 = .ok (.istore_n 1, 1) := by decide +kernel
theorem dX7_leastPeople_18 : decode cX7_leastPeople 18 = .ok (.iconst 0, 1) := by decide +kernel
theorem dX7_leastPeople_19 : decode cX7_leastPeople 19 = .ok (.istore_n 2, 1) := by decide +kernel
theorem dX7_leastPeople_20 : decode cX7_leastPeople 20 = .ok (.iload_n 2, 1) := by decide +kernel
theorem dX7_leastPeople_21 : decode cX7_leastPeople 21 = .ok (.iconst 1, 1) := by decide +kernel
theorem dX7_leastPeople_22 : decode cX7_leastPeople 22 = .ok (.aload_n 0, 1) := by decide +kernel
theorem dX7_leastPeople_23 : decode cX7_leastPeople 23 = .ok (.getfield 130, 3) := by decide +kernel
theorem dX7_leastPeople_26 : decode cX7_leastPeople 26 = .ok (.ishl, 1) := by decide +kernel
theorem dX7_leastPeople_27 : decode cX7_leastPeople 27 = .ok (.if_icmp .ge 50, 3) := by decide +kernel
theorem dX7_leastPeople_30 : decode cX7_leastPeople 30 = .ok (.iload_n 1, 1) := by decide +kernel
theorem dX7_leastPeople_31 : decode cX7_leastPeople 31 = .ok (.bipush (-9), 2) := by decide +kernel
theorem dX7_leastPeople_33 : decode cX7_leastPeople 33 = .ok (.if_icmp .eq 14, 3) := by decide +kernel
theorem dX7_leastPeople_36 : decode cX7_leastPeople 36 = .ok (.iload_n 2, 1) := by decide +kernel
theorem dX7_leastPeople_37 : decode cX7_leastPeople 37 = .ok (.invokestatic 156, 3) := by decide +kernel
theorem dX7_leastPeople_40 : decode cX7_leastPeople 40 = .ok (.iload_n 1, 1) := by decide +kernel
theorem dX7_leastPeople_41 : decode cX7_leastPeople 41 = .ok (.invokestatic 156, 3) := by decide +kernel
theorem dX7_leastPeople_44 : decode cX7_leastPeople 44 = .ok (.if_icmp .ge 7, 3) := by decide +kernel
theorem dX7_leastPeople_47 : decode cX7_leastPeople 47 = .ok (.iconst 1, 1) := by decide +kernel
theorem dX7_leastPeople_48 : decode cX7_leastPeople 48 = .ok (.goto 4, 3) := by decide +kernel
theorem dX7_leastPeople_51 : decode cX7_leastPeople 51 = .ok (.iconst 0, 1) := by decide +kernel
theorem dX7_leastPeople_52 : decode cX7_leastPeople 52 = .ok (.istore_n 3, 1) := by decide +kernel
theorem dX7_leastPeople_53 : decode cX7_leastPeople 53 = .ok (.iload_n 3, 1) := by decide +kernel
theorem dX7_leastPeople_54 : decode cX7_leastPeople 54 = .ok (.ifCond .eq 15, 3) := by decide +kernel
theorem dX7_leastPeople_57 : decode cX7_leastPeople 57 = .ok (.aload_n 0, 1) := by decide +kernel
theorem dX7_leastPeople_58 : decode cX7_leastPeople 58 = .ok (.iload_n 2, 1) := by decide +kernel
theorem dX7_leastPeople_59 : decode cX7_leastPeople 59 = .ok (.invokevirtual 197, 3) := by decide +kernel
theorem dX7_leastPeople_62 : decode cX7_leastPeople 62 = .ok (.ifCond .eq 7, 3) := by decide +kernel
theorem dX7_leastPeople_65 : decode cX7_leastPeople 65 = .ok (.iload_n 2, 1) := by decide +kernel
theorem dX7_leastPeople_66 : decode cX7_leastPeople 66 = .ok (.goto 4, 3) := by decide +kernel
theorem dX7_leastPeople_69 : decode cX7_leastPeople 69 = .ok (.iload_n 1, 1) := by decide +kernel
theorem dX7_leastPeople_70 : decode cX7_leastPeople 70 = .ok (.istore_n 1, 1) := by decide +kernel
theorem dX7_leastPeople_71 : decode cX7_leastPeople 71 = .ok (.iinc 2 1, 3) := by decide +kernel
theorem dX7_leastPeople_74 : decode cX7_leastPeople 74 = .ok (.goto (-54), 3) := by decide +kernel
theorem dX7_leastPeople_77 : decode cX7_leastPeople 77 = .ok (.iload_n 1, 1) := by decide +kernel
theorem dX7_leastPeople_78 : decode cX7_leastPeople 78 = .ok (.ireturn, 1) := by decide +kernel
set_option maxRecDepth 20000 in
theorem ggX7_lost_X7_barred : GoodIn wsX7_lost wsX7_barred := goodIn_r _ [9, 4, 3, 10, 11, 12, 13, 8, 14, 15, 16, 17, 18, 19, 32, 33, 34, 35, 36, 37, 38, 39, 40, 41, 42, 43, 44, 45, 46, 47, 48, 49, 50, 51, 52, 53, 54, 55, 56, 57, 58, 59] (by decide +kernel) (by decide +kernel)
set_option maxRecDepth 20000 in
theorem gX7_lost_X7_barred : GoodIn wsX7_lost (wsV RX7 166 RX7 yX7_barred wsX7_barred) := goodIn_app (goodIn_of _ (by decide +kernel)) ggX7_lost_X7_barred
set_option maxRecDepth 20000 in
theorem ggX7_lost_X7_isDue : GoodIn wsX7_lost wsX7_isDue := goodIn_r _ [23, 4, 15, 3, 16, 17, 18, 8, 19, 32, 33, 34, 35, 36, 37, 38, 39, 40, 41, 42, 43, 44, 45, 46, 47, 48, 49, 50, 51, 52, 53, 54, 55, 56, 57, 58, 59] (by decide +kernel) (by decide +kernel)
set_option maxRecDepth 20000 in
theorem gX7_lost_X7_isDue : GoodIn wsX7_lost (wsV RX7 170 RX7 yX7_isDue wsX7_isDue) := goodIn_app (goodIn_of _ (by decide +kernel)) ggX7_lost_X7_isDue
set_option maxRecDepth 20000 in
theorem ggX7_lost_X7_handsOf : GoodIn wsX7_lost wsX7_handsOf := goodIn_r _ [27, 4, 28, 16, 17, 18, 8, 19, 3, 29, 30, 31, 32, 33, 34, 35, 36, 37, 38, 39, 40, 41, 42, 43, 44, 45, 46, 47, 48, 49, 50, 51, 52, 53, 54, 55, 56, 57, 58, 59] (by decide +kernel) (by decide +kernel)
set_option maxRecDepth 20000 in
theorem gX7_lost_X7_handsOf : GoodIn wsX7_lost (wsV RX7 159 RX7 yX7_handsOf wsX7_handsOf) := goodIn_app (goodIn_of _ (by decide +kernel)) ggX7_lost_X7_handsOf
theorem dX7_lost_0 : decode cX7_lost 0 = .ok (.aload_n 0, 1) := by decide +kernel
theorem dX7_lost_1 : decode cX7_lost 1 = .ok (.iconst 0, 1) := by decide +kernel
theorem dX7_lost_2 : decode cX7_lost 2 = .ok (.putfield 57, 3) := by decide +kernel
theorem dX7_lost_5 : decode cX7_lost 5 = .ok (.aload_n 0, 1) := by decide +kernel
theorem dX7_lost_6 : decode cX7_lost 6 = .ok (.invokevirtual 166, 3) := by decide +kernel
theorem dX7_lost_9 : decode cX7_lost 9 = .ok (.ifCond .eq 6, 3) := by decide +kernel
theorem dX7_lost_12 : decode cX7_lost 12 = .ok (.bipush (-9), 2) := by decide +kernel
theorem dX7_lost_14 : decode cX7_lost 14 = .ok (.ireturn, 1) := by decide +kernel
theorem dX7_lost_15 : decode cX7_lost 15 = .ok (.iconst 0, 1) := by decide +kernel
theorem dX7_lost_16 : decode cX7_lost 16 = .ok (.istore_n 1, 1) := by decide +kernel
theorem dX7_lost_17 : decode cX7_lost 17 = .ok (.iconst 0, 1) := by decide +kernel
theorem dX7_lost_18 : decode cX7_lost 18 = .ok (.istore_n 2, 1) := by decide +kernel
theorem dX7_lost_19 : decode cX7_lost 19 = .ok (.iload_n 2, 1) := by decide +kernel
theorem dX7_lost_20 : decode cX7_lost 20 = .ok (.aload_n 0, 1) := by decide +kernel
theorem dX7_lost_21 : decode cX7_lost 21 = .ok (.getfield 130, 3) := by decide +kernel
theorem dX7_lost_24 : decode cX7_lost 24 = .ok (.if_icmp .ge 29, 3) := by decide +kernel
theorem dX7_lost_27 : decode cX7_lost 27 = .ok (.iload_n 1, 1) := by decide +kernel
theorem dX7_lost_28 : decode cX7_lost 28 = .ok (.aload_n 0, 1) := by decide +kernel
theorem dX7_lost_29 : decode cX7_lost 29 = .ok (.getfield 28, 3) := by decide +kernel
theorem dX7_lost_32 : decode cX7_lost 32 = .ok (.bipush 16, 2) := by decide +kernel
theorem dX7_lost_34 : decode cX7_lost 34 = .ok (.iload_n 2, 1) := by decide +kernel
theorem dX7_lost_35 : decode cX7_lost 35 = .ok (.iadd, 1) := by decide +kernel
theorem dX7_lost_36 : decode cX7_lost 36 = .ok (.iaload, 1) := by decide +kernel
theorem dX7_lost_37 : decode cX7_lost 37 = .ok (.ifCond .le 7, 3) := by decide +kernel
theorem dX7_lost_40 : decode cX7_lost 40 = .ok (.iconst 1, 1) := by decide +kernel
theorem dX7_lost_41 : decode cX7_lost 41 = .ok (.goto 4, 3) := by decide +kernel
theorem dX7_lost_44 : decode cX7_lost 44 = .ok (.iconst 0, 1) := by decide +kernel
theorem dX7_lost_45 : decode cX7_lost 45 = .ok (.iadd, 1) := by decide +kernel
theorem dX7_lost_46 : decode cX7_lost 46 = .ok (.istore_n 1, 1) := by decide +kernel
theorem dX7_lost_47 : decode cX7_lost 47 = .ok (.iinc 2 1, 3) := by decide +kernel
theorem dX7_lost_50 : decode cX7_lost 50 = .ok (.goto (-31), 3) := by decide +kernel
theorem dX7_lost_53 : decode cX7_lost 53 = .ok (.iconst 0, 1) := by decide +kernel
theorem dX7_lost_54 : decode cX7_lost 54 = .ok (.istore_n 2, 1) := by decide +kernel
theorem dX7_lost_55 : decode cX7_lost 55 = .ok (.iconst 0, 1) := by decide +kernel
theorem dX7_lost_56 : decode cX7_lost 56 = .ok (.istore_n 3, 1) := by decide +kernel
theorem dX7_lost_57 : decode cX7_lost 57 = .ok (.iload_n 3, 1) := by decide +kernel
theorem dX7_lost_58 : decode cX7_lost 58 = .ok (.aload_n 0, 1) := by decide +kernel
theorem dX7_lost_59 : decode cX7_lost 59 = .ok (.getfield 133, 3) := by decide +kernel
theorem dX7_lost_62 : decode cX7_lost 62 = .ok (.if_icmp .ge 36, 3) := by decide +kernel
theorem dX7_lost_65 : decode cX7_lost 65 = .ok (.iload_n 2, 1) := by decide +kernel
theorem dX7_lost_66 : decode cX7_lost 66 = .ok (.aload_n 0, 1) := by decide +kernel
theorem dX7_lost_67 : decode cX7_lost 67 = .ok (.iload_n 3, 1) := by decide +kernel
theorem dX7_lost_68 : decode cX7_lost 68 = .ok (.invokevirtual 170, 3) := by decide +kernel
theorem dX7_lost_71 : decode cX7_lost 71 = .ok (.ifCond .eq 18, 3) := by decide +kernel
theorem dX7_lost_74 : decode cX7_lost 74 = .ok (.aload_n 0, 1) := by decide +kernel
theorem dX7_lost_75 : decode cX7_lost 75 = .ok (.iload_n 3, 1) := by decide +kernel
theorem dX7_lost_76 : decode cX7_lost 76 = .ok (.invokevirtual 159, 3) := by decide +kernel
theorem dX7_lost_79 : decode cX7_lost 79 = .ok (.iload_n 1, 1) := by decide +kernel
theorem dX7_lost_80 : decode cX7_lost 80 = .ok (.if_icmp .le 9, 3) := by decide +kernel
theorem dX7_lost_83 : decode cX7_lost 83 = .ok (.iconst 1, 1) := by decide +kernel
theorem dX7_lost_84 : decode cX7_lost 84 = .ok (.iload_n 3, 1) := by decide +kernel
theorem dX7_lost_85 : decode cX7_lost 85 = .ok (.ishl, 1) := by decide +kernel
theorem dX7_lost_86 : decode cX7_lost 86 = .ok (.goto 4, 3) := by decide +kernel
theorem dX7_lost_89 : decode cX7_lost 89 = .ok (.iconst 0, 1) := by decide +kernel
theorem dX7_lost_90 : decode cX7_lost 90 = .ok (.ior, 1) := by decide +kernel
theorem dX7_lost_91 : decode cX7_lost 91 = .ok (.istore_n 2, 1) := by decide +kernel
theorem dX7_lost_92 : decode cX7_lost 92 = .ok (.iinc 3 1, 3) := by decide +kernel
theorem dX7_lost_95 : decode cX7_lost 95 = .ok (.goto (-38), 3) := by decide +kernel
theorem dX7_lost_98 : decode cX7_lost 98 = .ok (.iload_n 2, 1) := by decide +kernel
theorem dX7_lost_99 : decode cX7_lost 99 = .ok (.ireturn, 1) := by decide +kernel
set_option maxRecDepth 20000 in
theorem ggX7_due_X7_gathersDue : GoodIn wsX7_due wsX7_gathersDue := goodIn_r _ [7, 2, 8, 9, 10, 11, 12, 6, 13, 14, 15, 16, 17, 18, 19, 20, 21, 22, 23, 24, 25, 26, 27, 28, 29, 30, 31, 41, 42, 43, 44, 45, 46, 47, 48, 49, 50, 51, 52, 53, 54, 55, 56, 57, 58, 59, 60, 61, 62, 63, 64, 65, 66, 67, 68] (by decide +kernel) (by decide +kernel)
set_option maxRecDepth 20000 in
theorem gX7_due_X7_gathersDue : GoodIn wsX7_due (wsV RX7 185 RX7 yX7_gathersDue wsX7_gathersDue) := goodIn_app (goodIn_of _ (by decide +kernel)) ggX7_due_X7_gathersDue
set_option maxRecDepth 20000 in
theorem ggX7_due_X7_barred : GoodIn wsX7_due wsX7_barred := goodIn_r _ [35, 8, 14, 36, 37, 38, 39, 6, 40, 19, 20, 21, 22, 23, 41, 42, 43, 44, 45, 46, 47, 48, 49, 50, 51, 52, 53, 54, 55, 56, 57, 58, 59, 60, 61, 62, 63, 64, 65, 66, 67, 68] (by decide +kernel) (by decide +kernel)
set_option maxRecDepth 20000 in
theorem gX7_due_X7_barred : GoodIn wsX7_due (wsV RX7 166 RX7 yX7_barred wsX7_barred) := goodIn_app (goodIn_of _ (by decide +kernel)) ggX7_due_X7_barred
theorem dX7_due_0 : decode cX7_due 0 = .ok (.aload_n 0, 1) := by decide +kernel
theorem dX7_due_1 : decode cX7_due 1 = .ok (.iconst 0, 1) := by decide +kernel
theorem dX7_due_2 : decode cX7_due 2 = .ok (.putfield 57, 3) := by decide +kernel
theorem dX7_due_5 : decode cX7_due 5 = .ok (.iload_n 1, 1) := by decide +kernel
theorem dX7_due_6 : decode cX7_due 6 = .ok (.ifCond .ne 12, 3) := by decide +kernel
theorem dX7_due_9 : decode cX7_due 9 = .ok (.aload_n 0, 1) := by decide +kernel
theorem dX7_due_10 : decode cX7_due 10 = .ok (.invokevirtual 185, 3) := by decide +kernel
theorem dX7_due_13 : decode cX7_due 13 = .ok (.aload_n 0, 1) := by decide +kernel
theorem dX7_due_14 : decode cX7_due 14 = .ok (.getfield 179, 3) := by decide +kernel
theorem dX7_due_17 : decode cX7_due 17 = .ok (.ireturn, 1) := by decide +kernel
theorem dX7_due_18 : decode cX7_due 18 = .ok (.iload_n 1, 1) := by decide +kernel
theorem dX7_due_19 : decode cX7_due 19 = .ok (.iconst 1, 1) := by decide +kernel
theorem dX7_due_20 : decode cX7_due 20 = .ok (.if_icmp .ne 10, 3) := by decide +kernel
theorem dX7_due_23 : decode cX7_due 23 = .ok (.aload_n 0, 1) := by decide +kernel
theorem dX7_due_24 : decode cX7_due 24 = .ok (.invokevirtual 166, 3) := by decide +kernel
theorem dX7_due_27 : decode cX7_due 27 = .ok (.goto 4, 3) := by decide +kernel
theorem dX7_due_30 : decode cX7_due 30 = .ok (.iconst (-1), 1) := by decide +kernel
theorem dX7_due_31 : decode cX7_due 31 = .ok (.ireturn, 1) := by decide +kernel
set_option maxRecDepth 20000 in
theorem ggX7_moved_X7_in : GoodIn wsX7_moved wsX7_in := goodIn_r _ [9] (by decide +kernel) (by decide +kernel)
set_option maxRecDepth 20000 in
theorem gX7_moved_X7_in : GoodIn wsX7_moved (va_wsS RX7 60 yX7_in wsX7_in) := goodIn_app (goodIn_of _ (by decide +kernel)) ggX7_moved_X7_in
set_option maxRecDepth 20000 in
theorem ggX7_moved_X7_ones : GoodIn wsX7_moved wsX7_ones := goodIn_r _ [12] (by decide +kernel) (by decide +kernel)
set_option maxRecDepth 20000 in
theorem gX7_moved_X7_ones : GoodIn wsX7_moved (va_wsS RX7 156 yX7_ones wsX7_ones) := goodIn_app (goodIn_of _ (by decide +kernel)) ggX7_moved_X7_ones
set_option maxRecDepth 20000 in
theorem ggX7_moved_X7_waysToCarry : GoodIn wsX7_moved wsX7_waysToCarry := goodIn_r _ [16, 17, 18, 19, 20, 21, 22, 23, 24, 25, 26, 27, 28, 29, 30, 31, 32, 33, 34, 35, 36, 37, 38, 39, 40, 41, 42, 43, 44, 45, 46, 47] (by decide +kernel) (by decide +kernel)
set_option maxRecDepth 20000 in
theorem gX7_moved_X7_waysToCarry : GoodIn wsX7_moved (wsV RX7 203 RX7 yX7_waysToCarry wsX7_waysToCarry) := goodIn_app (goodIn_of _ (by decide +kernel)) ggX7_moved_X7_waysToCarry
theorem dX7_moved_0 : decode cX7_moved 0 = .ok (.aload_n 0, 1) := by decide +kernel
theorem dX7_moved_1 : decode cX7_moved 1 = .ok (.iconst 0, 1) := by decide +kernel
theorem dX7_moved_2 : decode cX7_moved 2 = .ok (.putfield 57, 3) := by decide +kernel
theorem dX7_moved_5 : decode cX7_moved 5 = .ok (.iload_n 1, 1) := by decide +kernel
theorem dX7_moved_6 : decode cX7_moved 6 = .ok (.iconst 0, 1) := by decide +kernel
theorem dX7_moved_7 : decode cX7_moved 7 = .ok (.iconst 1, 1) := by decide +kernel
theorem dX7_moved_8 : decode cX7_moved 8 = .ok (.invokestatic 60, 3) := by decide +kernel
theorem dX7_moved_11 : decode cX7_moved 11 = .ok (.ifCond .eq 12, 3) := by decide +kernel
theorem dX7_moved_14 : decode cX7_moved 14 = .ok (.iload_n 2, 1) := by decide +kernel
theorem dX7_moved_15 : decode cX7_moved 15 = .ok (.iconst 0, 1) := by decide +kernel
theorem dX7_moved_16 : decode cX7_moved 16 = .ok (.iconst 1, 1) := by decide +kernel
theorem dX7_moved_17 : decode cX7_moved 17 = .ok (.invokestatic 60, 3) := by decide +kernel
theorem dX7_moved_20 : decode cX7_moved 20 = .ok (.ifCond .ne 5, 3) := by decide +kernel
theorem dX7_moved_23 : decode cX7_moved 23 = .ok (.iconst (-1), 1) := by decide +kernel
theorem dX7_moved_24 : decode cX7_moved 24 = .ok (.ireturn, 1) := by decide +kernel
theorem dX7_moved_25 : decode cX7_moved 25 = .ok (.aload_n 0, 1) := by decide +kernel
theorem dX7_moved_26 : decode cX7_moved 26 = .ok (.getfield 34, 3) := by decide +kernel
theorem dX7_moved_29 : decode cX7_moved 29 = .ok (.iload_n 1, 1) := by decide +kernel
theorem dX7_moved_30 : decode cX7_moved 30 = .ok (.baload, 1) := by decide +kernel
theorem dX7_moved_31 : decode cX7_moved 31 = .ok (.ifCond .ne 6, 3) := by decide +kernel
theorem dX7_moved_34 : decode cX7_moved 34 = .ok (.bipush (-2), 2) := by decide +kernel
theorem dX7_moved_36 : decode cX7_moved 36 = .ok (.ireturn, 1) := by decide +kernel
theorem dX7_moved_37 : decode cX7_moved 37 = .ok (.iconst 0, 1) := by decide +kernel
theorem dX7_moved_38 : decode cX7_moved 38 = .ok (.istore_n 3, 1) := by decide +kernel
theorem dX7_moved_39 : decode cX7_moved 39 = .ok (.iconst 0, 1) := by decide +kernel
theorem dX7_moved_40 : decode cX7_moved 40 = .ok (.istore 4, 2) := by decide +kernel
theorem dX7_moved_42 : decode cX7_moved 42 = .ok (.iload 4, 2) := by decide +kernel
theorem dX7_moved_44 : decode cX7_moved 44 = .ok (.aload_n 0, 1) := by decide +kernel
theorem dX7_moved_45 : decode cX7_moved 45 = .ok (.getfield 133, 3) := by decide +kernel
theorem dX7_moved_48 : decode cX7_moved 48 = .ok (.if_icmp .ge 42, 3) := by decide +kernel
theorem dX7_moved_51 : decode cX7_moved 51 = .ok (.iload_n 3, 1) := by decide +kernel
theorem dX7_moved_52 : decode cX7_moved 52 = .ok (.aload_n 0, 1) := by decide +kernel
theorem dX7_moved_53 : decode cX7_moved 53 = .ok (.getfield 28, 3) := by decide +kernel
theorem dX7_moved_56 : decode cX7_moved 56 = .ok (.iload 4, 2) := by decide +kernel
theorem dX7_moved_58 : decode cX7_moved 58 = .ok (.iaload, 1) := by decide +kernel
theorem dX7_moved_59 : decode cX7_moved 59 = .ok (.aload_n 0, 1) := by decide +kernel
theorem dX7_moved_60 : decode cX7_moved 60 = .ok (.getfield 31, 3) := by decide +kernel
theorem dX7_moved_63 : decode cX7_moved 63 = .ok (.bipush 21, 2) := by decide +kernel
theorem dX7_moved_65 : decode cX7_moved 65 = .ok (.iload_n 1, 1) := by decide +kernel
theorem dX7_moved_66 : decode cX7_moved 66 = .ok (.imul, 1) := by decide +kernel
theorem dX7_moved_67 : decode cX7_moved 67 = .ok (.iload 4, 2) := by decide +kernel
theorem dX7_moved_69 : decode cX7_moved 69 = .ok (.iadd, 1) := by decide +kernel
theorem dX7_moved_70 : decode cX7_moved 70 = .ok (.iaload, 1) := by decide +kernel
theorem dX7_moved_71 : decode cX7_moved 71 = .ok (.if_icmp .eq 10, 3) := by decide +kernel
theorem dX7_moved_74 : decode cX7_moved 74 = .ok (.iconst 1, 1) := by decide +kernel
theorem dX7_moved_75 : decode cX7_moved 75 = .ok (.iload 4, 2) := by decide +kernel
theorem dX7_moved_77 : decode cX7_moved 77 = .ok (.ishl, 1) := by decide +kernel
theorem dX7_moved_78 : decode cX7_moved 78 = .ok (.goto 4, 3) := by decide +kernel
theorem dX7_moved_81 : decode cX7_moved 81 = .ok (.iconst 0, 1) := by decide +kernel
theorem dX7_moved_82 : decode cX7_moved 82 = .ok (.ior, 1) := by decide +kernel
theorem dX7_moved_83 : decode cX7_moved 83 = .ok (.istore_n 3, 1) := by decide +kernel
theorem dX7_moved_84 : decode cX7_moved 84 = .ok (.iinc 4 1, 3) := by decide +kernel
theorem dX7_moved_87 : decode cX7_moved 87 = .ok (.goto (-45), 3) := by decide +kernel
theorem dX7_moved_90 : decode cX7_moved 90 = .ok (.iload_n 2, 1) := by decide +kernel
theorem dX7_moved_91 : decode cX7_moved 91 = .ok (.ifCond .ne 7, 3) := by decide +kernel
theorem dX7_moved_94 : decode cX7_moved 94 = .ok (.iload_n 3, 1) := by decide +kernel
theorem dX7_moved_95 : decode cX7_moved 95 = .ok (.goto 11, 3) := by decide +kernel
theorem dX7_moved_98 : decode cX7_moved 98 = .ok (.aload_n 0, 1) := by decide +kernel
theorem dX7_moved_99 : decode cX7_moved 99 = .ok (.iload_n 3, 1) := by decide +kernel
theorem dX7_moved_100 : decode cX7_moved 100 = .ok (.invokestatic 156, 3) := by decide +kernel
theorem dX7_moved_103 : decode cX7_moved 103 = .ok (.invokevirtual 203, 3) := by decide +kernel
theorem dX7_moved_106 : decode cX7_moved 106 = .ok (.ireturn, 1) := by decide +kernel
theorem dX7_waysToCarry_0 : decode cX7_waysToCarry 0 = .ok (.iconst 1, 1) := by decide +kernel
theorem dX7_waysToCarry_1 : decode cX7_waysToCarry 1 = .ok (.istore_n 2, 1) := by decide +kernel
theorem dX7_waysToCarry_2 : decode cX7_waysToCarry 2 = .ok (.iconst 0, 1) := by decide +kernel
theorem dX7_waysToCarry_3 : decode cX7_waysToCarry 3 = .ok (.istore_n 3, 1) := by decide +kernel
theorem dX7_waysToCarry_4 : decode cX7_waysToCarry 4 = .ok (.iload_n 3, 1) := by decide +kernel
theorem dX7_waysToCarry_5 : decode cX7_waysToCarry 5 = .ok (.iload_n 1, 1) := by decide +kernel
theorem dX7_waysToCarry_6 : decode cX7_waysToCarry 6 = .ok (.if_icmp .ge 16, 3) := by decide +kernel
theorem dX7_waysToCarry_9 : decode cX7_waysToCarry 9 = .ok (.iload_n 2, 1) := by decide +kernel
theorem dX7_waysToCarry_10 : decode cX7_waysToCarry 10 = .ok (.aload_n 0, 1) := by decide +kernel
theorem dX7_waysToCarry_11 : decode cX7_waysToCarry 11 = .ok (.getfield 130, 3) := by decide +kernel
theorem dX7_waysToCarry_14 : decode cX7_waysToCarry 14 = .ok (.imul, 1) := by decide +kernel
theorem dX7_waysToCarry_15 : decode cX7_waysToCarry 15 = .ok (.istore_n 2, 1) := by decide +kernel
theorem dX7_waysToCarry_16 : decode cX7_waysToCarry 16 = .ok (.iinc 3 1, 3) := by decide +kernel
theorem dX7_waysToCarry_19 : decode cX7_waysToCarry 19 = .ok (.goto (-15), 3) := by decide +kernel
theorem dX7_waysToCarry_22 : decode cX7_waysToCarry 22 = .ok (.iconst 0, 1) := by decide +kernel
theorem dX7_waysToCarry_23 : decode cX7_waysToCarry 23 = .ok (.istore_n 3, 1) := by decide +kernel
theorem dX7_waysToCarry_24 : decode cX7_waysToCarry 24 = .ok (.iconst 0, 1) := by decide +kernel
theorem dX7_waysToCarry_25 : decode cX7_waysToCarry 25 = .ok (.istore 4, 2) := by decide +kernel
theorem dX7_waysToCarry_27 : decode cX7_waysToCarry 27 = .ok (.iload 4, 2) := by decide +kernel
theorem dX7_waysToCarry_29 : decode cX7_waysToCarry 29 = .ok (.iload_n 2, 1) := by decide +kernel
theorem dX7_waysToCarry_30 : decode cX7_waysToCarry 30 = .ok (.if_icmp .ge 125, 3) := by decide +kernel
theorem dX7_waysToCarry_33 : decode cX7_waysToCarry 33 = .ok (.iconst 0, 1) := by decide +kernel
theorem dX7_waysToCarry_34 : decode cX7_waysToCarry 34 = .ok (.istore 5, 2) := by decide +kernel
theorem dX7_waysToCarry_36 : decode cX7_waysToCarry 36 = .ok (.iload 5, 2) := by decide +kernel
theorem dX7_waysToCarry_38 : decode cX7_waysToCarry 38 = .ok (.iconst 4, 1) := by decide +kernel
theorem dX7_waysToCarry_39 : decode cX7_waysToCarry 39 = .ok (.if_icmp .ge 17, 3) := by decide +kernel
theorem dX7_waysToCarry_42 : decode cX7_waysToCarry 42 = .ok (.aload_n 0, 1) := by decide +kernel
theorem dX7_waysToCarry_43 : decode cX7_waysToCarry 43 = .ok (.getfield 47, 3) := by decide +kernel
theorem dX7_waysToCarry_46 : decode cX7_waysToCarry 46 = .ok (.iload 5, 2) := by decide +kernel
theorem dX7_waysToCarry_48 : decode cX7_waysToCarry 48 = .ok (.iconst 0, 1) := by decide +kernel
theorem dX7_waysToCarry_49 : decode cX7_waysToCarry 49 = .ok (.iastore, 1) := by decide +kernel
theorem dX7_waysToCarry_50 : decode cX7_waysToCarry 50 = .ok (.iinc 5 1, 3) := by decide +kernel
theorem dX7_waysToCarry_53 : decode cX7_waysToCarry 53 = .ok (.goto (-17), 3) := by decide +kernel
theorem dX7_waysToCarry_56 : decode cX7_waysToCarry 56 = .ok (.iload 4, 2) := by decide +kernel
theorem dX7_waysToCarry_58 : decode cX7_waysToCarry 58 = .ok (.istore 5, 2) := by decide +kernel
theorem dX7_waysToCarry_60 : decode cX7_waysToCarry 60 = .ok (.iconst 1, 1) := by decide +kernel
theorem dX7_waysToCarry_61 : decode cX7_waysToCarry 61 = .ok (.istore 6, 2) := by decide +kernel
theorem dX7_waysToCarry_63 : decode cX7_waysToCarry 63 = .ok (.iconst 0, 1) := by decide +kernel
theorem dX7_waysToCarry_64 : decode cX7_waysToCarry 64 = .ok (.istore 7, 2) := by decide +kernel
theorem dX7_waysToCarry_66 : decode cX7_waysToCarry 66 = .ok (.iload 7, 2) := by decide +kernel
theorem dX7_waysToCarry_68 : decode cX7_waysToCarry 68 = .ok (.iload_n 1, 1) := by decide +kernel
theorem dX7_waysToCarry_69 : decode cX7_waysToCarry 69 = .ok (.if_icmp .ge 67, 3) := by decide +kernel
theorem dX7_waysToCarry_72 : decode cX7_waysToCarry 72 = .ok (.iload 5, 2) := by decide +kernel
theorem dX7_waysToCarry_74 : decode cX7_waysToCarry 74 = .ok (.aload_n 0, 1) := by decide +kernel
theorem dX7_waysToCarry_75 : decode cX7_waysToCarry 75 = .ok (.getfield 130, 3) := by decide +kernel
theorem dX7_waysToCarry_78 : decode cX7_waysToCarry 78 = .ok (.irem, 1) := by decide +kernel
theorem dX7_waysToCarry_79 : decode cX7_waysToCarry 79 = .ok (.istore 8, 2) := by decide +kernel
theorem dX7_waysToCarry_81 : decode cX7_waysToCarry 81 = .ok (.iload 5, 2) := by decide +kernel
theorem dX7_waysToCarry_83 : decode cX7_waysToCarry 83 = .ok (.aload_n 0, 1) := by decide +kernel
theorem dX7_waysToCarry_84 : decode cX7_waysToCarry 84 = .ok (.getfield 130, 3) := by decide +kernel
theorem dX7_waysToCarry_87 : decode cX7_waysToCarry 87 = .ok (.idiv, 1) := by decide +kernel
theorem dX7_waysToCarry_88 : decode cX7_waysToCarry 88 = .ok (.istore 5, 2) := by decide +kernel
theorem dX7_waysToCarry_90 : decode cX7_waysToCarry 90 = .ok (.aload_n 0, 1) := by decide +kernel
theorem dX7_waysToCarry_91 : decode cX7_waysToCarry 91 = .ok (.getfield 47, 3) := by decide +kernel
theorem dX7_waysToCarry_94 : decode cX7_waysToCarry 94 = .ok (.iload 8, 2) := by decide +kernel
theorem dX7_waysToCarry_96 : decode cX7_waysToCarry 96 = .ok (.dup2, 1) := by decide +kernel
theorem dX7_waysToCarry_97 : decode cX7_waysToCarry 97 = .ok (.iaload, 1) := by decide +kernel
theorem dX7_waysToCarry_98 : decode cX7_waysToCarry 98 = .ok (.iconst 1, 1) := by decide +kernel
theorem dX7_waysToCarry_99 : decode cX7_waysToCarry 99 = .ok (.iadd, 1) := by decide +kernel
theorem dX7_waysToCarry_100 : decode cX7_waysToCarry 100 = .ok (.iastore, 1) := by decide +kernel
theorem dX7_waysToCarry_101 : decode cX7_waysToCarry 101 = .ok (.iload 6, 2) := by decide +kernel
theorem dX7_waysToCarry_103 : decode cX7_waysToCarry 103 = .ok (.ifCond .eq 24, 3) := by decide +kernel
theorem dX7_waysToCarry_106 : decode cX7_waysToCarry 106 = .ok (.aload_n 0, 1) := by decide +kernel
theorem dX7_waysToCarry_107 : decode cX7_waysToCarry 107 = .ok (.getfield 47, 3) := by decide +kernel
theorem dX7_waysToCarry_110 : decode cX7_waysToCarry 110 = .ok (.iload 8, 2) := by decide +kernel
theorem dX7_waysToCarry_112 : decode cX7_waysToCarry 112 = .ok (.iaload, 1) := by decide +kernel
theorem dX7_waysToCarry_113 : decode cX7_waysToCarry 113 = .ok (.aload_n 0, 1) := by decide +kernel
theorem dX7_waysToCarry_114 : decode cX7_waysToCarry 114 = .ok (.getfield 13, 3) := by decide +kernel
theorem dX7_waysToCarry_117 : decode cX7_waysToCarry 117 = .ok (.iload 8, 2) := by decide +kernel
theorem dX7_waysToCarry_119 : decode cX7_waysToCarry 119 = .ok (.iaload, 1) := by decide +kernel
theorem dX7_waysToCarry_120 : decode cX7_waysToCarry 120 = .ok (.if_icmp .gt 7, 3) := by decide +kernel
theorem dX7_waysToCarry_123 : decode cX7_waysToCarry 123 = .ok (.iconst 1, 1) := by decide +kernel
theorem dX7_waysToCarry_124 : decode cX7_waysToCarry 124 = .ok (.goto 4, 3) := by decide +kernel
theorem dX7_waysToCarry_127 : decode cX7_waysToCarry 127 = .ok (.iconst 0, 1) := by decide +kernel
theorem dX7_waysToCarry_128 : decode cX7_waysToCarry 128 = .ok (.istore 6, 2) := by decide +kernel
theorem dX7_waysToCarry_130 : decode cX7_waysToCarry 130 = .ok (.iinc 7 1, 3) := by decide +kernel
theorem dX7_waysToCarry_133 : decode cX7_waysToCarry 133 = .ok (.goto (-67), 3) := by decide +kernel
theorem dX7_waysToCarry_136 : decode cX7_waysToCarry 136 = .ok (.iload_n 3, 1) := by decide +kernel
theorem dX7_waysToCarry_137 : decode cX7_waysToCarry 137 = .ok (.iload 6, 2) := by decide +kernel
theorem dX7_waysToCarry_139 : decode cX7_waysToCarry 139 = .ok (.ifCond .eq 7, 3) := by decide +kernel
theorem dX7_waysToCarry_142 : decode cX7_waysToCarry 142 = .ok (.iconst 1, 1) := by decide +kernel
theorem dX7_waysToCarry_143 : decode cX7_waysToCarry 143 = .ok (.goto 4, 3) := by decide +kernel
theorem dX7_waysToCarry_146 : decode cX7_waysToCarry 146 = .ok (.iconst 0, 1) := by decide +kernel
theorem dX7_waysToCarry_147 : decode cX7_waysToCarry 147 = .ok (.iadd, 1) := by decide +kernel
theorem dX7_waysToCarry_148 : decode cX7_waysToCarry 148 = .ok (.istore_n 3, 1) := by decide +kernel
theorem dX7_waysToCarry_149 : decode cX7_waysToCarry 149 = .ok (.iinc 4 1, 3) := by decide +kernel
theorem dX7_waysToCarry_152 : decode cX7_waysToCarry 152 = .ok (.goto (-125), 3) := by decide +kernel
theorem dX7_waysToCarry_155 : decode cX7_waysToCarry 155 = .ok (.iload_n 3, 1) := by decide +kernel
theorem dX7_waysToCarry_156 : decode cX7_waysToCarry 156 = .ok (.ireturn, 1) := by decide +kernel
set_option maxRecDepth 20000 in
theorem ggX7_chain_X7_isRoom : GoodIn wsX7_chain wsX7_isRoom := goodIn_r _ [11, 12, 13, 14, 10, 15, 19, 20, 21, 22, 23, 24, 25, 26, 27, 28, 29, 30, 31, 32, 33, 34, 35, 36, 37, 38, 39, 40, 41, 42, 43, 44, 45, 46] (by decide +kernel) (by decide +kernel)
set_option maxRecDepth 20000 in
theorem gX7_chain_X7_isRoom : GoodIn wsX7_chain (wsV RX7 153 RX7 yX7_isRoom wsX7_isRoom) := goodIn_app (goodIn_of _ (by decide +kernel)) ggX7_chain_X7_isRoom
set_option maxRecDepth 20000 in
theorem ggX7_chain_X7_in : GoodIn wsX7_chain wsX7_in := goodIn_r _ [15] (by decide +kernel) (by decide +kernel)
set_option maxRecDepth 20000 in
theorem gX7_chain_X7_in : GoodIn wsX7_chain (va_wsS RX7 60 yX7_in wsX7_in) := goodIn_app (goodIn_of _ (by decide +kernel)) ggX7_chain_X7_in
set_option maxRecDepth 20000 in
theorem ggX7_chain_X7_greater : GoodIn wsX7_chain wsX7_greater := goodIn_r _ [18] (by decide +kernel) (by decide +kernel)
set_option maxRecDepth 20000 in
theorem gX7_chain_X7_greater : GoodIn wsX7_chain (va_wsS RX7 150 yX7_greater wsX7_greater) := goodIn_app (goodIn_of _ (by decide +kernel)) ggX7_chain_X7_greater
theorem dX7_chain_0 : decode cX7_chain 0 = .ok (.aload_n 0, 1) := by decide +kernel
theorem dX7_chain_1 : decode cX7_chain 1 = .ok (.iconst 0, 1) := by decide +kernel
theorem dX7_chain_2 : decode cX7_chain 2 = .ok (.putfield 57, 3) := by decide +kernel
theorem dX7_chain_5 : decode cX7_chain 5 = .ok (.aload_n 0, 1) := by decide +kernel
theorem dX7_chain_6 : decode cX7_chain 6 = .ok (.iload_n 1, 1) := by decide +kernel
theorem dX7_chain_7 : decode cX7_chain 7 = .ok (.invokevirtual 153, 3) := by decide +kernel
theorem dX7_chain_10 : decode cX7_chain 10 = .ok (.ifCond .eq 13, 3) := by decide +kernel
theorem dX7_chain_13 : decode cX7_chain 13 = .ok (.iload_n 2, 1) := by decide +kernel
theorem dX7_chain_14 : decode cX7_chain 14 = .ok (.iconst 1, 1) := by decide +kernel
theorem dX7_chain_15 : decode cX7_chain 15 = .ok (.bipush 9, 2) := by decide +kernel
theorem dX7_chain_17 : decode cX7_chain 17 = .ok (.invokestatic 60, 3) := by decide +kernel
theorem dX7_chain_20 : decode cX7_chain 20 = .ok (.ifCond .ne 5, 3) := by decide +kernel
theorem dX7_chain_23 : decode cX7_chain 23 = .ok (.iconst (-1), 1) := by decide +kernel
theorem dX7_chain_24 : decode cX7_chain 24 = .ok (.ireturn, 1) := by decide +kernel
theorem dX7_chain_25 : decode cX7_chain 25 = .ok (.iconst 0, 1) := by decide +kernel
theorem dX7_chain_26 : decode cX7_chain 26 = .ok (.istore_n 3, 1) := by decide +kernel
theorem dX7_chain_27 : decode cX7_chain 27 = .ok (.iconst 0, 1) := by decide +kernel
theorem dX7_chain_28 : decode cX7_chain 28 = .ok (.istore 4, 2) := by decide +kernel
theorem dX7_chain_30 : decode cX7_chain 30 = .ok (.iload 4, 2) := by decide +kernel
theorem dX7_chain_32 : decode cX7_chain 32 = .ok (.aload_n 0, 1) := by decide +kernel
theorem dX7_chain_33 : decode cX7_chain 33 = .ok (.getfield 130, 3) := by decide +kernel
theorem dX7_chain_36 : decode cX7_chain 36 = .ok (.if_icmp .ge 21, 3) := by decide +kernel
theorem dX7_chain_39 : decode cX7_chain 39 = .ok (.iload_n 3, 1) := by decide +kernel
theorem dX7_chain_40 : decode cX7_chain 40 = .ok (.aload_n 0, 1) := by decide +kernel
theorem dX7_chain_41 : decode cX7_chain 41 = .ok (.getfield 13, 3) := by decide +kernel
theorem dX7_chain_44 : decode cX7_chain 44 = .ok (.iload 4, 2) := by decide +kernel
theorem dX7_chain_46 : decode cX7_chain 46 = .ok (.iaload, 1) := by decide +kernel
theorem dX7_chain_47 : decode cX7_chain 47 = .ok (.invokestatic 150, 3) := by decide +kernel
theorem dX7_chain_50 : decode cX7_chain 50 = .ok (.istore_n 3, 1) := by decide +kernel
theorem dX7_chain_51 : decode cX7_chain 51 = .ok (.iinc 4 1, 3) := by decide +kernel
theorem dX7_chain_54 : decode cX7_chain 54 = .ok (.goto (-24), 3) := by decide +kernel
theorem dX7_chain_57 : decode cX7_chain 57 = .ok (.iload_n 3, 1) := by decide +kernel
theorem dX7_chain_58 : decode cX7_chain 58 = .ok (.ifCond .ne 6, 3) := by decide +kernel
theorem dX7_chain_61 : decode cX7_chain 61 = .ok (.bipush (-9), 2) := by decide +kernel
theorem dX7_chain_63 : decode cX7_chain 63 = .ok (.ireturn, 1) := by decide +kernel
theorem dX7_chain_64 : decode cX7_chain 64 = .ok (.iconst 0, 1) := by decide +kernel
theorem dX7_chain_65 : decode cX7_chain 65 = .ok (.istore 4, 2) := by decide +kernel
theorem dX7_chain_67 : decode cX7_chain 67 = .ok (.iconst 0, 1) := by decide +kernel
theorem dX7_chain_68 : decode cX7_chain 68 = .ok (.istore 5, 2) := by decide +kernel
theorem dX7_chain_70 : decode cX7_chain 70 = .ok (.iload 5, 2) := by decide +kernel
theorem dX7_chain_72 : decode cX7_chain 72 = .ok (.aload_n 0, 1) := by decide +kernel
theorem dX7_chain_73 : decode cX7_chain 73 = .ok (.getfield 133, 3) := by decide +kernel
theorem dX7_chain_76 : decode cX7_chain 76 = .ok (.if_icmp .ge 36, 3) := by decide +kernel
theorem dX7_chain_79 : decode cX7_chain 79 = .ok (.iload 4, 2) := by decide +kernel
theorem dX7_chain_81 : decode cX7_chain 81 = .ok (.aload_n 0, 1) := by decide +kernel
theorem dX7_chain_82 : decode cX7_chain 82 = .ok (.getfield 28, 3) := by decide +kernel
theorem dX7_chain_85 : decode cX7_chain 85 = .ok (.iload 5, 2) := by decide +kernel
theorem dX7_chain_87 : decode cX7_chain 87 = .ok (.iaload, 1) := by decide +kernel
theorem dX7_chain_88 : decode cX7_chain 88 = .ok (.iload_n 1, 1) := by decide +kernel
theorem dX7_chain_89 : decode cX7_chain 89 = .ok (.if_icmp .ne 13, 3) := by decide +kernel
theorem dX7_chain_92 : decode cX7_chain 92 = .ok (.aload_n 0, 1) := by decide +kernel
theorem dX7_chain_93 : decode cX7_chain 93 = .ok (.getfield 22, 3) := by decide +kernel
theorem dX7_chain_96 : decode cX7_chain 96 = .ok (.iload 5, 2) := by decide +kernel
theorem dX7_chain_98 : decode cX7_chain 98 = .ok (.iaload, 1) := by decide +kernel
theorem dX7_chain_99 : decode cX7_chain 99 = .ok (.goto 4, 3) := by decide +kernel
theorem dX7_chain_102 : decode cX7_chain 102 = .ok (.iconst 0, 1) := by decide +kernel
theorem dX7_chain_103 : decode cX7_chain 103 = .ok (.iadd, 1) := by decide +kernel
theorem dX7_chain_104 : decode cX7_chain 104 = .ok (.istore 4, 2) := by decide +kernel
theorem dX7_chain_106 : decode cX7_chain 106 = .ok (.iinc 5 1, 3) := by decide +kernel
theorem dX7_chain_109 : decode cX7_chain 109 = .ok (.goto (-39), 3) := by decide +kernel
theorem dX7_chain_112 : decode cX7_chain 112 = .ok (.iload 4, 2) := by decide +kernel
theorem dX7_chain_114 : decode cX7_chain 114 = .ok (.iload_n 3, 1) := by decide +kernel
theorem dX7_chain_115 : decode cX7_chain 115 = .ok (.iadd, 1) := by decide +kernel
theorem dX7_chain_116 : decode cX7_chain 116 = .ok (.iconst 1, 1) := by decide +kernel
theorem dX7_chain_117 : decode cX7_chain 117 = .ok (.isub, 1) := by decide +kernel
theorem dX7_chain_118 : decode cX7_chain 118 = .ok (.iload_n 3, 1) := by decide +kernel
theorem dX7_chain_119 : decode cX7_chain 119 = .ok (.idiv, 1) := by decide +kernel
theorem dX7_chain_120 : decode cX7_chain 120 = .ok (.iload_n 2, 1) := by decide +kernel
theorem dX7_chain_121 : decode cX7_chain 121 = .ok (.imul, 1) := by decide +kernel
theorem dX7_chain_122 : decode cX7_chain 122 = .ok (.ireturn, 1) := by decide +kernel
set_option maxRecDepth 20000 in
theorem ggX7_rate_X7_in : GoodIn wsX7_rate wsX7_in := goodIn_r _ [15] (by decide +kernel) (by decide +kernel)
set_option maxRecDepth 20000 in
theorem gX7_rate_X7_in : GoodIn wsX7_rate (va_wsS RX7 60 yX7_in wsX7_in) := goodIn_app (goodIn_of _ (by decide +kernel)) ggX7_rate_X7_in
set_option maxRecDepth 20000 in
theorem ggX7_rate_X7_isPerson : GoodIn wsX7_rate wsX7_isPerson := goodIn_r _ [19, 20, 12, 13, 14, 15, 21, 22, 23, 24, 25, 26, 27, 28, 29, 30, 31, 32, 33, 34, 35, 36, 37, 38, 39, 40, 41, 42, 43, 44, 45, 46, 47, 48] (by decide +kernel) (by decide +kernel)
set_option maxRecDepth 20000 in
theorem gX7_rate_X7_isPerson : GoodIn wsX7_rate (wsV RX7 139 RX7 yX7_isPerson wsX7_isPerson) := goodIn_app (goodIn_of _ (by decide +kernel)) ggX7_rate_X7_isPerson
theorem dX7_rate_0 : decode cX7_rate 0 = .ok (.aload_n 0, 1) := by decide +kernel
theorem dX7_rate_1 : decode cX7_rate 1 = .ok (.iconst 0, 1) := by decide +kernel
theorem dX7_rate_2 : decode cX7_rate 2 = .ok (.putfield 57, 3) := by decide +kernel
theorem dX7_rate_5 : decode cX7_rate 5 = .ok (.iload_n 1, 1) := by decide +kernel
theorem dX7_rate_6 : decode cX7_rate 6 = .ok (.iconst 0, 1) := by decide +kernel
theorem dX7_rate_7 : decode cX7_rate 7 = .ok (.iconst 5, 1) := by decide +kernel
theorem dX7_rate_8 : decode cX7_rate 8 = .ok (.invokestatic 60, 3) := by decide +kernel
theorem dX7_rate_11 : decode cX7_rate 11 = .ok (.ifCond .eq 11, 3) := by decide +kernel
theorem dX7_rate_14 : decode cX7_rate 14 = .ok (.aload_n 0, 1) := by decide +kernel
theorem dX7_rate_15 : decode cX7_rate 15 = .ok (.iload_n 2, 1) := by decide +kernel
theorem dX7_rate_16 : decode cX7_rate 16 = .ok (.invokevirtual 139, 3) := by decide +kernel
theorem dX7_rate_19 : decode cX7_rate 19 = .ok (.ifCond .ne 6, 3) := by decide +kernel
theorem dX7_rate_22 : decode cX7_rate 22 = .ok (.ldc 162, 2) := by decide +kernel
theorem dX7_rate_24 : decode cX7_rate 24 = .ok (.ireturn, 1) := by decide +kernel
theorem dX7_rate_25 : decode cX7_rate 25 = .ok (.aload_n 0, 1) := by decide +kernel
theorem dX7_rate_26 : decode cX7_rate 26 = .ok (.getfield 28, 3) := by decide +kernel
theorem dX7_rate_29 : decode cX7_rate 29 = .ok (.bipush 16, 2) := by decide +kernel
theorem dX7_rate_31 : decode cX7_rate 31 = .ok (.iload_n 2, 1) := by decide +kernel
theorem dX7_rate_32 : decode cX7_rate 32 = .ok (.iadd, 1) := by decide +kernel
theorem dX7_rate_33 : decode cX7_rate 33 = .ok (.iaload, 1) := by decide +kernel
theorem dX7_rate_34 : decode cX7_rate 34 = .ok (.istore_n 3, 1) := by decide +kernel
theorem dX7_rate_35 : decode cX7_rate 35 = .ok (.iload_n 3, 1) := by decide +kernel
theorem dX7_rate_36 : decode cX7_rate 36 = .ok (.aload_n 0, 1) := by decide +kernel
theorem dX7_rate_37 : decode cX7_rate 37 = .ok (.getfield 13, 3) := by decide +kernel
theorem dX7_rate_40 : decode cX7_rate 40 = .ok (.iload_n 2, 1) := by decide +kernel
theorem dX7_rate_41 : decode cX7_rate 41 = .ok (.iaload, 1) := by decide +kernel
theorem dX7_rate_42 : decode cX7_rate 42 = .ok (.iadd, 1) := by decide +kernel
theorem dX7_rate_43 : decode cX7_rate 43 = .ok (.istore 4, 2) := by decide +kernel
theorem dX7_rate_45 : decode cX7_rate 45 = .ok (.iload_n 3, 1) := by decide +kernel
theorem dX7_rate_46 : decode cX7_rate 46 = .ok (.aload_n 0, 1) := by decide +kernel
theorem dX7_rate_47 : decode cX7_rate 47 = .ok (.getfield 16, 3) := by decide +kernel
theorem dX7_rate_50 : decode cX7_rate 50 = .ok (.iload_n 2, 1) := by decide +kernel
theorem dX7_rate_51 : decode cX7_rate 51 = .ok (.iaload, 1) := by decide +kernel
theorem dX7_rate_52 : decode cX7_rate 52 = .ok (.isub, 1) := by decide +kernel
theorem dX7_rate_53 : decode cX7_rate 53 = .ok (.istore 5, 2) := by decide +kernel
theorem dX7_rate_55 : decode cX7_rate 55 = .ok (.aload_n 0, 1) := by decide +kernel
theorem dX7_rate_56 : decode cX7_rate 56 = .ok (.dup, 1) := by decide +kernel
theorem dX7_rate_57 : decode cX7_rate 57 = .ok (.getfield 206, 3) := by decide +kernel
theorem dX7_rate_60 : decode cX7_rate 60 = .ok (.iload_n 1, 1) := by decide +kernel
theorem dX7_rate_61 : decode cX7_rate 61 = .ok (.ifCond .ne 7, 3) := by decide +kernel
theorem dX7_rate_64 : decode cX7_rate 64 = .ok (.lconst 1, 1) := by decide +kernel
theorem dX7_rate_65 : decode cX7_rate 65 = .ok (.goto 50, 3) := by decide +kernel
theorem dX7_rate_68 : decode cX7_rate 68 = .ok (.iload_n 1, 1) := by decide +kernel
theorem dX7_rate_69 : decode cX7_rate 69 = .ok (.iconst 1, 1) := by decide +kernel
theorem dX7_rate_70 : decode cX7_rate 70 = .ok (.if_icmp .ne 9, 3) := by decide +kernel
theorem dX7_rate_73 : decode cX7_rate 73 = .ok (.ldc2_w 210, 3) := by decide +kernel
theorem dX7_rate_76 : decode cX7_rate 76 = .ok (.goto 39, 3) := by decide +kernel
theorem dX7_rate_79 : decode cX7_rate 79 = .ok (.iload_n 1, 1) := by decide +kernel
theorem dX7_rate_80 : decode cX7_rate 80 = .ok (.iconst 2, 1) := by decide +kernel
theorem dX7_rate_81 : decode cX7_rate 81 = .ok (.if_icmp .ne 9, 3) := by decide +kernel
theorem dX7_rate_84 : decode cX7_rate 84 = .ok (.ldc2_w 212, 3) := by decide +kernel
theorem dX7_rate_87 : decode cX7_rate 87 = .ok (.goto 28, 3) := by decide +kernel
theorem dX7_rate_90 : decode cX7_rate 90 = .ok (.iload_n 1, 1) := by decide +kernel
theorem dX7_rate_91 : decode cX7_rate 91 = .ok (.iconst 3, 1) := by decide +kernel
theorem dX7_rate_92 : decode cX7_rate 92 = .ok (.if_icmp .ne 9, 3) := by decide +kernel
theorem dX7_rate_95 : decode cX7_rate 95 = .ok (.ldc2_w 214, 3) := by decide +kernel
theorem dX7_rate_98 : decode cX7_rate 98 = .ok (.goto 17, 3) := by decide +kernel
theorem dX7_rate_101 : decode cX7_rate 101 = .ok (.iload_n 1, 1) := by decide +kernel
theorem dX7_rate_102 : decode cX7_rate 102 = .ok (.iconst 4, 1) := by decide +kernel
theorem dX7_rate_103 : decode cX7_rate 103 = .ok (.if_icmp .ne 9, 3) := by decide +kernel
theorem dX7_rate_106 : decode cX7_rate 106 = .ok (.ldc2_w 216, 3) := by decide +kernel
theorem dX7_rate_109 : decode cX7_rate 109 = .ok (.goto 6, 3) := by decide +kernel
theorem dX7_rate_112 : decode cX7_rate 112 = .ok (.ldc2_w 218, 3) := by decide +kernel
theorem dX7_rate_115 : decode cX7_rate 115 = .ok (.ladd, 1) := by decide +kernel
theorem dX7_rate_116 : decode cX7_rate 116 = .ok (.putfield 206, 3) := by decide +kernel
theorem dX7_rate_119 : decode cX7_rate 119 = .ok (.iload_n 1, 1) := by decide +kernel
theorem dX7_rate_120 : decode cX7_rate 120 = .ok (.ifCond .ne 7, 3) := by decide +kernel
theorem dX7_rate_123 : decode cX7_rate 123 = .ok (.iload_n 3, 1) := by decide +kernel
theorem dX7_rate_124 : decode cX7_rate 124 = .ok (.goto 56, 3) := by decide +kernel
theorem dX7_rate_127 : decode cX7_rate 127 = .ok (.iload_n 1, 1) := by decide +kernel
theorem dX7_rate_128 : decode cX7_rate 128 = .ok (.iconst 1, 1) := by decide +kernel
theorem dX7_rate_129 : decode cX7_rate 129 = .ok (.if_icmp .ne 8, 3) := by decide +kernel
theorem dX7_rate_132 : decode cX7_rate 132 = .ok (.iload 4, 2) := by decide +kernel
theorem dX7_rate_134 : decode cX7_rate 134 = .ok (.goto 46, 3) := by decide +kernel
theorem dX7_rate_137 : decode cX7_rate 137 = .ok (.iload_n 1, 1) := by decide +kernel
theorem dX7_rate_138 : decode cX7_rate 138 = .ok (.iconst 2, 1) := by decide +kernel
theorem dX7_rate_139 : decode cX7_rate 139 = .ok (.if_icmp .ne 8, 3) := by decide +kernel
theorem dX7_rate_142 : decode cX7_rate 142 = .ok (.iload 5, 2) := by decide +kernel
theorem dX7_rate_144 : decode cX7_rate 144 = .ok (.goto 36, 3) := by decide +kernel
theorem dX7_rate_147 : decode cX7_rate 147 = .ok (.iload_n 1, 1) := by decide +kernel
theorem dX7_rate_148 : decode cX7_rate 148 = .ok (.iconst 3, 1) := by decide +kernel
theorem dX7_rate_149 : decode cX7_rate 149 = .ok (.if_icmp .ne 10, 3) := by decide +kernel
theorem dX7_rate_152 : decode cX7_rate 152 = .ok (.iconst 2, 1) := by decide +kernel
theorem dX7_rate_153 : decode cX7_rate 153 = .ok (.iload 4, 2) := by decide +kernel
theorem dX7_rate_155 : decode cX7_rate 155 = .ok (.imul, 1) := by decide +kernel
theorem dX7_rate_156 : decode cX7_rate 156 = .ok (.goto 24, 3) := by decide +kernel
theorem dX7_rate_159 : decode cX7_rate 159 = .ok (.iload_n 1, 1) := by decide +kernel
theorem dX7_rate_160 : decode cX7_rate 160 = .ok (.iconst 4, 1) := by decide +kernel
theorem dX7_rate_161 : decode cX7_rate 161 = .ok (.if_icmp .ne 10, 3) := by decide +kernel
theorem dX7_rate_164 : decode cX7_rate 164 = .ok (.iload 5, 2) := by decide +kernel
theorem dX7_rate_166 : decode cX7_rate 166 = .ok (.iload_n 2, 1) := by decide +kernel
theorem dX7_rate_167 : decode cX7_rate 167 = .ok (.iadd, 1) := by decide +kernel
theorem dX7_rate_168 : decode cX7_rate 168 = .ok (.goto 12, 3) := by decide +kernel
theorem dX7_rate_171 : decode cX7_rate 171 = .ok (.iload_n 3, 1) := by decide +kernel
theorem dX7_rate_172 : decode cX7_rate 172 = .ok (.aload_n 0, 1) := by decide +kernel
theorem dX7_rate_173 : decode cX7_rate 173 = .ok (.getfield 28, 3) := by decide +kernel
theorem dX7_rate_176 : decode cX7_rate 176 = .ok (.bipush 20, 2) := by decide +kernel
theorem dX7_rate_178 : decode cX7_rate 178 = .ok (.iaload, 1) := by decide +kernel
theorem dX7_rate_179 : decode cX7_rate 179 = .ok (.iadd, 1) := by decide +kernel
theorem dX7_rate_180 : decode cX7_rate 180 = .ok (.ireturn, 1) := by decide +kernel
set_option maxRecDepth 20000 in
theorem ggX7_keep_X7_in : GoodIn wsX7_keep wsX7_in := goodIn_r _ [8] (by decide +kernel) (by decide +kernel)
set_option maxRecDepth 20000 in
theorem gX7_keep_X7_in : GoodIn wsX7_keep (va_wsS RX7 60 yX7_in wsX7_in) := goodIn_app (goodIn_of _ (by decide +kernel)) ggX7_keep_X7_in
theorem dX7_keep_0 : decode cX7_keep 0 = .ok (.aload_n 0, 1) := by decide +kernel
theorem dX7_keep_1 : decode cX7_keep 1 = .ok (.iconst 0, 1) := by decide +kernel
theorem dX7_keep_2 : decode cX7_keep 2 = .ok (.putfield 57, 3) := by decide +kernel
theorem dX7_keep_5 : decode cX7_keep 5 = .ok (.iload_n 1, 1) := by decide +kernel
theorem dX7_keep_6 : decode cX7_keep 6 = .ok (.iconst 0, 1) := by decide +kernel
theorem dX7_keep_7 : decode cX7_keep 7 = .ok (.iconst 1, 1) := by decide +kernel
theorem dX7_keep_8 : decode cX7_keep 8 = .ok (.invokestatic 60, 3) := by decide +kernel
theorem dX7_keep_11 : decode cX7_keep 11 = .ok (.ifCond .ne 5, 3) := by decide +kernel
theorem dX7_keep_14 : decode cX7_keep 14 = .ok (.iconst (-1), 1) := by decide +kernel
theorem dX7_keep_15 : decode cX7_keep 15 = .ok (.ireturn, 1) := by decide +kernel
theorem dX7_keep_16 : decode cX7_keep 16 = .ok (.iconst 0, 1) := by decide +kernel
theorem dX7_keep_17 : decode cX7_keep 17 = .ok (.istore_n 2, 1) := by decide +kernel
theorem dX7_keep_18 : decode cX7_keep 18 = .ok (.iload_n 2, 1) := by decide +kernel
theorem dX7_keep_19 : decode cX7_keep 19 = .ok (.bipush 21, 2) := by decide +kernel
theorem dX7_keep_21 : decode cX7_keep 21 = .ok (.if_icmp .ge 26, 3) := by decide +kernel
theorem dX7_keep_24 : decode cX7_keep 24 = .ok (.aload_n 0, 1) := by decide +kernel
theorem dX7_keep_25 : decode cX7_keep 25 = .ok (.getfield 31, 3) := by decide +kernel
theorem dX7_keep_28 : decode cX7_keep 28 = .ok (.bipush 21, 2) := by decide +kernel
theorem dX7_keep_30 : decode cX7_keep 30 = .ok (.iload_n 1, 1) := by decide +kernel
theorem dX7_keep_31 : decode cX7_keep 31 = .ok (.imul, 1) := by decide +kernel
theorem dX7_keep_32 : decode cX7_keep 32 = .ok (.iload_n 2, 1) := by decide +kernel
theorem dX7_keep_33 : decode cX7_keep 33 = .ok (.iadd, 1) := by decide +kernel
theorem dX7_keep_34 : decode cX7_keep 34 = .ok (.aload_n 0, 1) := by decide +kernel
theorem dX7_keep_35 : decode cX7_keep 35 = .ok (.getfield 28, 3) := by decide +kernel
theorem dX7_keep_38 : decode cX7_keep 38 = .ok (.iload_n 2, 1) := by decide +kernel
theorem dX7_keep_39 : decode cX7_keep 39 = .ok (.iaload, 1) := by decide +kernel
theorem dX7_keep_40 : decode cX7_keep 40 = .ok (.iastore, 1) := by decide +kernel
theorem dX7_keep_41 : decode cX7_keep 41 = .ok (.iinc 2 1, 3) := by decide +kernel
theorem dX7_keep_44 : decode cX7_keep 44 = .ok (.goto (-26), 3) := by decide +kernel
theorem dX7_keep_47 : decode cX7_keep 47 = .ok (.aload_n 0, 1) := by decide +kernel
theorem dX7_keep_48 : decode cX7_keep 48 = .ok (.getfield 34, 3) := by decide +kernel
theorem dX7_keep_51 : decode cX7_keep 51 = .ok (.iload_n 1, 1) := by decide +kernel
theorem dX7_keep_52 : decode cX7_keep 52 = .ok (.iconst 1, 1) := by decide +kernel
theorem dX7_keep_53 : decode cX7_keep 53 = .ok (.bastore, 1) := by decide +kernel
theorem dX7_keep_54 : decode cX7_keep 54 = .ok (.aload_n 0, 1) := by decide +kernel
theorem dX7_keep_55 : decode cX7_keep 55 = .ok (.getfield 28, 3) := by decide +kernel
theorem dX7_keep_58 : decode cX7_keep 58 = .ok (.bipush 20, 2) := by decide +kernel
theorem dX7_keep_60 : decode cX7_keep 60 = .ok (.iaload, 1) := by decide +kernel
theorem dX7_keep_61 : decode cX7_keep 61 = .ok (.ireturn, 1) := by decide +kernel
set_option maxRecDepth 20000 in
theorem ggX7_back_X7_in : GoodIn wsX7_back wsX7_in := goodIn_r _ [8] (by decide +kernel) (by decide +kernel)
set_option maxRecDepth 20000 in
theorem gX7_back_X7_in : GoodIn wsX7_back (va_wsS RX7 60 yX7_in wsX7_in) := goodIn_app (goodIn_of _ (by decide +kernel)) ggX7_back_X7_in
theorem dX7_back_0 : decode cX7_back 0 = .ok (.aload_n 0, 1) := by decide +kernel
theorem dX7_back_1 : decode cX7_back 1 = .ok (.iconst 0, 1) := by decide +kernel
theorem dX7_back_2 : decode cX7_back 2 = .ok (.putfield 57, 3) := by decide +kernel
theorem dX7_back_5 : decode cX7_back 5 = .ok (.iload_n 1, 1) := by decide +kernel
theorem dX7_back_6 : decode cX7_back 6 = .ok (.iconst 0, 1) := by decide +kernel
theorem dX7_back_7 : decode cX7_back 7 = .ok (.iconst 1, 1) := by decide +kernel
theorem dX7_back_8 : decode cX7_back 8 = .ok (.invokestatic 60, 3) := by decide +kernel
theorem dX7_back_11 : decode cX7_back 11 = .ok (.ifCond .ne 5, 3) := by decide +kernel
theorem dX7_back_14 : decode cX7_back 14 = .ok (.iconst (-1), 1) := by decide +kernel
theorem dX7_back_15 : decode cX7_back 15 = .ok (.ireturn, 1) := by decide +kernel
theorem dX7_back_16 : decode cX7_back 16 = .ok (.aload_n 0, 1) := by decide +kernel
theorem dX7_back_17 : decode cX7_back 17 = .ok (.getfield 34, 3) := by decide +kernel
theorem dX7_back_20 : decode cX7_back 20 = .ok (.iload_n 1, 1) := by decide +kernel
theorem dX7_back_21 : decode cX7_back 21 = .ok (.baload, 1) := by decide +kernel
theorem dX7_back_22 : decode cX7_back 22 = .ok (.ifCond .ne 6, 3) := by decide +kernel
theorem dX7_back_25 : decode cX7_back 25 = .ok (.bipush (-2), 2) := by decide +kernel
theorem dX7_back_27 : decode cX7_back 27 = .ok (.ireturn, 1) := by decide +kernel
theorem dX7_back_28 : decode cX7_back 28 = .ok (.iconst 0, 1) := by decide +kernel
theorem dX7_back_29 : decode cX7_back 29 = .ok (.istore_n 2, 1) := by decide +kernel
theorem dX7_back_30 : decode cX7_back 30 = .ok (.iload_n 2, 1) := by decide +kernel
theorem dX7_back_31 : decode cX7_back 31 = .ok (.bipush 21, 2) := by decide +kernel
theorem dX7_back_33 : decode cX7_back 33 = .ok (.if_icmp .ge 26, 3) := by decide +kernel
theorem dX7_back_36 : decode cX7_back 36 = .ok (.aload_n 0, 1) := by decide +kernel
theorem dX7_back_37 : decode cX7_back 37 = .ok (.getfield 28, 3) := by decide +kernel
theorem dX7_back_40 : decode cX7_back 40 = .ok (.iload_n 2, 1) := by decide +kernel
theorem dX7_back_41 : decode cX7_back 41 = .ok (.aload_n 0, 1) := by decide +kernel
theorem dX7_back_42 : decode cX7_back 42 = .ok (.getfield 31, 3) := by decide +kernel
theorem dX7_back_45 : decode cX7_back 45 = .ok (.bipush 21, 2) := by decide +kernel
theorem dX7_back_47 : decode cX7_back 47 = .ok (.iload_n 1, 1) := by decide +kernel
theorem dX7_back_48 : decode cX7_back 48 = .ok (.imul, 1) := by decide +kernel
theorem dX7_back_49 : decode cX7_back 49 = .ok (.iload_n 2, 1) := by decide +kernel
theorem dX7_back_50 : decode cX7_back 50 = .ok (.iadd, 1) := by decide +kernel
theorem dX7_back_51 : decode cX7_back 51 = .ok (.iaload, 1) := by decide +kernel
theorem dX7_back_52 : decode cX7_back 52 = .ok (.iastore, 1) := by decide +kernel
theorem dX7_back_53 : decode cX7_back 53 = .ok (.iinc 2 1, 3) := by decide +kernel
theorem dX7_back_56 : decode cX7_back 56 = .ok (.goto (-26), 3) := by decide +kernel
theorem dX7_back_59 : decode cX7_back 59 = .ok (.aload_n 0, 1) := by decide +kernel
theorem dX7_back_60 : decode cX7_back 60 = .ok (.getfield 28, 3) := by decide +kernel
theorem dX7_back_63 : decode cX7_back 63 = .ok (.bipush 20, 2) := by decide +kernel
theorem dX7_back_65 : decode cX7_back 65 = .ok (.iaload, 1) := by decide +kernel
theorem dX7_back_66 : decode cX7_back 66 = .ok (.ireturn, 1) := by decide +kernel
theorem dX7_count_0 : decode cX7_count 0 = .ok (.aload_n 0, 1) := by decide +kernel
theorem dX7_count_1 : decode cX7_count 1 = .ok (.iconst 0, 1) := by decide +kernel
theorem dX7_count_2 : decode cX7_count 2 = .ok (.putfield 57, 3) := by decide +kernel
theorem dX7_count_5 : decode cX7_count 5 = .ok (.iconst 0, 1) := by decide +kernel
theorem dX7_count_6 : decode cX7_count 6 = .ok (.istore_n 2, 1) := by decide +kernel
theorem dX7_count_7 : decode cX7_count 7 = .ok (.iconst 0, 1) := by decide +kernel
theorem dX7_count_8 : decode cX7_count 8 = .ok (.istore_n 3, 1) := by decide +kernel
theorem dX7_count_9 : decode cX7_count 9 = .ok (.iconst 0, 1) := by decide +kernel
theorem dX7_count_10 : decode cX7_count 10 = .ok (.istore 4, 2) := by decide +kernel
theorem dX7_count_12 : decode cX7_count 12 = .ok (.iload 4, 2) := by decide +kernel
theorem dX7_count_14 : decode cX7_count 14 = .ok (.aload_n 0, 1) := by decide +kernel
theorem dX7_count_15 : decode cX7_count 15 = .ok (.getfield 133, 3) := by decide +kernel
theorem dX7_count_18 : decode cX7_count 18 = .ok (.if_icmp .ge 52, 3) := by decide +kernel
theorem dX7_count_21 : decode cX7_count 21 = .ok (.iload_n 2, 1) := by decide +kernel
theorem dX7_count_22 : decode cX7_count 22 = .ok (.aload_n 0, 1) := by decide +kernel
theorem dX7_count_23 : decode cX7_count 23 = .ok (.getfield 25, 3) := by decide +kernel
theorem dX7_count_26 : decode cX7_count 26 = .ok (.iload 4, 2) := by decide +kernel
theorem dX7_count_28 : decode cX7_count 28 = .ok (.iaload, 1) := by decide +kernel
theorem dX7_count_29 : decode cX7_count 29 = .ok (.bipush (-9), 2) := by decide +kernel
theorem dX7_count_31 : decode cX7_count 31 = .ok (.if_icmp .eq 7, 3) := by decide +kernel
theorem dX7_count_34 : decode cX7_count 34 = .ok (.iconst 1, 1) := by decide +kernel
theorem dX7_count_35 : decode cX7_count 35 = .ok (.goto 4, 3) := by decide +kernel
theorem dX7_count_38 : decode cX7_count 38 = .ok (.iconst 0, 1) := by decide +kernel
theorem dX7_count_39 : decode cX7_count 39 = .ok (.iadd, 1) := by decide +kernel
theorem dX7_count_40 : decode cX7_count 40 = .ok (.istore_n 2, 1) := by decide +kernel
theorem dX7_count_41 : decode cX7_count 41 = .ok (.iload_n 3, 1) := by decide +kernel
theorem dX7_count_42 : decode cX7_count 42 = .ok (.aload_n 0, 1) := by decide +kernel
theorem dX7_count_43 : decode cX7_count 43 = .ok (.getfield 28, 3) := by decide +kernel
theorem dX7_count_46 : decode cX7_count 46 = .ok (.bipush 8, 2) := by decide +kernel
theorem dX7_count_48 : decode cX7_count 48 = .ok (.iload 4, 2) := by decide +kernel
theorem dX7_count_50 : decode cX7_count 50 = .ok (.iadd, 1) := by decide +kernel
theorem dX7_count_51 : decode cX7_count 51 = .ok (.iaload, 1) := by decide +kernel
theorem dX7_count_52 : decode cX7_count 52 = .ok (.iload 4, 2) := by decide +kernel
theorem dX7_count_54 : decode cX7_count 54 = .ok (.if_icmp .ne 7, 3) := by decide +kernel
theorem dX7_count_57 : decode cX7_count 57 = .ok (.iconst 1, 1) := by decide +kernel
theorem dX7_count_58 : decode cX7_count 58 = .ok (.goto 4, 3) := by decide +kernel
theorem dX7_count_61 : decode cX7_count 61 = .ok (.iconst 0, 1) := by decide +kernel
theorem dX7_count_62 : decode cX7_count 62 = .ok (.iadd, 1) := by decide +kernel
theorem dX7_count_63 : decode cX7_count 63 = .ok (.istore_n 3, 1) := by decide +kernel
theorem dX7_count_64 : decode cX7_count 64 = .ok (.iinc 4 1, 3) := by decide +kernel
theorem dX7_count_67 : decode cX7_count 67 = .ok (.goto (-55), 3) := by decide +kernel
theorem dX7_count_70 : decode cX7_count 70 = .ok (.iload_n 1, 1) := by decide +kernel
theorem dX7_count_71 : decode cX7_count 71 = .ok (.ifCond .ne 10, 3) := by decide +kernel
theorem dX7_count_74 : decode cX7_count 74 = .ok (.aload_n 0, 1) := by decide +kernel
theorem dX7_count_75 : decode cX7_count 75 = .ok (.getfield 50, 3) := by decide +kernel
theorem dX7_count_78 : decode cX7_count 78 = .ok (.goto 74, 3) := by decide +kernel
theorem dX7_count_81 : decode cX7_count 81 = .ok (.iload_n 1, 1) := by decide +kernel
theorem dX7_count_82 : decode cX7_count 82 = .ok (.iconst 1, 1) := by decide +kernel
theorem dX7_count_83 : decode cX7_count 83 = .ok (.if_icmp .ne 10, 3) := by decide +kernel
theorem dX7_count_86 : decode cX7_count 86 = .ok (.aload_n 0, 1) := by decide +kernel
theorem dX7_count_87 : decode cX7_count 87 = .ok (.getfield 130, 3) := by decide +kernel
theorem dX7_count_90 : decode cX7_count 90 = .ok (.goto 62, 3) := by decide +kernel
theorem dX7_count_93 : decode cX7_count 93 = .ok (.iload_n 1, 1) := by decide +kernel
theorem dX7_count_94 : decode cX7_count 94 = .ok (.iconst 2, 1) := by decide +kernel
theorem dX7_count_95 : decode cX7_count 95 = .ok (.if_icmp .ne 10, 3) := by decide +kernel
theorem dX7_count_98 : decode cX7_count 98 = .ok (.aload_n 0, 1) := by decide +kernel
theorem dX7_count_99 : decode cX7_count 99 = .ok (.getfield 133, 3) := by decide +kernel
theorem dX7_count_102 : decode cX7_count 102 = .ok (.goto 50, 3) := by decide +kernel
theorem dX7_count_105 : decode cX7_count 105 = .ok (.iload_n 1, 1) := by decide +kernel
theorem dX7_count_106 : decode cX7_count 106 = .ok (.iconst 3, 1) := by decide +kernel
theorem dX7_count_107 : decode cX7_count 107 = .ok (.if_icmp .ne 7, 3) := by decide +kernel
theorem dX7_count_110 : decode cX7_count 110 = .ok (.iload_n 2, 1) := by decide +kernel
theorem dX7_count_111 : decode cX7_count 111 = .ok (.goto 41, 3) := by decide +kernel
theorem dX7_count_114 : decode cX7_count 114 = .ok (.iload_n 1, 1) := by decide +kernel
theorem dX7_count_115 : decode cX7_count 115 = .ok (.iconst 4, 1) := by decide +kernel
theorem dX7_count_116 : decode cX7_count 116 = .ok (.if_icmp .ne 7, 3) := by decide +kernel
theorem dX7_count_119 : decode cX7_count 119 = .ok (.iload_n 3, 1) := by decide +kernel
theorem dX7_count_120 : decode cX7_count 120 = .ok (.goto 32, 3) := by decide +kernel
theorem dX7_count_123 : decode cX7_count 123 = .ok (.iload_n 1, 1) := by decide +kernel
theorem dX7_count_124 : decode cX7_count 124 = .ok (.iconst 5, 1) := by decide +kernel
theorem dX7_count_125 : decode cX7_count 125 = .ok (.if_icmp .ne 13, 3) := by decide +kernel
theorem dX7_count_128 : decode cX7_count 128 = .ok (.aload_n 0, 1) := by decide +kernel
theorem dX7_count_129 : decode cX7_count 129 = .ok (.getfield 28, 3) := by decide +kernel
theorem dX7_count_132 : decode cX7_count 132 = .ok (.bipush 20, 2) := by decide +kernel
theorem dX7_count_134 : decode cX7_count 134 = .ok (.iaload, 1) := by decide +kernel
theorem dX7_count_135 : decode cX7_count 135 = .ok (.goto 17, 3) := by decide +kernel
theorem dX7_count_138 : decode cX7_count 138 = .ok (.iload_n 1, 1) := by decide +kernel
theorem dX7_count_139 : decode cX7_count 139 = .ok (.bipush 6, 2) := by decide +kernel
theorem dX7_count_141 : decode cX7_count 141 = .ok (.if_icmp .ne 10, 3) := by decide +kernel
theorem dX7_count_144 : decode cX7_count 144 = .ok (.aload_n 0, 1) := by decide +kernel
theorem dX7_count_145 : decode cX7_count 145 = .ok (.getfield 64, 3) := by decide +kernel
theorem dX7_count_148 : decode cX7_count 148 = .ok (.goto 4, 3) := by decide +kernel
theorem dX7_count_151 : decode cX7_count 151 = .ok (.iconst (-1), 1) := by decide +kernel
theorem dX7_count_152 : decode cX7_count 152 = .ok (.ireturn, 1) := by decide +kernel
theorem dX7_trace_0 : decode cX7_trace 0 = .ok (.aload_n 0, 1) := by decide +kernel
theorem dX7_trace_1 : decode cX7_trace 1 = .ok (.iconst 0, 1) := by decide +kernel
theorem dX7_trace_2 : decode cX7_trace 2 = .ok (.putfield 57, 3) := by decide +kernel
theorem dX7_trace_5 : decode cX7_trace 5 = .ok (.aload_n 0, 1) := by decide +kernel
theorem dX7_trace_6 : decode cX7_trace 6 = .ok (.getfield 206, 3) := by decide +kernel
theorem dX7_trace_9 : decode cX7_trace 9 = .ok (.lreturn, 1) := by decide +kernel
