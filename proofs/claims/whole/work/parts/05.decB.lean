theorem dX12_thrown_0 : decode cX12_thrown 0 = .ok (.aload_n 0, 1) := by decide +kernel
theorem dX12_thrown_1 : decode cX12_thrown 1 = .ok (.getfield 3, 3) := by decide +kernel
theorem dX12_thrown_4 : decode cX12_thrown 4 = .ok (.ireturn, 1) := by decide +kernel
theorem dX12_refuse_0 : decode cX12_refuse 0 = .ok (.aload_n 0, 1) := by decide +kernel
theorem dX12_refuse_1 : decode cX12_refuse 1 = .ok (.iconst 1, 1) := by decide +kernel
theorem dX12_refuse_2 : decode cX12_refuse 2 = .ok (.putfield 3, 3) := by decide +kernel
theorem dX12_refuse_5 : decode cX12_refuse 5 = .ok (.iconst 0, 1) := by decide +kernel
theorem dX12_refuse_6 : decode cX12_refuse 6 = .ok (.ireturn, 1) := by decide +kernel
theorem dX12_in_0 : decode cX12_in 0 = .ok (.lload_n 0, 1) := by decide +kernel
theorem dX12_in_1 : decode cX12_in 1 = .ok (.lload_n 2, 1) := by decide +kernel
theorem dX12_in_2 : decode cX12_in 2 = .ok (.lcmp, 1) := by decide +kernel
theorem dX12_in_3 : decode cX12_in 3 = .ok (.ifCond .lt 14, 3) := by decide +kernel
theorem dX12_in_6 : decode cX12_in 6 = .ok (.lload_n 0, 1) := by decide +kernel
theorem dX12_in_7 : decode cX12_in 7 = .ok (.lload 4, 2) := by decide +kernel
theorem dX12_in_9 : decode cX12_in 9 = .ok (.lcmp, 1) := by decide +kernel
theorem dX12_in_10 : decode cX12_in 10 = .ok (.ifCond .gt 7, 3) := by decide +kernel
theorem dX12_in_13 : decode cX12_in 13 = .ok (.iconst 1, 1) := by decide +kernel
theorem dX12_in_14 : decode cX12_in 14 = .ok (.goto 4, 3) := by decide +kernel
theorem dX12_in_17 : decode cX12_in 17 = .ok (.iconst 0, 1) := by decide +kernel
theorem dX12_in_18 : decode cX12_in 18 = .ok (.ireturn, 1) := by decide +kernel
theorem dX12_has_0 : decode cX12_has 0 = .ok (.iload_n 0, 1) := by decide +kernel
theorem dX12_has_1 : decode cX12_has 1 = .ok (.iload_n 1, 1) := by decide +kernel
theorem dX12_has_2 : decode cX12_has 2 = .ok (.ishr, 1) := by decide +kernel
theorem dX12_has_3 : decode cX12_has 3 = .ok (.iconst 1, 1) := by decide +kernel
theorem dX12_has_4 : decode cX12_has 4 = .ok (.iand, 1) := by decide +kernel
theorem dX12_has_5 : decode cX12_has 5 = .ok (.iconst 1, 1) := by decide +kernel
theorem dX12_has_6 : decode cX12_has 6 = .ok (.if_icmp .ne 7, 3) := by decide +kernel
theorem dX12_has_9 : decode cX12_has 9 = .ok (.iconst 1, 1) := by decide +kernel
theorem dX12_has_10 : decode cX12_has 10 = .ok (.goto 4, 3) := by decide +kernel
theorem dX12_has_13 : decode cX12_has 13 = .ok (.iconst 0, 1) := by decide +kernel
theorem dX12_has_14 : decode cX12_has 14 = .ok (.ireturn, 1) := by decide +kernel
theorem dX12_flag_0 : decode cX12_flag 0 = .ok (.iload_n 0, 1) := by decide +kernel
theorem dX12_flag_1 : decode cX12_flag 1 = .ok (.ifCond .eq 7, 3) := by decide +kernel
theorem dX12_flag_4 : decode cX12_flag 4 = .ok (.iconst 1, 1) := by decide +kernel
theorem dX12_flag_5 : decode cX12_flag 5 = .ok (.goto 4, 3) := by decide +kernel
theorem dX12_flag_8 : decode cX12_flag 8 = .ok (.iconst 0, 1) := by decide +kernel
theorem dX12_flag_9 : decode cX12_flag 9 = .ok (.ireturn, 1) := by decide +kernel
theorem dX12_common_0 : decode cX12_common 0 = .ok (.lload_n 2, 1) := by decide +kernel
theorem dX12_common_1 : decode cX12_common 1 = .ok (.lconst 0, 1) := by decide +kernel
theorem dX12_common_2 : decode cX12_common 2 = .ok (.lcmp, 1) := by decide +kernel
theorem dX12_common_3 : decode cX12_common 3 = .ok (.ifCond .ne 7, 3) := by decide +kernel
theorem dX12_common_6 : decode cX12_common 6 = .ok (.lload_n 0, 1) := by decide +kernel
theorem dX12_common_7 : decode cX12_common 7 = .ok (.goto 10, 3) := by decide +kernel
theorem dX12_common_10 : decode cX12_common 10 = .ok (.lload_n 2, 1) := by decide +kernel
theorem dX12_common_11 : decode cX12_common 11 = .ok (.lload_n 0, 1) := by decide +kernel
theorem dX12_common_12 : decode cX12_common 12 = .ok (.lload_n 2, 1) := by decide +kernel
theorem dX12_common_13 : decode cX12_common 13 = .ok (.lrem, 1) := by decide +kernel
theorem dX12_common_14 : decode cX12_common 14 = .ok (.invokestatic 7, 3) := by decide +kernel
theorem dX12_common_17 : decode cX12_common 17 = .ok (.lreturn, 1) := by decide +kernel
theorem dX12_enters_0 : decode cX12_enters 0 = .ok (.aload_n 0, 1) := by decide +kernel
theorem dX12_enters_1 : decode cX12_enters 1 = .ok (.getfield 11, 3) := by decide +kernel
theorem dX12_enters_4 : decode cX12_enters 4 = .ok (.aload_n 0, 1) := by decide +kernel
theorem dX12_enters_5 : decode cX12_enters 5 = .ok (.getfield 15, 3) := by decide +kernel
theorem dX12_enters_8 : decode cX12_enters 8 = .ok (.lload_n 1, 1) := by decide +kernel
theorem dX12_enters_9 : decode cX12_enters 9 = .ok (.lastore, 1) := by decide +kernel
theorem dX12_enters_10 : decode cX12_enters 10 = .ok (.aload_n 0, 1) := by decide +kernel
theorem dX12_enters_11 : decode cX12_enters 11 = .ok (.dup, 1) := by decide +kernel
theorem dX12_enters_12 : decode cX12_enters 12 = .ok (.getfield 15, 3) := by decide +kernel
theorem dX12_enters_15 : decode cX12_enters 15 = .ok (.iconst 1, 1) := by decide +kernel
theorem dX12_enters_16 : decode cX12_enters 16 = .ok (.iadd, 1) := by decide +kernel
theorem dX12_enters_17 : decode cX12_enters 17 = .ok (.putfield 15, 3) := by decide +kernel
theorem dX12_enters_20 : decode cX12_enters 20 = .ok (.return_, 1) := by decide +kernel
theorem dX12_init_0 : decode cX12_init 0 = .ok (.aload_n 0, 1) := by decide +kernel
theorem dX12_init_1 : decode cX12_init 1 = .ok (.invokespecial 18, 3) := by decide +kernel
theorem dX12_init_4 : decode cX12_init 4 = .ok (.aload_n 0, 1) := by decide +kernel
theorem dX12_init_5 : decode cX12_init 5 = .ok (.bipush 36, 2) := by decide +kernel
theorem dX12_init_7 : decode cX12_init 7 = .ok (.newarray .long, 2) := by decide +kernel
theorem dX12_init_9 : decode cX12_init 9 = .ok (.putfield 11, 3) := by decide +kernel
theorem dX12_init_12 : decode cX12_init 12 = .ok (.aload_n 0, 1) := by decide +kernel
theorem dX12_init_13 : decode cX12_init 13 = .ok (.iconst 1, 1) := by decide +kernel
theorem dX12_init_14 : decode cX12_init 14 = .ok (.putfield 24, 3) := by decide +kernel
theorem dX12_init_17 : decode cX12_init 17 = .ok (.aload_n 0, 1) := by decide +kernel
theorem dX12_init_18 : decode cX12_init 18 = .ok (.iconst 1, 1) := by decide +kernel
theorem dX12_init_19 : decode cX12_init 19 = .ok (.putfield 27, 3) := by decide +kernel
theorem dX12_init_22 : decode cX12_init 22 = .ok (.aload_n 0, 1) := by decide +kernel
theorem dX12_init_23 : decode cX12_init 23 = .ok (.bipush 8, 2) := by decide +kernel
theorem dX12_init_25 : decode cX12_init 25 = .ok (.newarray .int, 2) := by decide +kernel
theorem dX12_init_27 : decode cX12_init 27 = .ok (.putfield 30, 3) := by decide +kernel
theorem dX12_init_30 : decode cX12_init 30 = .ok (.aload_n 0, 1) := by decide +kernel
theorem dX12_init_31 : decode cX12_init 31 = .ok (.bipush 8, 2) := by decide +kernel
theorem dX12_init_33 : decode cX12_init 33 = .ok (.newarray .int, 2) := by decide +kernel
theorem dX12_init_35 : decode cX12_init 35 = .ok (.putfield 34, 3) := by decide +kernel
theorem dX12_init_38 : decode cX12_init 38 = .ok (.aload_n 0, 1) := by decide +kernel
theorem dX12_init_39 : decode cX12_init 39 = .ok (.bipush 8, 2) := by decide +kernel
theorem dX12_init_41 : decode cX12_init 41 = .ok (.newarray .int, 2) := by decide +kernel
theorem dX12_init_43 : decode cX12_init 43 = .ok (.putfield 37, 3) := by decide +kernel
theorem dX12_init_46 : decode cX12_init 46 = .ok (.aload_n 0, 1) := by decide +kernel
theorem dX12_init_47 : decode cX12_init 47 = .ok (.bipush 8, 2) := by decide +kernel
theorem dX12_init_49 : decode cX12_init 49 = .ok (.newarray .int, 2) := by decide +kernel
theorem dX12_init_51 : decode cX12_init 51 = .ok (.putfield 40, 3) := by decide +kernel
theorem dX12_init_54 : decode cX12_init 54 = .ok (.aload_n 0, 1) := by decide +kernel
theorem dX12_init_55 : decode cX12_init 55 = .ok (.iconst 4, 1) := by decide +kernel
theorem dX12_init_56 : decode cX12_init 56 = .ok (.newarray .int, 2) := by decide +kernel
theorem dX12_init_58 : decode cX12_init 58 = .ok (.putfield 43, 3) := by decide +kernel
theorem dX12_init_61 : decode cX12_init 61 = .ok (.aload_n 0, 1) := by decide +kernel
theorem dX12_init_62 : decode cX12_init 62 = .ok (.iconst 4, 1) := by decide +kernel
theorem dX12_init_63 : decode cX12_init 63 = .ok (.newarray .int, 2) := by decide +kernel
theorem dX12_init_65 : decode cX12_init 65 = .ok (.putfield 46, 3) := by decide +kernel
theorem dX12_init_68 : decode cX12_init 68 = .ok (.aload_n 0, 1) := by decide +kernel
theorem dX12_init_69 : decode cX12_init 69 = .ok (.bipush 26, 2) := by decide +kernel
theorem dX12_init_71 : decode cX12_init 71 = .ok (.newarray .int, 2) := by decide +kernel
theorem dX12_init_73 : decode cX12_init 73 = .ok (.putfield 49, 3) := by decide +kernel
theorem dX12_init_76 : decode cX12_init 76 = .ok (.aload_n 0, 1) := by decide +kernel
theorem dX12_init_77 : decode cX12_init 77 = .ok (.bipush 26, 2) := by decide +kernel
theorem dX12_init_79 : decode cX12_init 79 = .ok (.newarray .int, 2) := by decide +kernel
theorem dX12_init_81 : decode cX12_init 81 = .ok (.putfield 52, 3) := by decide +kernel
theorem dX12_init_84 : decode cX12_init 84 = .ok (.aload_n 0, 1) := by decide +kernel
theorem dX12_init_85 : decode cX12_init 85 = .ok (.bipush 80, 2) := by decide +kernel
theorem dX12_init_87 : decode cX12_init 87 = .ok (.newarray .int, 2) := by decide +kernel
theorem dX12_init_89 : decode cX12_init 89 = .ok (.putfield 55, 3) := by decide +kernel
theorem dX12_init_92 : decode cX12_init 92 = .ok (.aload_n 0, 1) := by decide +kernel
theorem dX12_init_93 : decode cX12_init 93 = .ok (.bipush 32, 2) := by decide +kernel
theorem dX12_init_95 : decode cX12_init 95 = .ok (.newarray .int, 2) := by decide +kernel
theorem dX12_init_97 : decode cX12_init 97 = .ok (.putfield 58, 3) := by decide +kernel
theorem dX12_init_100 : decode cX12_init 100 = .ok (.aload_n 0, 1) := by decide +kernel
theorem dX12_init_101 : decode cX12_init 101 = .ok (.bipush 80, 2) := by decide +kernel
theorem dX12_init_103 : decode cX12_init 103 = .ok (.newarray .int, 2) := by decide +kernel
theorem dX12_init_105 : decode cX12_init 105 = .ok (.putfield 61, 3) := by decide +kernel
theorem dX12_init_108 : decode cX12_init 108 = .ok (.aload_n 0, 1) := by decide +kernel
theorem dX12_init_109 : decode cX12_init 109 = .ok (.bipush 80, 2) := by decide +kernel
theorem dX12_init_111 : decode cX12_init 111 = .ok (.newarray .int, 2) := by decide +kernel
theorem dX12_init_113 : decode cX12_init 113 = .ok (.putfield 64, 3) := by decide +kernel
theorem dX12_init_116 : decode cX12_init 116 = .ok (.aload_n 0, 1) := by decide +kernel
theorem dX12_init_117 : decode cX12_init 117 = .ok (.bipush 80, 2) := by decide +kernel
theorem dX12_init_119 : decode cX12_init 119 = .ok (.newarray .int, 2) := by decide +kernel
theorem dX12_init_121 : decode cX12_init 121 = .ok (.putfield 67, 3) := by decide +kernel
theorem dX12_init_124 : decode cX12_init 124 = .ok (.aload_n 0, 1) := by decide +kernel
theorem dX12_init_125 : decode cX12_init 125 = .ok (.bipush 6, 2) := by decide +kernel
theorem dX12_init_127 : decode cX12_init 127 = .ok (.newarray .int, 2) := by decide +kernel
theorem dX12_init_129 : decode cX12_init 129 = .ok (.putfield 70, 3) := by decide +kernel
theorem dX12_init_132 : decode cX12_init 132 = .ok (.aload_n 0, 1) := by decide +kernel
theorem dX12_init_133 : decode cX12_init 133 = .ok (.sipush 416, 3) := by decide +kernel
theorem dX12_init_136 : decode cX12_init 136 = .ok (.newarray .int, 2) := by decide +kernel
theorem dX12_init_138 : decode cX12_init 138 = .ok (.putfield 73, 3) := by decide +kernel
theorem dX12_init_141 : decode cX12_init 141 = .ok (.aload_n 0, 1) := by decide +kernel
theorem dX12_init_142 : decode cX12_init 142 = .ok (.iconst 4, 1) := by decide +kernel
theorem dX12_init_143 : decode cX12_init 143 = .ok (.newarray .int, 2) := by decide +kernel
theorem dX12_init_145 : decode cX12_init 145 = .ok (.putfield 76, 3) := by decide +kernel
theorem dX12_init_148 : decode cX12_init 148 = .ok (.aload_n 0, 1) := by decide +kernel
theorem dX12_init_149 : decode cX12_init 149 = .ok (.bipush 60, 2) := by decide +kernel
theorem dX12_init_151 : decode cX12_init 151 = .ok (.newarray .int, 2) := by decide +kernel
theorem dX12_init_153 : decode cX12_init 153 = .ok (.putfield 79, 3) := by decide +kernel
theorem dX12_init_156 : decode cX12_init 156 = .ok (.aload_n 0, 1) := by decide +kernel
theorem dX12_init_157 : decode cX12_init 157 = .ok (.bipush 60, 2) := by decide +kernel
theorem dX12_init_159 : decode cX12_init 159 = .ok (.newarray .int, 2) := by decide +kernel
theorem dX12_init_161 : decode cX12_init 161 = .ok (.putfield 82, 3) := by decide +kernel
theorem dX12_init_164 : decode cX12_init 164 = .ok (.aload_n 0, 1) := by decide +kernel
theorem dX12_init_165 : decode cX12_init 165 = .ok (.bipush 60, 2) := by decide +kernel
theorem dX12_init_167 : decode cX12_init 167 = .ok (.newarray .int, 2) := by decide +kernel
theorem dX12_init_169 : decode cX12_init 169 = .ok (.putfield 85, 3) := by decide +kernel
theorem dX12_init_172 : decode cX12_init 172 = .ok (.aload_n 0, 1) := by decide +kernel
theorem dX12_init_173 : decode cX12_init 173 = .ok (.bipush 60, 2) := by decide +kernel
theorem dX12_init_175 : decode cX12_init 175 = .ok (.newarray .int, 2) := by decide +kernel
theorem dX12_init_177 : decode cX12_init 177 = .ok (.putfield 88, 3) := by decide +kernel
theorem dX12_init_180 : decode cX12_init 180 = .ok (.aload_n 0, 1) := by decide +kernel
theorem dX12_init_181 : decode cX12_init 181 = .ok (.bipush 60, 2) := by decide +kernel
theorem dX12_init_183 : decode cX12_init 183 = .ok (.newarray .int, 2) := by decide +kernel
theorem dX12_init_185 : decode cX12_init 185 = .ok (.putfield 91, 3) := by decide +kernel
theorem dX12_init_188 : decode cX12_init 188 = .ok (.aload_n 0, 1) := by decide +kernel
theorem dX12_init_189 : decode cX12_init 189 = .ok (.bipush 36, 2) := by decide +kernel
theorem dX12_init_191 : decode cX12_init 191 = .ok (.newarray .boolean, 2) := by decide +kernel
theorem dX12_init_193 : decode cX12_init 193 = .ok (.putfield 94, 3) := by decide +kernel
theorem dX12_init_196 : decode cX12_init 196 = .ok (.aload_n 0, 1) := by decide +kernel
theorem dX12_init_197 : decode cX12_init 197 = .ok (.bipush 36, 2) := by decide +kernel
theorem dX12_init_199 : decode cX12_init 199 = .ok (.newarray .int, 2) := by decide +kernel
theorem dX12_init_201 : decode cX12_init 201 = .ok (.putfield 98, 3) := by decide +kernel
theorem dX12_init_204 : decode cX12_init 204 = .ok (.aload_n 0, 1) := by decide +kernel
theorem dX12_init_205 : decode cX12_init 205 = .ok (.bipush 36, 2) := by decide +kernel
theorem dX12_init_207 : decode cX12_init 207 = .ok (.newarray .boolean, 2) := by decide +kernel
theorem dX12_init_209 : decode cX12_init 209 = .ok (.putfield 101, 3) := by decide +kernel
theorem dX12_init_212 : decode cX12_init 212 = .ok (.aload_n 0, 1) := by decide +kernel
theorem dX12_init_213 : decode cX12_init 213 = .ok (.bipush 36, 2) := by decide +kernel
theorem dX12_init_215 : decode cX12_init 215 = .ok (.newarray .boolean, 2) := by decide +kernel
theorem dX12_init_217 : decode cX12_init 217 = .ok (.putfield 104, 3) := by decide +kernel
theorem dX12_init_220 : decode cX12_init 220 = .ok (.aload_n 0, 1) := by decide +kernel
theorem dX12_init_221 : decode cX12_init 221 = .ok (.bipush 12, 2) := by decide +kernel
theorem dX12_init_223 : decode cX12_init 223 = .ok (.newarray .int, 2) := by decide +kernel
theorem dX12_init_225 : decode cX12_init 225 = .ok (.putfield 107, 3) := by decide +kernel
theorem dX12_init_228 : decode cX12_init 228 = .ok (.aload_n 0, 1) := by decide +kernel
theorem dX12_init_229 : decode cX12_init 229 = .ok (.bipush 12, 2) := by decide +kernel
theorem dX12_init_231 : decode cX12_init 231 = .ok (.newarray .int, 2) := by decide +kernel
theorem dX12_init_233 : decode cX12_init 233 = .ok (.putfield 110, 3) := by decide +kernel
theorem dX12_init_236 : decode cX12_init 236 = .ok (.aload_n 0, 1) := by decide +kernel
theorem dX12_init_237 : decode cX12_init 237 = .ok (.bipush 12, 2) := by decide +kernel
theorem dX12_init_239 : decode cX12_init 239 = .ok (.newarray .int, 2) := by decide +kernel
theorem dX12_init_241 : decode cX12_init 241 = .ok (.putfield 113, 3) := by decide +kernel
theorem dX12_init_244 : decode cX12_init 244 = .ok (.aload_n 0, 1) := by decide +kernel
theorem dX12_init_245 : decode cX12_init 245 = .ok (.sipush 2560, 3) := by decide +kernel
theorem dX12_init_248 : decode cX12_init 248 = .ok (.newarray .boolean, 2) := by decide +kernel
theorem dX12_init_250 : decode cX12_init 250 = .ok (.putfield 116, 3) := by decide +kernel
theorem dX12_init_253 : decode cX12_init 253 = .ok (.aload_n 0, 1) := by decide +kernel
theorem dX12_init_254 : decode cX12_init 254 = .ok (.bipush 8, 2) := by decide +kernel
theorem dX12_init_256 : decode cX12_init 256 = .ok (.newarray .int, 2) := by decide +kernel
theorem dX12_init_258 : decode cX12_init 258 = .ok (.putfield 119, 3) := by decide +kernel
theorem dX12_init_261 : decode cX12_init 261 = .ok (.aload_n 0, 1) := by decide +kernel
theorem dX12_init_262 : decode cX12_init 262 = .ok (.bipush 8, 2) := by decide +kernel
theorem dX12_init_264 : decode cX12_init 264 = .ok (.newarray .int, 2) := by decide +kernel
theorem dX12_init_266 : decode cX12_init 266 = .ok (.putfield 122, 3) := by decide +kernel
theorem dX12_init_269 : decode cX12_init 269 = .ok (.aload_n 0, 1) := by decide +kernel
theorem dX12_init_270 : decode cX12_init 270 = .ok (.bipush 8, 2) := by decide +kernel
theorem dX12_init_272 : decode cX12_init 272 = .ok (.newarray .int, 2) := by decide +kernel
theorem dX12_init_274 : decode cX12_init 274 = .ok (.putfield 125, 3) := by decide +kernel
theorem dX12_init_277 : decode cX12_init 277 = .ok (.aload_n 0, 1) := by decide +kernel
theorem dX12_init_278 : decode cX12_init 278 = .ok (.bipush 80, 2) := by decide +kernel
theorem dX12_init_280 : decode cX12_init 280 = .ok (.newarray .int, 2) := by decide +kernel
theorem dX12_init_282 : decode cX12_init 282 = .ok (.putfield 128, 3) := by decide +kernel
theorem dX12_init_285 : decode cX12_init 285 = .ok (.aload_n 0, 1) := by decide +kernel
theorem dX12_init_286 : decode cX12_init 286 = .ok (.iconst 3, 1) := by decide +kernel
theorem dX12_init_287 : decode cX12_init 287 = .ok (.newarray .boolean, 2) := by decide +kernel
theorem dX12_init_289 : decode cX12_init 289 = .ok (.putfield 131, 3) := by decide +kernel
theorem dX12_init_292 : decode cX12_init 292 = .ok (.aload_n 0, 1) := by decide +kernel
theorem dX12_init_293 : decode cX12_init 293 = .ok (.iconst 3, 1) := by decide +kernel
theorem dX12_init_294 : decode cX12_init 294 = .ok (.newarray .int, 2) := by decide +kernel
theorem dX12_init_296 : decode cX12_init 296 = .ok (.putfield 134, 3) := by decide +kernel
theorem dX12_init_299 : decode cX12_init 299 = .ok (.aload_n 0, 1) := by decide +kernel
theorem dX12_init_300 : decode cX12_init 300 = .ok (.bipush 78, 2) := by decide +kernel
theorem dX12_init_302 : decode cX12_init 302 = .ok (.newarray .int, 2) := by decide +kernel
theorem dX12_init_304 : decode cX12_init 304 = .ok (.putfield 137, 3) := by decide +kernel
theorem dX12_init_307 : decode cX12_init 307 = .ok (.iconst 0, 1) := by decide +kernel
theorem dX12_init_308 : decode cX12_init 308 = .ok (.istore_n 1, 1) := by decide +kernel
theorem dX12_init_309 : decode cX12_init 309 = .ok (.iload_n 1, 1) := by decide +kernel
theorem dX12_init_310 : decode cX12_init 310 = .ok (.bipush 8, 2) := by decide +kernel
theorem dX12_init_312 : decode cX12_init 312 = .ok (.if_icmp .ge 19, 3) := by decide +kernel
theorem dX12_init_315 : decode cX12_init 315 = .ok (.aload_n 0, 1) := by decide +kernel
theorem dX12_init_316 : decode cX12_init 316 = .ok (.getfield 49, 3) := by decide +kernel
theorem dX12_init_319 : decode cX12_init 319 = .ok (.bipush 16, 2) := by decide +kernel
theorem dX12_init_321 : decode cX12_init 321 = .ok (.iload_n 1, 1) := by decide +kernel
theorem dX12_init_322 : decode cX12_init 322 = .ok (.iadd, 1) := by decide +kernel
theorem dX12_init_323 : decode cX12_init 323 = .ok (.iconst (-1), 1) := by decide +kernel
theorem dX12_init_324 : decode cX12_init 324 = .ok (.iastore, 1) := by decide +kernel
theorem dX12_init_325 : decode cX12_init 325 = .ok (.iinc 1 1, 3) := by decide +kernel
theorem dX12_init_328 : decode cX12_init 328 = .ok (.goto (-19), 3) := by decide +kernel
theorem dX12_init_331 : decode cX12_init 331 = .ok (.return_, 1) := by decide +kernel
theorem dX12_isThing_0 : decode cX12_isThing 0 = .ok (.iload_n 1, 1) := by decide +kernel
theorem dX12_isThing_1 : decode cX12_isThing 1 = .ok (.i2l, 1) := by decide +kernel
theorem dX12_isThing_2 : decode cX12_isThing 2 = .ok (.lconst 0, 1) := by decide +kernel
theorem dX12_isThing_3 : decode cX12_isThing 3 = .ok (.aload_n 0, 1) := by decide +kernel
theorem dX12_isThing_4 : decode cX12_isThing 4 = .ok (.getfield 140, 3) := by decide +kernel
theorem dX12_isThing_7 : decode cX12_isThing 7 = .ok (.iconst 1, 1) := by decide +kernel
theorem dX12_isThing_8 : decode cX12_isThing 8 = .ok (.isub, 1) := by decide +kernel
theorem dX12_isThing_9 : decode cX12_isThing 9 = .ok (.i2l, 1) := by decide +kernel
theorem dX12_isThing_10 : decode cX12_isThing 10 = .ok (.invokestatic 143, 3) := by decide +kernel
theorem dX12_isThing_13 : decode cX12_isThing 13 = .ok (.ireturn, 1) := by decide +kernel
theorem dX12_isPane_0 : decode cX12_isPane 0 = .ok (.iload_n 1, 1) := by decide +kernel
theorem dX12_isPane_1 : decode cX12_isPane 1 = .ok (.i2l, 1) := by decide +kernel
theorem dX12_isPane_2 : decode cX12_isPane 2 = .ok (.lconst 0, 1) := by decide +kernel
theorem dX12_isPane_3 : decode cX12_isPane 3 = .ok (.aload_n 0, 1) := by decide +kernel
theorem dX12_isPane_4 : decode cX12_isPane 4 = .ok (.getfield 147, 3) := by decide +kernel
theorem dX12_isPane_7 : decode cX12_isPane 7 = .ok (.iconst 1, 1) := by decide +kernel
theorem dX12_isPane_8 : decode cX12_isPane 8 = .ok (.isub, 1) := by decide +kernel
theorem dX12_isPane_9 : decode cX12_isPane 9 = .ok (.i2l, 1) := by decide +kernel
theorem dX12_isPane_10 : decode cX12_isPane 10 = .ok (.invokestatic 143, 3) := by decide +kernel
theorem dX12_isPane_13 : decode cX12_isPane 13 = .ok (.ireturn, 1) := by decide +kernel
theorem dX12_isRoom_0 : decode cX12_isRoom 0 = .ok (.iload_n 1, 1) := by decide +kernel
theorem dX12_isRoom_1 : decode cX12_isRoom 1 = .ok (.i2l, 1) := by decide +kernel
theorem dX12_isRoom_2 : decode cX12_isRoom 2 = .ok (.lconst 0, 1) := by decide +kernel
theorem dX12_isRoom_3 : decode cX12_isRoom 3 = .ok (.aload_n 0, 1) := by decide +kernel
theorem dX12_isRoom_4 : decode cX12_isRoom 4 = .ok (.getfield 150, 3) := by decide +kernel
theorem dX12_isRoom_7 : decode cX12_isRoom 7 = .ok (.iconst 1, 1) := by decide +kernel
theorem dX12_isRoom_8 : decode cX12_isRoom 8 = .ok (.isub, 1) := by decide +kernel
theorem dX12_isRoom_9 : decode cX12_isRoom 9 = .ok (.i2l, 1) := by decide +kernel
theorem dX12_isRoom_10 : decode cX12_isRoom 10 = .ok (.invokestatic 143, 3) := by decide +kernel
theorem dX12_isRoom_13 : decode cX12_isRoom 13 = .ok (.ireturn, 1) := by decide +kernel
theorem dX12_isField_0 : decode cX12_isField 0 = .ok (.iload_n 1, 1) := by decide +kernel
theorem dX12_isField_1 : decode cX12_isField 1 = .ok (.i2l, 1) := by decide +kernel
theorem dX12_isField_2 : decode cX12_isField 2 = .ok (.lconst 0, 1) := by decide +kernel
theorem dX12_isField_3 : decode cX12_isField 3 = .ok (.aload_n 0, 1) := by decide +kernel
theorem dX12_isField_4 : decode cX12_isField 4 = .ok (.getfield 24, 3) := by decide +kernel
theorem dX12_isField_7 : decode cX12_isField 7 = .ok (.aload_n 0, 1) := by decide +kernel
theorem dX12_isField_8 : decode cX12_isField 8 = .ok (.getfield 27, 3) := by decide +kernel
theorem dX12_isField_11 : decode cX12_isField 11 = .ok (.imul, 1) := by decide +kernel
theorem dX12_isField_12 : decode cX12_isField 12 = .ok (.iconst 1, 1) := by decide +kernel
theorem dX12_isField_13 : decode cX12_isField 13 = .ok (.isub, 1) := by decide +kernel
theorem dX12_isField_14 : decode cX12_isField 14 = .ok (.i2l, 1) := by decide +kernel
theorem dX12_isField_15 : decode cX12_isField 15 = .ok (.invokestatic 143, 3) := by decide +kernel
theorem dX12_isField_18 : decode cX12_isField 18 = .ok (.ireturn, 1) := by decide +kernel
theorem dX12_all_0 : decode cX12_all 0 = .ok (.iconst 1, 1) := by decide +kernel
theorem dX12_all_1 : decode cX12_all 1 = .ok (.iload_n 0, 1) := by decide +kernel
theorem dX12_all_2 : decode cX12_all 2 = .ok (.ishl, 1) := by decide +kernel
theorem dX12_all_3 : decode cX12_all 3 = .ok (.iconst 1, 1) := by decide +kernel
theorem dX12_all_4 : decode cX12_all 4 = .ok (.isub, 1) := by decide +kernel
theorem dX12_all_5 : decode cX12_all 5 = .ok (.ireturn, 1) := by decide +kernel
theorem dX12_far_0 : decode cX12_far 0 = .ok (.iload_n 1, 1) := by decide +kernel
theorem dX12_far_1 : decode cX12_far 1 = .ok (.aload_n 0, 1) := by decide +kernel
theorem dX12_far_2 : decode cX12_far 2 = .ok (.getfield 27, 3) := by decide +kernel
theorem dX12_far_5 : decode cX12_far 5 = .ok (.idiv, 1) := by decide +kernel
theorem dX12_far_6 : decode cX12_far 6 = .ok (.iload_n 2, 1) := by decide +kernel
theorem dX12_far_7 : decode cX12_far 7 = .ok (.aload_n 0, 1) := by decide +kernel
theorem dX12_far_8 : decode cX12_far 8 = .ok (.getfield 27, 3) := by decide +kernel
theorem dX12_far_11 : decode cX12_far 11 = .ok (.idiv, 1) := by decide +kernel
theorem dX12_far_12 : decode cX12_far 12 = .ok (.isub, 1) := by decide +kernel
theorem dX12_far_13 : decode cX12_far 13 = .ok (.invokestatic 153, 3) := by decide +kernel
theorem dX12_far_16 : decode cX12_far 16 = .ok (.iload_n 1, 1) := by decide +kernel
theorem dX12_far_17 : decode cX12_far 17 = .ok (.aload_n 0, 1) := by decide +kernel
theorem dX12_far_18 : decode cX12_far 18 = .ok (.getfield 27, 3) := by decide +kernel
theorem dX12_far_21 : decode cX12_far 21 = .ok (.irem, 1) := by decide +kernel
theorem dX12_far_22 : decode cX12_far 22 = .ok (.iload_n 2, 1) := by decide +kernel
theorem dX12_far_23 : decode cX12_far 23 = .ok (.aload_n 0, 1) := by decide +kernel
theorem dX12_far_24 : decode cX12_far 24 = .ok (.getfield 27, 3) := by decide +kernel
theorem dX12_far_27 : decode cX12_far 27 = .ok (.irem, 1) := by decide +kernel
theorem dX12_far_28 : decode cX12_far 28 = .ok (.isub, 1) := by decide +kernel
theorem dX12_far_29 : decode cX12_far 29 = .ok (.invokestatic 153, 3) := by decide +kernel
theorem dX12_far_32 : decode cX12_far 32 = .ok (.iadd, 1) := by decide +kernel
theorem dX12_far_33 : decode cX12_far 33 = .ok (.ireturn, 1) := by decide +kernel
theorem dX12_beside_0 : decode cX12_beside 0 = .ok (.iload_n 1, 1) := by decide +kernel
theorem dX12_beside_1 : decode cX12_beside 1 = .ok (.aload_n 0, 1) := by decide +kernel
theorem dX12_beside_2 : decode cX12_beside 2 = .ok (.getfield 27, 3) := by decide +kernel
theorem dX12_beside_5 : decode cX12_beside 5 = .ok (.idiv, 1) := by decide +kernel
theorem dX12_beside_6 : decode cX12_beside 6 = .ok (.iload_n 2, 1) := by decide +kernel
theorem dX12_beside_7 : decode cX12_beside 7 = .ok (.iconst 2, 1) := by decide +kernel
theorem dX12_beside_8 : decode cX12_beside 8 = .ok (.if_icmp .ne 7, 3) := by decide +kernel
theorem dX12_beside_11 : decode cX12_beside 11 = .ok (.iconst 1, 1) := by decide +kernel
theorem dX12_beside_12 : decode cX12_beside 12 = .ok (.goto 12, 3) := by decide +kernel
theorem dX12_beside_15 : decode cX12_beside 15 = .ok (.iload_n 2, 1) := by decide +kernel
theorem dX12_beside_16 : decode cX12_beside 16 = .ok (.ifCond .ne 7, 3) := by decide +kernel
theorem dX12_beside_19 : decode cX12_beside 19 = .ok (.iconst (-1), 1) := by decide +kernel
theorem dX12_beside_20 : decode cX12_beside 20 = .ok (.goto 4, 3) := by decide +kernel
theorem dX12_beside_23 : decode cX12_beside 23 = .ok (.iconst 0, 1) := by decide +kernel
theorem dX12_beside_24 : decode cX12_beside 24 = .ok (.iadd, 1) := by decide +kernel
theorem dX12_beside_25 : decode cX12_beside 25 = .ok (.istore_n 3, 1) := by decide +kernel
theorem dX12_beside_26 : decode cX12_beside 26 = .ok (.iload_n 1, 1) := by decide +kernel
theorem dX12_beside_27 : decode cX12_beside 27 = .ok (.aload_n 0, 1) := by decide +kernel
theorem dX12_beside_28 : decode cX12_beside 28 = .ok (.getfield 27, 3) := by decide +kernel
theorem dX12_beside_31 : decode cX12_beside 31 = .ok (.irem, 1) := by decide +kernel
theorem dX12_beside_32 : decode cX12_beside 32 = .ok (.iload_n 2, 1) := by decide +kernel
theorem dX12_beside_33 : decode cX12_beside 33 = .ok (.iconst 1, 1) := by decide +kernel
theorem dX12_beside_34 : decode cX12_beside 34 = .ok (.if_icmp .ne 7, 3) := by decide +kernel
theorem dX12_beside_37 : decode cX12_beside 37 = .ok (.iconst 1, 1) := by decide +kernel
theorem dX12_beside_38 : decode cX12_beside 38 = .ok (.goto 13, 3) := by decide +kernel
theorem dX12_beside_41 : decode cX12_beside 41 = .ok (.iload_n 2, 1) := by decide +kernel
theorem dX12_beside_42 : decode cX12_beside 42 = .ok (.iconst 3, 1) := by decide +kernel
theorem dX12_beside_43 : decode cX12_beside 43 = .ok (.if_icmp .ne 7, 3) := by decide +kernel
theorem dX12_beside_46 : decode cX12_beside 46 = .ok (.iconst (-1), 1) := by decide +kernel
theorem dX12_beside_47 : decode cX12_beside 47 = .ok (.goto 4, 3) := by decide +kernel
theorem dX12_beside_50 : decode cX12_beside 50 = .ok (.iconst 0, 1) := by decide +kernel
theorem dX12_beside_51 : decode cX12_beside 51 = .ok (.iadd, 1) := by decide +kernel
theorem dX12_beside_52 : decode cX12_beside 52 = .ok (.istore 4, 2) := by decide +kernel
theorem dX12_beside_54 : decode cX12_beside 54 = .ok (.iload_n 3, 1) := by decide +kernel
theorem dX12_beside_55 : decode cX12_beside 55 = .ok (.i2l, 1) := by decide +kernel
theorem dX12_beside_56 : decode cX12_beside 56 = .ok (.lconst 0, 1) := by decide +kernel
theorem dX12_beside_57 : decode cX12_beside 57 = .ok (.aload_n 0, 1) := by decide +kernel
theorem dX12_beside_58 : decode cX12_beside 58 = .ok (.getfield 24, 3) := by decide +kernel
theorem dX12_beside_61 : decode cX12_beside 61 = .ok (.iconst 1, 1) := by decide +kernel
theorem dX12_beside_62 : decode cX12_beside 62 = .ok (.isub, 1) := by decide +kernel
theorem dX12_beside_63 : decode cX12_beside 63 = .ok (.i2l, 1) := by decide +kernel
theorem dX12_beside_64 : decode cX12_beside 64 = .ok (.invokestatic 143, 3) := by decide +kernel
theorem dX12_beside_67 : decode cX12_beside 67 = .ok (.ifCond .eq 32, 3) := by decide +kernel
theorem dX12_beside_70 : decode cX12_beside 70 = .ok (.iload 4, 2) := by decide +kernel
theorem dX12_beside_72 : decode cX12_beside 72 = .ok (.i2l, 1) := by decide +kernel
theorem dX12_beside_73 : decode cX12_beside 73 = .ok (.lconst 0, 1) := by decide +kernel
theorem dX12_beside_74 : decode cX12_beside 74 = .ok (.aload_n 0, 1) := by decide +kernel
theorem dX12_beside_75 : decode cX12_beside 75 = .ok (.getfield 27, 3) := by decide +kernel
theorem dX12_beside_78 : decode cX12_beside 78 = .ok (.iconst 1, 1) := by decide +kernel
theorem dX12_beside_79 : decode cX12_beside 79 = .ok (.isub, 1) := by decide +kernel
theorem dX12_beside_80 : decode cX12_beside 80 = .ok (.i2l, 1) := by decide +kernel
theorem dX12_beside_81 : decode cX12_beside 81 = .ok (.invokestatic 143, 3) := by decide +kernel
theorem dX12_beside_84 : decode cX12_beside 84 = .ok (.ifCond .eq 15, 3) := by decide +kernel
theorem dX12_beside_87 : decode cX12_beside 87 = .ok (.aload_n 0, 1) := by decide +kernel
theorem dX12_beside_88 : decode cX12_beside 88 = .ok (.getfield 27, 3) := by decide +kernel
theorem dX12_beside_91 : decode cX12_beside 91 = .ok (.iload_n 3, 1) := by decide +kernel
theorem dX12_beside_92 : decode cX12_beside 92 = .ok (.imul, 1) := by decide +kernel
theorem dX12_beside_93 : decode cX12_beside 93 = .ok (.iload 4, 2) := by decide +kernel
theorem dX12_beside_95 : decode cX12_beside 95 = .ok (.iadd, 1) := by decide +kernel
theorem dX12_beside_96 : decode cX12_beside 96 = .ok (.goto 4, 3) := by decide +kernel
theorem dX12_beside_99 : decode cX12_beside 99 = .ok (.iconst (-1), 1) := by decide +kernel
theorem dX12_beside_100 : decode cX12_beside 100 = .ok (.ireturn, 1) := by decide +kernel
theorem dX12_sign_0 : decode cX12_sign 0 = .ok (.aload_n 0, 1) := by decide +kernel
theorem dX12_sign_1 : decode cX12_sign 1 = .ok (.iconst 0, 1) := by decide +kernel
theorem dX12_sign_2 : decode cX12_sign 2 = .ok (.putfield 3, 3) := by decide +kernel
theorem dX12_sign_5 : decode cX12_sign 5 = .ok (.aload_n 0, 1) := by decide +kernel
theorem dX12_sign_6 : decode cX12_sign 6 = .ok (.getfield 159, 3) := by decide +kernel
theorem dX12_sign_9 : decode cX12_sign 9 = .ok (.bipush 76, 2) := by decide +kernel
theorem dX12_sign_11 : decode cX12_sign 11 = .ok (.if_icmp .le 5, 3) := by decide +kernel
theorem dX12_sign_14 : decode cX12_sign 14 = .ok (.iconst (-1), 1) := by decide +kernel
theorem dX12_sign_15 : decode cX12_sign 15 = .ok (.ireturn, 1) := by decide +kernel
theorem dX12_sign_16 : decode cX12_sign 16 = .ok (.iconst 0, 1) := by decide +kernel
theorem dX12_sign_17 : decode cX12_sign 17 = .ok (.istore_n 2, 1) := by decide +kernel
theorem dX12_sign_18 : decode cX12_sign 18 = .ok (.iload_n 2, 1) := by decide +kernel
theorem dX12_sign_19 : decode cX12_sign 19 = .ok (.iconst 4, 1) := by decide +kernel
theorem dX12_sign_20 : decode cX12_sign 20 = .ok (.if_icmp .ge 33, 3) := by decide +kernel
theorem dX12_sign_23 : decode cX12_sign 23 = .ok (.aload_n 0, 1) := by decide +kernel
theorem dX12_sign_24 : decode cX12_sign 24 = .ok (.getfield 55, 3) := by decide +kernel
theorem dX12_sign_27 : decode cX12_sign 27 = .ok (.aload_n 0, 1) := by decide +kernel
theorem dX12_sign_28 : decode cX12_sign 28 = .ok (.getfield 159, 3) := by decide +kernel
theorem dX12_sign_31 : decode cX12_sign 31 = .ok (.iload_n 2, 1) := by decide +kernel
theorem dX12_sign_32 : decode cX12_sign 32 = .ok (.iadd, 1) := by decide +kernel
theorem dX12_sign_33 : decode cX12_sign 33 = .ok (.iload_n 1, 1) := by decide +kernel
theorem dX12_sign_34 : decode cX12_sign 34 = .ok (.bipush 24, 2) := by decide +kernel
theorem dX12_sign_36 : decode cX12_sign 36 = .ok (.bipush 8, 2) := by decide +kernel
theorem dX12_sign_38 : decode cX12_sign 38 = .ok (.iload_n 2, 1) := by decide +kernel
theorem dX12_sign_39 : decode cX12_sign 39 = .ok (.imul, 1) := by decide +kernel
theorem dX12_sign_40 : decode cX12_sign 40 = .ok (.isub, 1) := by decide +kernel
theorem dX12_sign_41 : decode cX12_sign 41 = .ok (.ishr, 1) := by decide +kernel
theorem dX12_sign_42 : decode cX12_sign 42 = .ok (.sipush 255, 3) := by decide +kernel
theorem dX12_sign_45 : decode cX12_sign 45 = .ok (.iand, 1) := by decide +kernel
theorem dX12_sign_46 : decode cX12_sign 46 = .ok (.iastore, 1) := by decide +kernel
theorem dX12_sign_47 : decode cX12_sign 47 = .ok (.iinc 2 1, 3) := by decide +kernel
theorem dX12_sign_50 : decode cX12_sign 50 = .ok (.goto (-32), 3) := by decide +kernel
theorem dX12_sign_53 : decode cX12_sign 53 = .ok (.aload_n 0, 1) := by decide +kernel
theorem dX12_sign_54 : decode cX12_sign 54 = .ok (.dup, 1) := by decide +kernel
theorem dX12_sign_55 : decode cX12_sign 55 = .ok (.getfield 159, 3) := by decide +kernel
theorem dX12_sign_58 : decode cX12_sign 58 = .ok (.iconst 4, 1) := by decide +kernel
theorem dX12_sign_59 : decode cX12_sign 59 = .ok (.iadd, 1) := by decide +kernel
theorem dX12_sign_60 : decode cX12_sign 60 = .ok (.putfield 159, 3) := by decide +kernel
theorem dX12_sign_63 : decode cX12_sign 63 = .ok (.aload_n 0, 1) := by decide +kernel
theorem dX12_sign_64 : decode cX12_sign 64 = .ok (.getfield 159, 3) := by decide +kernel
theorem dX12_sign_67 : decode cX12_sign 67 = .ok (.ireturn, 1) := by decide +kernel
theorem dX12_end_0 : decode cX12_end 0 = .ok (.aload_n 0, 1) := by decide +kernel
theorem dX12_end_1 : decode cX12_end 1 = .ok (.iconst 0, 1) := by decide +kernel
theorem dX12_end_2 : decode cX12_end 2 = .ok (.putfield 3, 3) := by decide +kernel
theorem dX12_end_5 : decode cX12_end 5 = .ok (.iload_n 1, 1) := by decide +kernel
theorem dX12_end_6 : decode cX12_end 6 = .ok (.i2l, 1) := by decide +kernel
theorem dX12_end_7 : decode cX12_end 7 = .ok (.lconst 0, 1) := by decide +kernel
theorem dX12_end_8 : decode cX12_end 8 = .ok (.aload_n 0, 1) := by decide +kernel
theorem dX12_end_9 : decode cX12_end 9 = .ok (.getfield 159, 3) := by decide +kernel
theorem dX12_end_12 : decode cX12_end 12 = .ok (.i2l, 1) := by decide +kernel
theorem dX12_end_13 : decode cX12_end 13 = .ok (.invokestatic 143, 3) := by decide +kernel
theorem dX12_end_16 : decode cX12_end 16 = .ok (.ifCond .ne 5, 3) := by decide +kernel
theorem dX12_end_19 : decode cX12_end 19 = .ok (.iconst 0, 1) := by decide +kernel
theorem dX12_end_20 : decode cX12_end 20 = .ok (.ireturn, 1) := by decide +kernel
theorem dX12_end_21 : decode cX12_end 21 = .ok (.aload_n 0, 1) := by decide +kernel
theorem dX12_end_22 : decode cX12_end 22 = .ok (.iload_n 1, 1) := by decide +kernel
theorem dX12_end_23 : decode cX12_end 23 = .ok (.putfield 159, 3) := by decide +kernel
theorem dX12_end_26 : decode cX12_end 26 = .ok (.iconst 1, 1) := by decide +kernel
theorem dX12_end_27 : decode cX12_end 27 = .ok (.ireturn, 1) := by decide +kernel
theorem dX12_begins_0 : decode cX12_begins 0 = .ok (.aload_n 0, 1) := by decide +kernel
theorem dX12_begins_1 : decode cX12_begins 1 = .ok (.getfield 159, 3) := by decide +kernel
theorem dX12_begins_4 : decode cX12_begins 4 = .ok (.istore_n 2, 1) := by decide +kernel
theorem dX12_begins_5 : decode cX12_begins 5 = .ok (.aload_n 0, 1) := by decide +kernel
theorem dX12_begins_6 : decode cX12_begins 6 = .ok (.iconst 0, 1) := by decide +kernel
theorem dX12_begins_7 : decode cX12_begins 7 = .ok (.putfield 159, 3) := by decide +kernel
theorem dX12_begins_10 : decode cX12_begins 10 = .ok (.aload_n 0, 1) := by decide +kernel
theorem dX12_begins_11 : decode cX12_begins 11 = .ok (.iconst 0, 1) := by decide +kernel
theorem dX12_begins_12 : decode cX12_begins 12 = .ok (.putfield 162, 3) := by decide +kernel
theorem dX12_begins_15 : decode cX12_begins 15 = .ok (.aload_n 0, 1) := by decide +kernel
theorem dX12_begins_16 : decode cX12_begins 16 = .ok (.iconst 0, 1) := by decide +kernel
theorem dX12_begins_17 : decode cX12_begins 17 = .ok (.putfield 165, 3) := by decide +kernel
theorem dX12_begins_20 : decode cX12_begins 20 = .ok (.aload_n 0, 1) := by decide +kernel
theorem dX12_begins_21 : decode cX12_begins 21 = .ok (.iload_n 2, 1) := by decide +kernel
theorem dX12_begins_22 : decode cX12_begins 22 = .ok (.iload_n 1, 1) := by decide +kernel
theorem dX12_begins_23 : decode cX12_begins 23 = .ok (.invokestatic 168, 3) := by decide +kernel
theorem dX12_begins_26 : decode cX12_begins 26 = .ok (.putfield 172, 3) := by decide +kernel
theorem dX12_begins_29 : decode cX12_begins 29 = .ok (.iload_n 2, 1) := by decide +kernel
theorem dX12_begins_30 : decode cX12_begins 30 = .ok (.ireturn, 1) := by decide +kernel
theorem dX12_takesSign_0 : decode cX12_takesSign 0 = .ok (.aload_n 0, 1) := by decide +kernel
theorem dX12_takesSign_1 : decode cX12_takesSign 1 = .ok (.getfield 162, 3) := by decide +kernel
theorem dX12_takesSign_4 : decode cX12_takesSign 4 = .ok (.aload_n 0, 1) := by decide +kernel
theorem dX12_takesSign_5 : decode cX12_takesSign 5 = .ok (.getfield 172, 3) := by decide +kernel
theorem dX12_takesSign_8 : decode cX12_takesSign 8 = .ok (.if_icmp .ge 20, 3) := by decide +kernel
theorem dX12_takesSign_11 : decode cX12_takesSign 11 = .ok (.aload_n 0, 1) := by decide +kernel
theorem dX12_takesSign_12 : decode cX12_takesSign 12 = .ok (.getfield 55, 3) := by decide +kernel
theorem dX12_takesSign_15 : decode cX12_takesSign 15 = .ok (.aload_n 0, 1) := by decide +kernel
theorem dX12_takesSign_16 : decode cX12_takesSign 16 = .ok (.getfield 162, 3) := by decide +kernel
theorem dX12_takesSign_19 : decode cX12_takesSign 19 = .ok (.iaload, 1) := by decide +kernel
theorem dX12_takesSign_20 : decode cX12_takesSign 20 = .ok (.iload_n 1, 1) := by decide +kernel
theorem dX12_takesSign_21 : decode cX12_takesSign 21 = .ok (.if_icmp .ne 7, 3) := by decide +kernel
theorem dX12_takesSign_24 : decode cX12_takesSign 24 = .ok (.iconst 1, 1) := by decide +kernel
theorem dX12_takesSign_25 : decode cX12_takesSign 25 = .ok (.goto 4, 3) := by decide +kernel
theorem dX12_takesSign_28 : decode cX12_takesSign 28 = .ok (.iconst 0, 1) := by decide +kernel
theorem dX12_takesSign_29 : decode cX12_takesSign 29 = .ok (.istore_n 2, 1) := by decide +kernel
theorem dX12_takesSign_30 : decode cX12_takesSign 30 = .ok (.aload_n 0, 1) := by decide +kernel
theorem dX12_takesSign_31 : decode cX12_takesSign 31 = .ok (.dup, 1) := by decide +kernel
theorem dX12_takesSign_32 : decode cX12_takesSign 32 = .ok (.getfield 162, 3) := by decide +kernel
theorem dX12_takesSign_35 : decode cX12_takesSign 35 = .ok (.iload_n 2, 1) := by decide +kernel
theorem dX12_takesSign_36 : decode cX12_takesSign 36 = .ok (.invokestatic 175, 3) := by decide +kernel
theorem dX12_takesSign_39 : decode cX12_takesSign 39 = .ok (.iadd, 1) := by decide +kernel
theorem dX12_takesSign_40 : decode cX12_takesSign 40 = .ok (.putfield 162, 3) := by decide +kernel
theorem dX12_takesSign_43 : decode cX12_takesSign 43 = .ok (.iload_n 2, 1) := by decide +kernel
theorem dX12_takesSign_44 : decode cX12_takesSign 44 = .ok (.ireturn, 1) := by decide +kernel
theorem dX12_isDigit_0 : decode cX12_isDigit 0 = .ok (.aload_n 0, 1) := by decide +kernel
theorem dX12_isDigit_1 : decode cX12_isDigit 1 = .ok (.getfield 162, 3) := by decide +kernel
theorem dX12_isDigit_4 : decode cX12_isDigit 4 = .ok (.aload_n 0, 1) := by decide +kernel
theorem dX12_isDigit_5 : decode cX12_isDigit 5 = .ok (.getfield 172, 3) := by decide +kernel
theorem dX12_isDigit_8 : decode cX12_isDigit 8 = .ok (.if_icmp .ge 29, 3) := by decide +kernel
theorem dX12_isDigit_11 : decode cX12_isDigit 11 = .ok (.aload_n 0, 1) := by decide +kernel
theorem dX12_isDigit_12 : decode cX12_isDigit 12 = .ok (.getfield 55, 3) := by decide +kernel
theorem dX12_isDigit_15 : decode cX12_isDigit 15 = .ok (.aload_n 0, 1) := by decide +kernel
theorem dX12_isDigit_16 : decode cX12_isDigit 16 = .ok (.getfield 162, 3) := by decide +kernel
theorem dX12_isDigit_19 : decode cX12_isDigit 19 = .ok (.iaload, 1) := by decide +kernel
theorem dX12_isDigit_20 : decode cX12_isDigit 20 = .ok (.i2l, 1) := by decide +kernel
theorem dX12_isDigit_21 : decode cX12_isDigit 21 = .ok (.ldc2_w 179, 3) := by decide +kernel
theorem dX12_isDigit_24 : decode cX12_isDigit 24 = .ok (.ldc2_w 181, 3) := by decide +kernel
theorem dX12_isDigit_27 : decode cX12_isDigit 27 = .ok (.invokestatic 143, 3) := by decide +kernel
theorem dX12_isDigit_30 : decode cX12_isDigit 30 = .ok (.ifCond .eq 7, 3) := by decide +kernel
theorem dX12_isDigit_33 : decode cX12_isDigit 33 = .ok (.iconst 1, 1) := by decide +kernel
theorem dX12_isDigit_34 : decode cX12_isDigit 34 = .ok (.goto 4, 3) := by decide +kernel
theorem dX12_isDigit_37 : decode cX12_isDigit 37 = .ok (.iconst 0, 1) := by decide +kernel
theorem dX12_isDigit_38 : decode cX12_isDigit 38 = .ok (.ireturn, 1) := by decide +kernel
theorem dX12_among_0 : decode cX12_among 0 = .ok (.iconst 0, 1) := by decide +kernel
theorem dX12_among_1 : decode cX12_among 1 = .ok (.istore_n 2, 1) := by decide +kernel
theorem dX12_among_2 : decode cX12_among 2 = .ok (.iload_n 2, 1) := by decide +kernel
theorem dX12_among_3 : decode cX12_among 3 = .ok (.aload_n 1, 1) := by decide +kernel
theorem dX12_among_4 : decode cX12_among 4 = .ok (.invokevirtual 183, 3) := by decide +kernel
theorem dX12_among_7 : decode cX12_among 7 = .ok (.if_icmp .ge 39, 3) := by decide +kernel
theorem dX12_among_10 : decode cX12_among 10 = .ok (.aload_n 0, 1) := by decide +kernel
theorem dX12_among_11 : decode cX12_among 11 = .ok (.getfield 162, 3) := by decide +kernel
theorem dX12_among_14 : decode cX12_among 14 = .ok (.aload_n 0, 1) := by decide +kernel
theorem dX12_among_15 : decode cX12_among 15 = .ok (.getfield 172, 3) := by decide +kernel
theorem dX12_among_18 : decode cX12_among 18 = .ok (.if_icmp .ge 28, 3) := by decide +kernel
theorem dX12_among_21 : decode cX12_among 21 = .ok (.aload_n 1, 1) := by decide +kernel
theorem dX12_among_22 : decode cX12_among 22 = .ok (.iload_n 2, 1) := by decide +kernel
theorem dX12_among_23 : decode cX12_among 23 = .ok (.invokevirtual 189, 3) := by decide +kernel
theorem dX12_among_26 : decode cX12_among 26 = .ok (.aload_n 0, 1) := by decide +kernel
theorem dX12_among_27 : decode cX12_among 27 = .ok (.getfield 55, 3) := by decide +kernel
theorem dX12_among_30 : decode cX12_among 30 = .ok (.aload_n 0, 1) := by decide +kernel
theorem dX12_among_31 : decode cX12_among 31 = .ok (.getfield 162, 3) := by decide +kernel
theorem dX12_among_34 : decode cX12_among 34 = .ok (.iaload, 1) := by decide +kernel
theorem dX12_among_35 : decode cX12_among 35 = .ok (.if_icmp .ne 5, 3) := by decide +kernel
theorem dX12_among_38 : decode cX12_among 38 = .ok (.iload_n 2, 1) := by decide +kernel
theorem dX12_among_39 : decode cX12_among 39 = .ok (.ireturn, 1) := by decide +kernel
theorem dX12_among_40 : decode cX12_among 40 = .ok (.iinc 2 1, 3) := by decide +kernel
theorem dX12_among_43 : decode cX12_among 43 = .ok (.goto (-41), 3) := by decide +kernel
theorem dX12_among_46 : decode cX12_among 46 = .ok (.iconst (-1), 1) := by decide +kernel
theorem dX12_among_47 : decode cX12_among 47 = .ok (.ireturn, 1) := by decide +kernel
theorem dX12_takesOf_0 : decode cX12_takesOf 0 = .ok (.aload_n 0, 1) := by decide +kernel
theorem dX12_takesOf_1 : decode cX12_takesOf 1 = .ok (.aload_n 1, 1) := by decide +kernel
theorem dX12_takesOf_2 : decode cX12_takesOf 2 = .ok (.invokevirtual 193, 3) := by decide +kernel
theorem dX12_takesOf_5 : decode cX12_takesOf 5 = .ok (.istore_n 2, 1) := by decide +kernel
theorem dX12_takesOf_6 : decode cX12_takesOf 6 = .ok (.aload_n 0, 1) := by decide +kernel
theorem dX12_takesOf_7 : decode cX12_takesOf 7 = .ok (.dup, 1) := by decide +kernel
theorem dX12_takesOf_8 : decode cX12_takesOf 8 = .ok (.getfield 162, 3) := by decide +kernel
theorem dX12_takesOf_11 : decode cX12_takesOf 11 = .ok (.iload_n 2, 1) := by decide +kernel
theorem dX12_takesOf_12 : decode cX12_takesOf 12 = .ok (.ifCond .lt 7, 3) := by decide +kernel
theorem dX12_takesOf_15 : decode cX12_takesOf 15 = .ok (.iconst 1, 1) := by decide +kernel
theorem dX12_takesOf_16 : decode cX12_takesOf 16 = .ok (.goto 4, 3) := by decide +kernel
theorem dX12_takesOf_19 : decode cX12_takesOf 19 = .ok (.iconst 0, 1) := by decide +kernel
theorem dX12_takesOf_20 : decode cX12_takesOf 20 = .ok (.invokestatic 175, 3) := by decide +kernel
theorem dX12_takesOf_23 : decode cX12_takesOf 23 = .ok (.iadd, 1) := by decide +kernel
theorem dX12_takesOf_24 : decode cX12_takesOf 24 = .ok (.putfield 162, 3) := by decide +kernel
theorem dX12_takesOf_27 : decode cX12_takesOf 27 = .ok (.iload_n 2, 1) := by decide +kernel
theorem dX12_takesOf_28 : decode cX12_takesOf 28 = .ok (.ireturn, 1) := by decide +kernel
theorem dX12_number_0 : decode cX12_number 0 = .ok (.aload_n 0, 1) := by decide +kernel
theorem dX12_number_1 : decode cX12_number 1 = .ok (.invokevirtual 197, 3) := by decide +kernel
theorem dX12_number_4 : decode cX12_number 4 = .ok (.ifCond .ne 5, 3) := by decide +kernel
theorem dX12_number_7 : decode cX12_number 7 = .ok (.iconst (-1), 1) := by decide +kernel
theorem dX12_number_8 : decode cX12_number 8 = .ok (.ireturn, 1) := by decide +kernel
theorem dX12_number_9 : decode cX12_number 9 = .ok (.iconst 0, 1) := by decide +kernel
theorem dX12_number_10 : decode cX12_number 10 = .ok (.istore_n 2, 1) := by decide +kernel
theorem dX12_number_11 : decode cX12_number 11 = .ok (.iconst 0, 1) := by decide +kernel
theorem dX12_number_12 : decode cX12_number 12 = .ok (.istore_n 3, 1) := by decide +kernel
theorem dX12_number_13 : decode cX12_number 13 = .ok (.iload_n 3, 1) := by decide +kernel
theorem dX12_number_14 : decode cX12_number 14 = .ok (.iload_n 1, 1) := by decide +kernel
theorem dX12_number_15 : decode cX12_number 15 = .ok (.if_icmp .ge 44, 3) := by decide +kernel
theorem dX12_number_18 : decode cX12_number 18 = .ok (.aload_n 0, 1) := by decide +kernel
theorem dX12_number_19 : decode cX12_number 19 = .ok (.invokevirtual 197, 3) := by decide +kernel
theorem dX12_number_22 : decode cX12_number 22 = .ok (.ifCond .eq 37, 3) := by decide +kernel
theorem dX12_number_25 : decode cX12_number 25 = .ok (.bipush 10, 2) := by decide +kernel
theorem dX12_number_27 : decode cX12_number 27 = .ok (.iload_n 2, 1) := by decide +kernel
theorem dX12_number_28 : decode cX12_number 28 = .ok (.imul, 1) := by decide +kernel
theorem dX12_number_29 : decode cX12_number 29 = .ok (.aload_n 0, 1) := by decide +kernel
theorem dX12_number_30 : decode cX12_number 30 = .ok (.getfield 55, 3) := by decide +kernel
theorem dX12_number_33 : decode cX12_number 33 = .ok (.aload_n 0, 1) := by decide +kernel
theorem dX12_number_34 : decode cX12_number 34 = .ok (.getfield 162, 3) := by decide +kernel
theorem dX12_number_37 : decode cX12_number 37 = .ok (.iaload, 1) := by decide +kernel
theorem dX12_number_38 : decode cX12_number 38 = .ok (.iadd, 1) := by decide +kernel
theorem dX12_number_39 : decode cX12_number 39 = .ok (.bipush 48, 2) := by decide +kernel
theorem dX12_number_41 : decode cX12_number 41 = .ok (.isub, 1) := by decide +kernel
theorem dX12_number_42 : decode cX12_number 42 = .ok (.istore_n 2, 1) := by decide +kernel
theorem dX12_number_43 : decode cX12_number 43 = .ok (.aload_n 0, 1) := by decide +kernel
theorem dX12_number_44 : decode cX12_number 44 = .ok (.dup, 1) := by decide +kernel
theorem dX12_number_45 : decode cX12_number 45 = .ok (.getfield 162, 3) := by decide +kernel
theorem dX12_number_48 : decode cX12_number 48 = .ok (.iconst 1, 1) := by decide +kernel
theorem dX12_number_49 : decode cX12_number 49 = .ok (.iadd, 1) := by decide +kernel
theorem dX12_number_50 : decode cX12_number 50 = .ok (.putfield 162, 3) := by decide +kernel
theorem dX12_number_53 : decode cX12_number 53 = .ok (.iinc 3 1, 3) := by decide +kernel
theorem dX12_number_56 : decode cX12_number 56 = .ok (.goto (-43), 3) := by decide +kernel
theorem dX12_number_59 : decode cX12_number 59 = .ok (.iload_n 2, 1) := by decide +kernel
theorem dX12_number_60 : decode cX12_number 60 = .ok (.ireturn, 1) := by decide +kernel
theorem dX12_digitIn_0 : decode cX12_digitIn 0 = .ok (.aload_n 0, 1) := by decide +kernel
theorem dX12_digitIn_1 : decode cX12_digitIn 1 = .ok (.getfield 162, 3) := by decide +kernel
theorem dX12_digitIn_4 : decode cX12_digitIn 4 = .ok (.aload_n 0, 1) := by decide +kernel
theorem dX12_digitIn_5 : decode cX12_digitIn 5 = .ok (.getfield 172, 3) := by decide +kernel
theorem dX12_digitIn_8 : decode cX12_digitIn 8 = .ok (.if_icmp .ge 26, 3) := by decide +kernel
theorem dX12_digitIn_11 : decode cX12_digitIn 11 = .ok (.aload_n 0, 1) := by decide +kernel
theorem dX12_digitIn_12 : decode cX12_digitIn 12 = .ok (.getfield 55, 3) := by decide +kernel
theorem dX12_digitIn_15 : decode cX12_digitIn 15 = .ok (.aload_n 0, 1) := by decide +kernel
theorem dX12_digitIn_16 : decode cX12_digitIn 16 = .ok (.getfield 162, 3) := by decide +kernel
theorem dX12_digitIn_19 : decode cX12_digitIn 19 = .ok (.iaload, 1) := by decide +kernel
theorem dX12_digitIn_20 : decode cX12_digitIn 20 = .ok (.bipush 48, 2) := by decide +kernel
theorem dX12_digitIn_22 : decode cX12_digitIn 22 = .ok (.isub, 1) := by decide +kernel
theorem dX12_digitIn_23 : decode cX12_digitIn 23 = .ok (.i2l, 1) := by decide +kernel
theorem dX12_digitIn_24 : decode cX12_digitIn 24 = .ok (.iload_n 1, 1) := by decide +kernel
theorem dX12_digitIn_25 : decode cX12_digitIn 25 = .ok (.i2l, 1) := by decide +kernel
theorem dX12_digitIn_26 : decode cX12_digitIn 26 = .ok (.iload_n 2, 1) := by decide +kernel
theorem dX12_digitIn_27 : decode cX12_digitIn 27 = .ok (.i2l, 1) := by decide +kernel
theorem dX12_digitIn_28 : decode cX12_digitIn 28 = .ok (.invokestatic 143, 3) := by decide +kernel
theorem dX12_digitIn_31 : decode cX12_digitIn 31 = .ok (.ifCond .ne 5, 3) := by decide +kernel
theorem dX12_digitIn_34 : decode cX12_digitIn 34 = .ok (.iconst (-1), 1) := by decide +kernel
theorem dX12_digitIn_35 : decode cX12_digitIn 35 = .ok (.ireturn, 1) := by decide +kernel
theorem dX12_digitIn_36 : decode cX12_digitIn 36 = .ok (.aload_n 0, 1) := by decide +kernel
theorem dX12_digitIn_37 : decode cX12_digitIn 37 = .ok (.dup, 1) := by decide +kernel
theorem dX12_digitIn_38 : decode cX12_digitIn 38 = .ok (.getfield 162, 3) := by decide +kernel
theorem dX12_digitIn_41 : decode cX12_digitIn 41 = .ok (.iconst 1, 1) := by decide +kernel
theorem dX12_digitIn_42 : decode cX12_digitIn 42 = .ok (.iadd, 1) := by decide +kernel
theorem dX12_digitIn_43 : decode cX12_digitIn 43 = .ok (.putfield 162, 3) := by decide +kernel
theorem dX12_digitIn_46 : decode cX12_digitIn 46 = .ok (.aload_n 0, 1) := by decide +kernel
theorem dX12_digitIn_47 : decode cX12_digitIn 47 = .ok (.getfield 55, 3) := by decide +kernel
theorem dX12_digitIn_50 : decode cX12_digitIn 50 = .ok (.aload_n 0, 1) := by decide +kernel
theorem dX12_digitIn_51 : decode cX12_digitIn 51 = .ok (.getfield 162, 3) := by decide +kernel
theorem dX12_digitIn_54 : decode cX12_digitIn 54 = .ok (.iconst 1, 1) := by decide +kernel
theorem dX12_digitIn_55 : decode cX12_digitIn 55 = .ok (.isub, 1) := by decide +kernel
theorem dX12_digitIn_56 : decode cX12_digitIn 56 = .ok (.iaload, 1) := by decide +kernel
theorem dX12_digitIn_57 : decode cX12_digitIn 57 = .ok (.bipush 48, 2) := by decide +kernel
theorem dX12_digitIn_59 : decode cX12_digitIn 59 = .ok (.isub, 1) := by decide +kernel
theorem dX12_digitIn_60 : decode cX12_digitIn 60 = .ok (.ireturn, 1) := by decide +kernel
theorem dX12_letters_0 : decode cX12_letters 0 = .ok (.iconst 0, 1) := by decide +kernel
theorem dX12_letters_1 : decode cX12_letters 1 = .ok (.istore_n 1, 1) := by decide +kernel
theorem dX12_letters_2 : decode cX12_letters 2 = .ok (.aload_n 0, 1) := by decide +kernel
theorem dX12_letters_3 : decode cX12_letters 3 = .ok (.ldc 201, 2) := by decide +kernel
theorem dX12_letters_5 : decode cX12_letters 5 = .ok (.invokevirtual 193, 3) := by decide +kernel
theorem dX12_letters_8 : decode cX12_letters 8 = .ok (.ifCond .lt 28, 3) := by decide +kernel
theorem dX12_letters_11 : decode cX12_letters 11 = .ok (.iload_n 1, 1) := by decide +kernel
theorem dX12_letters_12 : decode cX12_letters 12 = .ok (.aload_n 0, 1) := by decide +kernel
theorem dX12_letters_13 : decode cX12_letters 13 = .ok (.ldc 201, 2) := by decide +kernel
theorem dX12_letters_15 : decode cX12_letters 15 = .ok (.invokevirtual 193, 3) := by decide +kernel
theorem dX12_letters_18 : decode cX12_letters 18 = .ok (.ishr, 1) := by decide +kernel
theorem dX12_letters_19 : decode cX12_letters 19 = .ok (.ifCond .ne 17, 3) := by decide +kernel
theorem dX12_letters_22 : decode cX12_letters 22 = .ok (.iload_n 1, 1) := by decide +kernel
theorem dX12_letters_23 : decode cX12_letters 23 = .ok (.iconst 1, 1) := by decide +kernel
theorem dX12_letters_24 : decode cX12_letters 24 = .ok (.aload_n 0, 1) := by decide +kernel
theorem dX12_letters_25 : decode cX12_letters 25 = .ok (.ldc 201, 2) := by decide +kernel
theorem dX12_letters_27 : decode cX12_letters 27 = .ok (.invokevirtual 203, 3) := by decide +kernel
theorem dX12_letters_30 : decode cX12_letters 30 = .ok (.ishl, 1) := by decide +kernel
theorem dX12_letters_31 : decode cX12_letters 31 = .ok (.ior, 1) := by decide +kernel
theorem dX12_letters_32 : decode cX12_letters 32 = .ok (.istore_n 1, 1) := by decide +kernel
theorem dX12_letters_33 : decode cX12_letters 33 = .ok (.goto (-31), 3) := by decide +kernel
theorem dX12_letters_36 : decode cX12_letters 36 = .ok (.iload_n 1, 1) := by decide +kernel
theorem dX12_letters_37 : decode cX12_letters 37 = .ok (.ireturn, 1) := by decide +kernel
theorem dX12_faultOf_0 : decode cX12_faultOf 0 = .ok (.iload_n 3, 1) := by decide +kernel
theorem dX12_faultOf_1 : decode cX12_faultOf 1 = .ok (.ifCond .eq 18, 3) := by decide +kernel
theorem dX12_faultOf_4 : decode cX12_faultOf 4 = .ok (.aload_n 0, 1) := by decide +kernel
theorem dX12_faultOf_5 : decode cX12_faultOf 5 = .ok (.getfield 162, 3) := by decide +kernel
theorem dX12_faultOf_8 : decode cX12_faultOf 8 = .ok (.aload_n 0, 1) := by decide +kernel
theorem dX12_faultOf_9 : decode cX12_faultOf 9 = .ok (.getfield 172, 3) := by decide +kernel
theorem dX12_faultOf_12 : decode cX12_faultOf 12 = .ok (.if_icmp .ne 7, 3) := by decide +kernel
theorem dX12_faultOf_15 : decode cX12_faultOf 15 = .ok (.iconst 1, 1) := by decide +kernel
theorem dX12_faultOf_16 : decode cX12_faultOf 16 = .ok (.goto 4, 3) := by decide +kernel
theorem dX12_faultOf_19 : decode cX12_faultOf 19 = .ok (.iconst 0, 1) := by decide +kernel
theorem dX12_faultOf_20 : decode cX12_faultOf 20 = .ok (.istore 4, 2) := by decide +kernel
theorem dX12_faultOf_22 : decode cX12_faultOf 22 = .ok (.iload_n 1, 1) := by decide +kernel
theorem dX12_faultOf_23 : decode cX12_faultOf 23 = .ok (.iload_n 2, 1) := by decide +kernel
theorem dX12_faultOf_24 : decode cX12_faultOf 24 = .ok (.if_icmp .le 20, 3) := by decide +kernel
theorem dX12_faultOf_27 : decode cX12_faultOf 27 = .ok (.iload 4, 2) := by decide +kernel
theorem dX12_faultOf_29 : decode cX12_faultOf 29 = .ok (.ifCond .ne 11, 3) := by decide +kernel
theorem dX12_faultOf_32 : decode cX12_faultOf 32 = .ok (.aload_n 0, 1) := by decide +kernel
theorem dX12_faultOf_33 : decode cX12_faultOf 33 = .ok (.getfield 162, 3) := by decide +kernel
theorem dX12_faultOf_36 : decode cX12_faultOf 36 = .ok (.iload_n 2, 1) := by decide +kernel
theorem dX12_faultOf_37 : decode cX12_faultOf 37 = .ok (.if_icmp .lt 7, 3) := by decide +kernel
theorem dX12_faultOf_40 : decode cX12_faultOf 40 = .ok (.iconst (-1), 1) := by decide +kernel
theorem dX12_faultOf_41 : decode cX12_faultOf 41 = .ok (.iload_n 2, 1) := by decide +kernel
theorem dX12_faultOf_42 : decode cX12_faultOf 42 = .ok (.isub, 1) := by decide +kernel
theorem dX12_faultOf_43 : decode cX12_faultOf 43 = .ok (.ireturn, 1) := by decide +kernel
theorem dX12_faultOf_44 : decode cX12_faultOf 44 = .ok (.iload 4, 2) := by decide +kernel
theorem dX12_faultOf_46 : decode cX12_faultOf 46 = .ok (.ifCond .eq 7, 3) := by decide +kernel
theorem dX12_faultOf_49 : decode cX12_faultOf 49 = .ok (.iconst 0, 1) := by decide +kernel
theorem dX12_faultOf_50 : decode cX12_faultOf 50 = .ok (.goto 9, 3) := by decide +kernel
theorem dX12_faultOf_53 : decode cX12_faultOf 53 = .ok (.iconst (-1), 1) := by decide +kernel
theorem dX12_faultOf_54 : decode cX12_faultOf 54 = .ok (.aload_n 0, 1) := by decide +kernel
theorem dX12_faultOf_55 : decode cX12_faultOf 55 = .ok (.getfield 162, 3) := by decide +kernel
theorem dX12_faultOf_58 : decode cX12_faultOf 58 = .ok (.isub, 1) := by decide +kernel
theorem dX12_faultOf_59 : decode cX12_faultOf 59 = .ok (.ireturn, 1) := by decide +kernel
theorem dX12_square_0 : decode cX12_square 0 = .ok (.aload_n 0, 1) := by decide +kernel
theorem dX12_square_1 : decode cX12_square 1 = .ok (.iconst 0, 1) := by decide +kernel
theorem dX12_square_2 : decode cX12_square 2 = .ok (.putfield 3, 3) := by decide +kernel
theorem dX12_square_5 : decode cX12_square 5 = .ok (.aload_n 0, 1) := by decide +kernel
theorem dX12_square_6 : decode cX12_square 6 = .ok (.bipush 80, 2) := by decide +kernel
theorem dX12_square_8 : decode cX12_square 8 = .ok (.invokevirtual 206, 3) := by decide +kernel
theorem dX12_square_11 : decode cX12_square 11 = .ok (.pop, 1) := by decide +kernel
theorem dX12_square_12 : decode cX12_square 12 = .ok (.aload_n 0, 1) := by decide +kernel
theorem dX12_square_13 : decode cX12_square 13 = .ok (.iconst 1, 1) := by decide +kernel
theorem dX12_square_14 : decode cX12_square 14 = .ok (.bipush 6, 2) := by decide +kernel
theorem dX12_square_16 : decode cX12_square 16 = .ok (.invokevirtual 209, 3) := by decide +kernel
theorem dX12_square_19 : decode cX12_square 19 = .ok (.istore_n 1, 1) := by decide +kernel
theorem dX12_square_20 : decode cX12_square 20 = .ok (.iload_n 1, 1) := by decide +kernel
theorem dX12_square_21 : decode cX12_square 21 = .ok (.ifCond .ge 7, 3) := by decide +kernel
theorem dX12_square_24 : decode cX12_square 24 = .ok (.iconst (-1), 1) := by decide +kernel
theorem dX12_square_25 : decode cX12_square 25 = .ok (.goto 10, 3) := by decide +kernel
theorem dX12_square_28 : decode cX12_square 28 = .ok (.aload_n 0, 1) := by decide +kernel
theorem dX12_square_29 : decode cX12_square 29 = .ok (.iconst 1, 1) := by decide +kernel
theorem dX12_square_30 : decode cX12_square 30 = .ok (.bipush 6, 2) := by decide +kernel
theorem dX12_square_32 : decode cX12_square 32 = .ok (.invokevirtual 209, 3) := by decide +kernel
theorem dX12_square_35 : decode cX12_square 35 = .ok (.istore_n 2, 1) := by decide +kernel
theorem dX12_square_36 : decode cX12_square 36 = .ok (.iload_n 2, 1) := by decide +kernel
theorem dX12_square_37 : decode cX12_square 37 = .ok (.ifCond .lt 14, 3) := by decide +kernel
theorem dX12_square_40 : decode cX12_square 40 = .ok (.aload_n 0, 1) := by decide +kernel
theorem dX12_square_41 : decode cX12_square 41 = .ok (.getfield 162, 3) := by decide +kernel
theorem dX12_square_44 : decode cX12_square 44 = .ok (.aload_n 0, 1) := by decide +kernel
theorem dX12_square_45 : decode cX12_square 45 = .ok (.getfield 172, 3) := by decide +kernel
theorem dX12_square_48 : decode cX12_square 48 = .ok (.if_icmp .ge 10, 3) := by decide +kernel
theorem dX12_square_51 : decode cX12_square 51 = .ok (.iconst (-1), 1) := by decide +kernel
theorem dX12_square_52 : decode cX12_square 52 = .ok (.aload_n 0, 1) := by decide +kernel
theorem dX12_square_53 : decode cX12_square 53 = .ok (.getfield 162, 3) := by decide +kernel
theorem dX12_square_56 : decode cX12_square 56 = .ok (.isub, 1) := by decide +kernel
theorem dX12_square_57 : decode cX12_square 57 = .ok (.ireturn, 1) := by decide +kernel
theorem dX12_square_58 : decode cX12_square 58 = .ok (.aload_n 0, 1) := by decide +kernel
theorem dX12_square_59 : decode cX12_square 59 = .ok (.iload_n 1, 1) := by decide +kernel
theorem dX12_square_60 : decode cX12_square 60 = .ok (.putfield 24, 3) := by decide +kernel
theorem dX12_square_63 : decode cX12_square 63 = .ok (.aload_n 0, 1) := by decide +kernel
theorem dX12_square_64 : decode cX12_square 64 = .ok (.iload_n 2, 1) := by decide +kernel
theorem dX12_square_65 : decode cX12_square 65 = .ok (.putfield 27, 3) := by decide +kernel
theorem dX12_square_68 : decode cX12_square 68 = .ok (.aload_n 0, 1) := by decide +kernel
theorem dX12_square_69 : decode cX12_square 69 = .ok (.iconst 0, 1) := by decide +kernel
theorem dX12_square_70 : decode cX12_square 70 = .ok (.putfield 140, 3) := by decide +kernel
theorem dX12_square_73 : decode cX12_square 73 = .ok (.aload_n 0, 1) := by decide +kernel
theorem dX12_square_74 : decode cX12_square 74 = .ok (.iconst 0, 1) := by decide +kernel
theorem dX12_square_75 : decode cX12_square 75 = .ok (.putfield 147, 3) := by decide +kernel
theorem dX12_square_78 : decode cX12_square 78 = .ok (.aload_n 0, 1) := by decide +kernel
theorem dX12_square_79 : decode cX12_square 79 = .ok (.iconst 0, 1) := by decide +kernel
theorem dX12_square_80 : decode cX12_square 80 = .ok (.putfield 150, 3) := by decide +kernel
theorem dX12_square_83 : decode cX12_square 83 = .ok (.aload_n 0, 1) := by decide +kernel
theorem dX12_square_84 : decode cX12_square 84 = .ok (.iconst 0, 1) := by decide +kernel
theorem dX12_square_85 : decode cX12_square 85 = .ok (.putfield 212, 3) := by decide +kernel
theorem dX12_square_88 : decode cX12_square 88 = .ok (.aload_n 0, 1) := by decide +kernel
theorem dX12_square_89 : decode cX12_square 89 = .ok (.iconst 0, 1) := by decide +kernel
theorem dX12_square_90 : decode cX12_square 90 = .ok (.putfield 215, 3) := by decide +kernel
theorem dX12_square_93 : decode cX12_square 93 = .ok (.aload_n 0, 1) := by decide +kernel
theorem dX12_square_94 : decode cX12_square 94 = .ok (.getfield 49, 3) := by decide +kernel
theorem dX12_square_97 : decode cX12_square 97 = .ok (.bipush 24, 2) := by decide +kernel
theorem dX12_square_99 : decode cX12_square 99 = .ok (.iconst 0, 1) := by decide +kernel
theorem dX12_square_100 : decode cX12_square 100 = .ok (.iastore, 1) := by decide +kernel
theorem dX12_square_101 : decode cX12_square 101 = .ok (.aload_n 0, 1) := by decide +kernel
theorem dX12_square_102 : decode cX12_square 102 = .ok (.getfield 49, 3) := by decide +kernel
theorem dX12_square_105 : decode cX12_square 105 = .ok (.bipush 25, 2) := by decide +kernel
theorem dX12_square_107 : decode cX12_square 107 = .ok (.iconst 0, 1) := by decide +kernel
theorem dX12_square_108 : decode cX12_square 108 = .ok (.iastore, 1) := by decide +kernel
theorem dX12_square_109 : decode cX12_square 109 = .ok (.iconst 0, 1) := by decide +kernel
theorem dX12_square_110 : decode cX12_square 110 = .ok (.istore_n 3, 1) := by decide +kernel
theorem dX12_square_111 : decode cX12_square 111 = .ok (.iload_n 3, 1) := by decide +kernel
theorem dX12_square_112 : decode cX12_square 112 = .ok (.iconst 3, 1) := by decide +kernel
theorem dX12_square_113 : decode cX12_square 113 = .ok (.if_icmp .ge 16, 3) := by decide +kernel
theorem dX12_square_116 : decode cX12_square 116 = .ok (.aload_n 0, 1) := by decide +kernel
theorem dX12_square_117 : decode cX12_square 117 = .ok (.getfield 131, 3) := by decide +kernel
theorem dX12_square_120 : decode cX12_square 120 = .ok (.iload_n 3, 1) := by decide +kernel
theorem dX12_square_121 : decode cX12_square 121 = .ok (.iconst 0, 1) := by decide +kernel
theorem dX12_square_122 : decode cX12_square 122 = .ok (.bastore, 1) := by decide +kernel
theorem dX12_square_123 : decode cX12_square 123 = .ok (.iinc 3 1, 3) := by decide +kernel
theorem dX12_square_126 : decode cX12_square 126 = .ok (.goto (-15), 3) := by decide +kernel
theorem dX12_square_129 : decode cX12_square 129 = .ok (.iload_n 1, 1) := by decide +kernel
theorem dX12_square_130 : decode cX12_square 130 = .ok (.iload_n 2, 1) := by decide +kernel
theorem dX12_square_131 : decode cX12_square 131 = .ok (.imul, 1) := by decide +kernel
theorem dX12_square_132 : decode cX12_square 132 = .ok (.ireturn, 1) := by decide +kernel
theorem dX12_readsField_0 : decode cX12_readsField 0 = .ok (.aload_n 0, 1) := by decide +kernel
theorem dX12_readsField_1 : decode cX12_readsField 1 = .ok (.iconst 0, 1) := by decide +kernel
theorem dX12_readsField_2 : decode cX12_readsField 2 = .ok (.aload_n 0, 1) := by decide +kernel
theorem dX12_readsField_3 : decode cX12_readsField 3 = .ok (.getfield 24, 3) := by decide +kernel
theorem dX12_readsField_6 : decode cX12_readsField 6 = .ok (.iconst 1, 1) := by decide +kernel
theorem dX12_readsField_7 : decode cX12_readsField 7 = .ok (.isub, 1) := by decide +kernel
theorem dX12_readsField_8 : decode cX12_readsField 8 = .ok (.invokevirtual 209, 3) := by decide +kernel
theorem dX12_readsField_11 : decode cX12_readsField 11 = .ok (.istore_n 1, 1) := by decide +kernel
theorem dX12_readsField_12 : decode cX12_readsField 12 = .ok (.iload_n 1, 1) := by decide +kernel
theorem dX12_readsField_13 : decode cX12_readsField 13 = .ok (.ifCond .ge 7, 3) := by decide +kernel
theorem dX12_readsField_16 : decode cX12_readsField 16 = .ok (.iconst (-1), 1) := by decide +kernel
theorem dX12_readsField_17 : decode cX12_readsField 17 = .ok (.goto 14, 3) := by decide +kernel
theorem dX12_readsField_20 : decode cX12_readsField 20 = .ok (.aload_n 0, 1) := by decide +kernel
theorem dX12_readsField_21 : decode cX12_readsField 21 = .ok (.iconst 0, 1) := by decide +kernel
theorem dX12_readsField_22 : decode cX12_readsField 22 = .ok (.aload_n 0, 1) := by decide +kernel
theorem dX12_readsField_23 : decode cX12_readsField 23 = .ok (.getfield 27, 3) := by decide +kernel
theorem dX12_readsField_26 : decode cX12_readsField 26 = .ok (.iconst 1, 1) := by decide +kernel
theorem dX12_readsField_27 : decode cX12_readsField 27 = .ok (.isub, 1) := by decide +kernel
theorem dX12_readsField_28 : decode cX12_readsField 28 = .ok (.invokevirtual 209, 3) := by decide +kernel
theorem dX12_readsField_31 : decode cX12_readsField 31 = .ok (.istore_n 2, 1) := by decide +kernel
theorem dX12_readsField_32 : decode cX12_readsField 32 = .ok (.iload_n 2, 1) := by decide +kernel
theorem dX12_readsField_33 : decode cX12_readsField 33 = .ok (.ifCond .ge 7, 3) := by decide +kernel
theorem dX12_readsField_36 : decode cX12_readsField 36 = .ok (.iconst (-1), 1) := by decide +kernel
theorem dX12_readsField_37 : decode cX12_readsField 37 = .ok (.goto 11, 3) := by decide +kernel
theorem dX12_readsField_40 : decode cX12_readsField 40 = .ok (.aload_n 0, 1) := by decide +kernel
theorem dX12_readsField_41 : decode cX12_readsField 41 = .ok (.getfield 27, 3) := by decide +kernel
theorem dX12_readsField_44 : decode cX12_readsField 44 = .ok (.iload_n 1, 1) := by decide +kernel
theorem dX12_readsField_45 : decode cX12_readsField 45 = .ok (.imul, 1) := by decide +kernel
theorem dX12_readsField_46 : decode cX12_readsField 46 = .ok (.iload_n 2, 1) := by decide +kernel
theorem dX12_readsField_47 : decode cX12_readsField 47 = .ok (.iadd, 1) := by decide +kernel
theorem dX12_readsField_48 : decode cX12_readsField 48 = .ok (.ireturn, 1) := by decide +kernel
theorem dX12_readsThing_0 : decode cX12_readsThing 0 = .ok (.aload_n 0, 1) := by decide +kernel
theorem dX12_readsThing_1 : decode cX12_readsThing 1 = .ok (.getfield 140, 3) := by decide +kernel
theorem dX12_readsThing_4 : decode cX12_readsThing 4 = .ok (.aload_n 0, 1) := by decide +kernel
theorem dX12_readsThing_5 : decode cX12_readsThing 5 = .ok (.getfield 218, 3) := by decide +kernel
theorem dX12_readsThing_8 : decode cX12_readsThing 8 = .ok (.iadd, 1) := by decide +kernel
theorem dX12_readsThing_9 : decode cX12_readsThing 9 = .ok (.bipush 8, 2) := by decide +kernel
theorem dX12_readsThing_11 : decode cX12_readsThing 11 = .ok (.if_icmp .ne 5, 3) := by decide +kernel
theorem dX12_readsThing_14 : decode cX12_readsThing 14 = .ok (.iconst 0, 1) := by decide +kernel
theorem dX12_readsThing_15 : decode cX12_readsThing 15 = .ok (.ireturn, 1) := by decide +kernel
theorem dX12_readsThing_16 : decode cX12_readsThing 16 = .ok (.iconst 4, 1) := by decide +kernel
theorem dX12_readsThing_17 : decode cX12_readsThing 17 = .ok (.aload_n 0, 1) := by decide +kernel
theorem dX12_readsThing_18 : decode cX12_readsThing 18 = .ok (.getfield 218, 3) := by decide +kernel
theorem dX12_readsThing_21 : decode cX12_readsThing 21 = .ok (.imul, 1) := by decide +kernel
theorem dX12_readsThing_22 : decode cX12_readsThing 22 = .ok (.istore_n 1, 1) := by decide +kernel
theorem dX12_readsThing_23 : decode cX12_readsThing 23 = .ok (.aload_n 0, 1) := by decide +kernel
theorem dX12_readsThing_24 : decode cX12_readsThing 24 = .ok (.getfield 58, 3) := by decide +kernel
theorem dX12_readsThing_27 : decode cX12_readsThing 27 = .ok (.iload_n 1, 1) := by decide +kernel
theorem dX12_readsThing_28 : decode cX12_readsThing 28 = .ok (.aload_n 0, 1) := by decide +kernel
theorem dX12_readsThing_29 : decode cX12_readsThing 29 = .ok (.ldc 201, 2) := by decide +kernel
theorem dX12_readsThing_31 : decode cX12_readsThing 31 = .ok (.invokevirtual 203, 3) := by decide +kernel
theorem dX12_readsThing_34 : decode cX12_readsThing 34 = .ok (.iastore, 1) := by decide +kernel
theorem dX12_readsThing_35 : decode cX12_readsThing 35 = .ok (.aload_n 0, 1) := by decide +kernel
theorem dX12_readsThing_36 : decode cX12_readsThing 36 = .ok (.getfield 58, 3) := by decide +kernel
theorem dX12_readsThing_39 : decode cX12_readsThing 39 = .ok (.iload_n 1, 1) := by decide +kernel
theorem dX12_readsThing_40 : decode cX12_readsThing 40 = .ok (.iconst 1, 1) := by decide +kernel
theorem dX12_readsThing_41 : decode cX12_readsThing 41 = .ok (.iadd, 1) := by decide +kernel
theorem dX12_readsThing_42 : decode cX12_readsThing 42 = .ok (.aload_n 0, 1) := by decide +kernel
theorem dX12_readsThing_43 : decode cX12_readsThing 43 = .ok (.getfield 58, 3) := by decide +kernel
theorem dX12_readsThing_46 : decode cX12_readsThing 46 = .ok (.iload_n 1, 1) := by decide +kernel
theorem dX12_readsThing_47 : decode cX12_readsThing 47 = .ok (.iaload, 1) := by decide +kernel
theorem dX12_readsThing_48 : decode cX12_readsThing 48 = .ok (.ifCond .ge 7, 3) := by decide +kernel
theorem dX12_readsThing_51 : decode cX12_readsThing 51 = .ok (.iconst (-1), 1) := by decide +kernel
theorem dX12_readsThing_52 : decode cX12_readsThing 52 = .ok (.goto 8, 3) := by decide +kernel
theorem dX12_readsThing_55 : decode cX12_readsThing 55 = .ok (.aload_n 0, 1) := by decide +kernel
theorem dX12_readsThing_56 : decode cX12_readsThing 56 = .ok (.iconst 1, 1) := by decide +kernel
theorem dX12_readsThing_57 : decode cX12_readsThing 57 = .ok (.invokevirtual 221, 3) := by decide +kernel
theorem dX12_readsThing_60 : decode cX12_readsThing 60 = .ok (.iastore, 1) := by decide +kernel
theorem dX12_readsThing_61 : decode cX12_readsThing 61 = .ok (.aload_n 0, 1) := by decide +kernel
theorem dX12_readsThing_62 : decode cX12_readsThing 62 = .ok (.getfield 58, 3) := by decide +kernel
theorem dX12_readsThing_65 : decode cX12_readsThing 65 = .ok (.iload_n 1, 1) := by decide +kernel
theorem dX12_readsThing_66 : decode cX12_readsThing 66 = .ok (.iconst 2, 1) := by decide +kernel
theorem dX12_readsThing_67 : decode cX12_readsThing 67 = .ok (.iadd, 1) := by decide +kernel
theorem dX12_readsThing_68 : decode cX12_readsThing 68 = .ok (.aload_n 0, 1) := by decide +kernel
theorem dX12_readsThing_69 : decode cX12_readsThing 69 = .ok (.getfield 58, 3) := by decide +kernel
theorem dX12_readsThing_72 : decode cX12_readsThing 72 = .ok (.iload_n 1, 1) := by decide +kernel
theorem dX12_readsThing_73 : decode cX12_readsThing 73 = .ok (.iconst 1, 1) := by decide +kernel
theorem dX12_readsThing_74 : decode cX12_readsThing 74 = .ok (.iadd, 1) := by decide +kernel
theorem dX12_readsThing_75 : decode cX12_readsThing 75 = .ok (.iaload, 1) := by decide +kernel
theorem dX12_readsThing_76 : decode cX12_readsThing 76 = .ok (.ifCond .ge 7, 3) := by decide +kernel
theorem dX12_readsThing_79 : decode cX12_readsThing 79 = .ok (.iconst (-1), 1) := by decide +kernel
theorem dX12_readsThing_80 : decode cX12_readsThing 80 = .ok (.goto 7, 3) := by decide +kernel
theorem dX12_readsThing_83 : decode cX12_readsThing 83 = .ok (.aload_n 0, 1) := by decide +kernel
theorem dX12_readsThing_84 : decode cX12_readsThing 84 = .ok (.invokevirtual 224, 3) := by decide +kernel
theorem dX12_readsThing_87 : decode cX12_readsThing 87 = .ok (.iastore, 1) := by decide +kernel
theorem dX12_readsThing_88 : decode cX12_readsThing 88 = .ok (.aload_n 0, 1) := by decide +kernel
theorem dX12_readsThing_89 : decode cX12_readsThing 89 = .ok (.getfield 58, 3) := by decide +kernel
theorem dX12_readsThing_92 : decode cX12_readsThing 92 = .ok (.iload_n 1, 1) := by decide +kernel
theorem dX12_readsThing_93 : decode cX12_readsThing 93 = .ok (.iconst 3, 1) := by decide +kernel
theorem dX12_readsThing_94 : decode cX12_readsThing 94 = .ok (.iadd, 1) := by decide +kernel
theorem dX12_readsThing_95 : decode cX12_readsThing 95 = .ok (.aload_n 0, 1) := by decide +kernel
theorem dX12_readsThing_96 : decode cX12_readsThing 96 = .ok (.getfield 58, 3) := by decide +kernel
theorem dX12_readsThing_99 : decode cX12_readsThing 99 = .ok (.iload_n 1, 1) := by decide +kernel
theorem dX12_readsThing_100 : decode cX12_readsThing 100 = .ok (.iconst 2, 1) := by decide +kernel
theorem dX12_readsThing_101 : decode cX12_readsThing 101 = .ok (.iadd, 1) := by decide +kernel
theorem dX12_readsThing_102 : decode cX12_readsThing 102 = .ok (.iaload, 1) := by decide +kernel
theorem dX12_readsThing_103 : decode cX12_readsThing 103 = .ok (.ifCond .ge 7, 3) := by decide +kernel
theorem dX12_readsThing_106 : decode cX12_readsThing 106 = .ok (.iconst (-1), 1) := by decide +kernel
theorem dX12_readsThing_107 : decode cX12_readsThing 107 = .ok (.goto 9, 3) := by decide +kernel
theorem dX12_readsThing_110 : decode cX12_readsThing 110 = .ok (.aload_n 0, 1) := by decide +kernel
theorem dX12_readsThing_111 : decode cX12_readsThing 111 = .ok (.ldc 227, 2) := by decide +kernel
theorem dX12_readsThing_113 : decode cX12_readsThing 113 = .ok (.invokevirtual 203, 3) := by decide +kernel
theorem dX12_readsThing_116 : decode cX12_readsThing 116 = .ok (.iastore, 1) := by decide +kernel
theorem dX12_readsThing_117 : decode cX12_readsThing 117 = .ok (.aload_n 0, 1) := by decide +kernel
theorem dX12_readsThing_118 : decode cX12_readsThing 118 = .ok (.dup, 1) := by decide +kernel
theorem dX12_readsThing_119 : decode cX12_readsThing 119 = .ok (.getfield 218, 3) := by decide +kernel
theorem dX12_readsThing_122 : decode cX12_readsThing 122 = .ok (.iconst 1, 1) := by decide +kernel
theorem dX12_readsThing_123 : decode cX12_readsThing 123 = .ok (.iadd, 1) := by decide +kernel
theorem dX12_readsThing_124 : decode cX12_readsThing 124 = .ok (.putfield 218, 3) := by decide +kernel
theorem dX12_readsThing_127 : decode cX12_readsThing 127 = .ok (.aload_n 0, 1) := by decide +kernel
theorem dX12_readsThing_128 : decode cX12_readsThing 128 = .ok (.getfield 58, 3) := by decide +kernel
theorem dX12_readsThing_131 : decode cX12_readsThing 131 = .ok (.iload_n 1, 1) := by decide +kernel
theorem dX12_readsThing_132 : decode cX12_readsThing 132 = .ok (.iconst 3, 1) := by decide +kernel
theorem dX12_readsThing_133 : decode cX12_readsThing 133 = .ok (.iadd, 1) := by decide +kernel
theorem dX12_readsThing_134 : decode cX12_readsThing 134 = .ok (.iaload, 1) := by decide +kernel
theorem dX12_readsThing_135 : decode cX12_readsThing 135 = .ok (.ifCond .lt 7, 3) := by decide +kernel
theorem dX12_readsThing_138 : decode cX12_readsThing 138 = .ok (.iconst 1, 1) := by decide +kernel
theorem dX12_readsThing_139 : decode cX12_readsThing 139 = .ok (.goto 4, 3) := by decide +kernel
theorem dX12_readsThing_142 : decode cX12_readsThing 142 = .ok (.iconst 0, 1) := by decide +kernel
theorem dX12_readsThing_143 : decode cX12_readsThing 143 = .ok (.ireturn, 1) := by decide +kernel
theorem dX12_readsPane_0 : decode cX12_readsPane 0 = .ok (.aload_n 0, 1) := by decide +kernel
theorem dX12_readsPane_1 : decode cX12_readsPane 1 = .ok (.getfield 147, 3) := by decide +kernel
theorem dX12_readsPane_4 : decode cX12_readsPane 4 = .ok (.aload_n 0, 1) := by decide +kernel
theorem dX12_readsPane_5 : decode cX12_readsPane 5 = .ok (.getfield 218, 3) := by decide +kernel
theorem dX12_readsPane_8 : decode cX12_readsPane 8 = .ok (.iadd, 1) := by decide +kernel
theorem dX12_readsPane_9 : decode cX12_readsPane 9 = .ok (.bipush 8, 2) := by decide +kernel
theorem dX12_readsPane_11 : decode cX12_readsPane 11 = .ok (.if_icmp .ne 5, 3) := by decide +kernel
theorem dX12_readsPane_14 : decode cX12_readsPane 14 = .ok (.iconst 0, 1) := by decide +kernel
theorem dX12_readsPane_15 : decode cX12_readsPane 15 = .ok (.ireturn, 1) := by decide +kernel
theorem dX12_readsPane_16 : decode cX12_readsPane 16 = .ok (.iconst 2, 1) := by decide +kernel
theorem dX12_readsPane_17 : decode cX12_readsPane 17 = .ok (.aload_n 0, 1) := by decide +kernel
theorem dX12_readsPane_18 : decode cX12_readsPane 18 = .ok (.getfield 218, 3) := by decide +kernel
theorem dX12_readsPane_21 : decode cX12_readsPane 21 = .ok (.imul, 1) := by decide +kernel
theorem dX12_readsPane_22 : decode cX12_readsPane 22 = .ok (.istore_n 1, 1) := by decide +kernel
theorem dX12_readsPane_23 : decode cX12_readsPane 23 = .ok (.aload_n 0, 1) := by decide +kernel
theorem dX12_readsPane_24 : decode cX12_readsPane 24 = .ok (.getfield 58, 3) := by decide +kernel
theorem dX12_readsPane_27 : decode cX12_readsPane 27 = .ok (.iload_n 1, 1) := by decide +kernel
theorem dX12_readsPane_28 : decode cX12_readsPane 28 = .ok (.aload_n 0, 1) := by decide +kernel
theorem dX12_readsPane_29 : decode cX12_readsPane 29 = .ok (.iconst 1, 1) := by decide +kernel
theorem dX12_readsPane_30 : decode cX12_readsPane 30 = .ok (.invokevirtual 221, 3) := by decide +kernel
theorem dX12_readsPane_33 : decode cX12_readsPane 33 = .ok (.iastore, 1) := by decide +kernel
theorem dX12_readsPane_34 : decode cX12_readsPane 34 = .ok (.aload_n 0, 1) := by decide +kernel
theorem dX12_readsPane_35 : decode cX12_readsPane 35 = .ok (.getfield 58, 3) := by decide +kernel
theorem dX12_readsPane_38 : decode cX12_readsPane 38 = .ok (.iload_n 1, 1) := by decide +kernel
theorem dX12_readsPane_39 : decode cX12_readsPane 39 = .ok (.iconst 1, 1) := by decide +kernel
theorem dX12_readsPane_40 : decode cX12_readsPane 40 = .ok (.iadd, 1) := by decide +kernel
theorem dX12_readsPane_41 : decode cX12_readsPane 41 = .ok (.aload_n 0, 1) := by decide +kernel
theorem dX12_readsPane_42 : decode cX12_readsPane 42 = .ok (.getfield 58, 3) := by decide +kernel
theorem dX12_readsPane_45 : decode cX12_readsPane 45 = .ok (.iload_n 1, 1) := by decide +kernel
theorem dX12_readsPane_46 : decode cX12_readsPane 46 = .ok (.iaload, 1) := by decide +kernel
theorem dX12_readsPane_47 : decode cX12_readsPane 47 = .ok (.ifCond .ge 7, 3) := by decide +kernel
theorem dX12_readsPane_50 : decode cX12_readsPane 50 = .ok (.iconst 0, 1) := by decide +kernel
theorem dX12_readsPane_51 : decode cX12_readsPane 51 = .ok (.goto 7, 3) := by decide +kernel
theorem dX12_readsPane_54 : decode cX12_readsPane 54 = .ok (.aload_n 0, 1) := by decide +kernel
theorem dX12_readsPane_55 : decode cX12_readsPane 55 = .ok (.invokevirtual 229, 3) := by decide +kernel
theorem dX12_readsPane_58 : decode cX12_readsPane 58 = .ok (.iastore, 1) := by decide +kernel
theorem dX12_readsPane_59 : decode cX12_readsPane 59 = .ok (.aload_n 0, 1) := by decide +kernel
theorem dX12_readsPane_60 : decode cX12_readsPane 60 = .ok (.dup, 1) := by decide +kernel
theorem dX12_readsPane_61 : decode cX12_readsPane 61 = .ok (.getfield 218, 3) := by decide +kernel
theorem dX12_readsPane_64 : decode cX12_readsPane 64 = .ok (.iconst 1, 1) := by decide +kernel
theorem dX12_readsPane_65 : decode cX12_readsPane 65 = .ok (.iadd, 1) := by decide +kernel
theorem dX12_readsPane_66 : decode cX12_readsPane 66 = .ok (.putfield 218, 3) := by decide +kernel
theorem dX12_readsPane_69 : decode cX12_readsPane 69 = .ok (.aload_n 0, 1) := by decide +kernel
theorem dX12_readsPane_70 : decode cX12_readsPane 70 = .ok (.getfield 58, 3) := by decide +kernel
theorem dX12_readsPane_73 : decode cX12_readsPane 73 = .ok (.iload_n 1, 1) := by decide +kernel
theorem dX12_readsPane_74 : decode cX12_readsPane 74 = .ok (.iaload, 1) := by decide +kernel
theorem dX12_readsPane_75 : decode cX12_readsPane 75 = .ok (.ifCond .lt 7, 3) := by decide +kernel
theorem dX12_readsPane_78 : decode cX12_readsPane 78 = .ok (.iconst 1, 1) := by decide +kernel
theorem dX12_readsPane_79 : decode cX12_readsPane 79 = .ok (.goto 4, 3) := by decide +kernel
theorem dX12_readsPane_82 : decode cX12_readsPane 82 = .ok (.iconst 0, 1) := by decide +kernel
theorem dX12_readsPane_83 : decode cX12_readsPane 83 = .ok (.ireturn, 1) := by decide +kernel
theorem dX12_readsRoom_0 : decode cX12_readsRoom 0 = .ok (.aload_n 0, 1) := by decide +kernel
theorem dX12_readsRoom_1 : decode cX12_readsRoom 1 = .ok (.getfield 150, 3) := by decide +kernel
theorem dX12_readsRoom_4 : decode cX12_readsRoom 4 = .ok (.aload_n 0, 1) := by decide +kernel
theorem dX12_readsRoom_5 : decode cX12_readsRoom 5 = .ok (.getfield 218, 3) := by decide +kernel
theorem dX12_readsRoom_8 : decode cX12_readsRoom 8 = .ok (.iadd, 1) := by decide +kernel
theorem dX12_readsRoom_9 : decode cX12_readsRoom 9 = .ok (.iconst 4, 1) := by decide +kernel
theorem dX12_readsRoom_10 : decode cX12_readsRoom 10 = .ok (.if_icmp .ne 5, 3) := by decide +kernel
theorem dX12_readsRoom_13 : decode cX12_readsRoom 13 = .ok (.iconst 0, 1) := by decide +kernel
theorem dX12_readsRoom_14 : decode cX12_readsRoom 14 = .ok (.ireturn, 1) := by decide +kernel
theorem dX12_readsRoom_15 : decode cX12_readsRoom 15 = .ok (.iconst 2, 1) := by decide +kernel
theorem dX12_readsRoom_16 : decode cX12_readsRoom 16 = .ok (.aload_n 0, 1) := by decide +kernel
theorem dX12_readsRoom_17 : decode cX12_readsRoom 17 = .ok (.getfield 218, 3) := by decide +kernel
theorem dX12_readsRoom_20 : decode cX12_readsRoom 20 = .ok (.imul, 1) := by decide +kernel
theorem dX12_readsRoom_21 : decode cX12_readsRoom 21 = .ok (.istore_n 1, 1) := by decide +kernel
theorem dX12_readsRoom_22 : decode cX12_readsRoom 22 = .ok (.aload_n 0, 1) := by decide +kernel
theorem dX12_readsRoom_23 : decode cX12_readsRoom 23 = .ok (.getfield 58, 3) := by decide +kernel
theorem dX12_readsRoom_26 : decode cX12_readsRoom 26 = .ok (.iload_n 1, 1) := by decide +kernel
theorem dX12_readsRoom_27 : decode cX12_readsRoom 27 = .ok (.aload_n 0, 1) := by decide +kernel
theorem dX12_readsRoom_28 : decode cX12_readsRoom 28 = .ok (.invokevirtual 224, 3) := by decide +kernel
theorem dX12_readsRoom_31 : decode cX12_readsRoom 31 = .ok (.iastore, 1) := by decide +kernel
theorem dX12_readsRoom_32 : decode cX12_readsRoom 32 = .ok (.aload_n 0, 1) := by decide +kernel
theorem dX12_readsRoom_33 : decode cX12_readsRoom 33 = .ok (.getfield 58, 3) := by decide +kernel
theorem dX12_readsRoom_36 : decode cX12_readsRoom 36 = .ok (.iload_n 1, 1) := by decide +kernel
theorem dX12_readsRoom_37 : decode cX12_readsRoom 37 = .ok (.iconst 1, 1) := by decide +kernel
theorem dX12_readsRoom_38 : decode cX12_readsRoom 38 = .ok (.iadd, 1) := by decide +kernel
theorem dX12_readsRoom_39 : decode cX12_readsRoom 39 = .ok (.aload_n 0, 1) := by decide +kernel
theorem dX12_readsRoom_40 : decode cX12_readsRoom 40 = .ok (.getfield 58, 3) := by decide +kernel
theorem dX12_readsRoom_43 : decode cX12_readsRoom 43 = .ok (.iload_n 1, 1) := by decide +kernel
theorem dX12_readsRoom_44 : decode cX12_readsRoom 44 = .ok (.iaload, 1) := by decide +kernel
theorem dX12_readsRoom_45 : decode cX12_readsRoom 45 = .ok (.ifCond .ge 7, 3) := by decide +kernel
theorem dX12_readsRoom_48 : decode cX12_readsRoom 48 = .ok (.iconst (-1), 1) := by decide +kernel
theorem dX12_readsRoom_49 : decode cX12_readsRoom 49 = .ok (.goto 8, 3) := by decide +kernel
theorem dX12_readsRoom_52 : decode cX12_readsRoom 52 = .ok (.aload_n 0, 1) := by decide +kernel
theorem dX12_readsRoom_53 : decode cX12_readsRoom 53 = .ok (.iconst 1, 1) := by decide +kernel
theorem dX12_readsRoom_54 : decode cX12_readsRoom 54 = .ok (.invokevirtual 221, 3) := by decide +kernel
theorem dX12_readsRoom_57 : decode cX12_readsRoom 57 = .ok (.iastore, 1) := by decide +kernel
theorem dX12_readsRoom_58 : decode cX12_readsRoom 58 = .ok (.aload_n 0, 1) := by decide +kernel
theorem dX12_readsRoom_59 : decode cX12_readsRoom 59 = .ok (.dup, 1) := by decide +kernel
theorem dX12_readsRoom_60 : decode cX12_readsRoom 60 = .ok (.getfield 218, 3) := by decide +kernel
theorem dX12_readsRoom_63 : decode cX12_readsRoom 63 = .ok (.iconst 1, 1) := by decide +kernel
theorem dX12_readsRoom_64 : decode cX12_readsRoom 64 = .ok (.iadd, 1) := by decide +kernel
theorem dX12_readsRoom_65 : decode cX12_readsRoom 65 = .ok (.putfield 218, 3) := by decide +kernel
theorem dX12_readsRoom_68 : decode cX12_readsRoom 68 = .ok (.aload_n 0, 1) := by decide +kernel
theorem dX12_readsRoom_69 : decode cX12_readsRoom 69 = .ok (.getfield 58, 3) := by decide +kernel
theorem dX12_readsRoom_72 : decode cX12_readsRoom 72 = .ok (.iload_n 1, 1) := by decide +kernel
theorem dX12_readsRoom_73 : decode cX12_readsRoom 73 = .ok (.iconst 1, 1) := by decide +kernel
theorem dX12_readsRoom_74 : decode cX12_readsRoom 74 = .ok (.iadd, 1) := by decide +kernel
theorem dX12_readsRoom_75 : decode cX12_readsRoom 75 = .ok (.iaload, 1) := by decide +kernel
theorem dX12_readsRoom_76 : decode cX12_readsRoom 76 = .ok (.ifCond .lt 7, 3) := by decide +kernel
theorem dX12_readsRoom_79 : decode cX12_readsRoom 79 = .ok (.iconst 1, 1) := by decide +kernel
theorem dX12_readsRoom_80 : decode cX12_readsRoom 80 = .ok (.goto 4, 3) := by decide +kernel
theorem dX12_readsRoom_83 : decode cX12_readsRoom 83 = .ok (.iconst 0, 1) := by decide +kernel
theorem dX12_readsRoom_84 : decode cX12_readsRoom 84 = .ok (.ireturn, 1) := by decide +kernel
theorem dX12_readsLine_0 : decode cX12_readsLine 0 = .ok (.iload_n 1, 1) := by decide +kernel
theorem dX12_readsLine_1 : decode cX12_readsLine 1 = .ok (.ifCond .ne 10, 3) := by decide +kernel
theorem dX12_readsLine_4 : decode cX12_readsLine 4 = .ok (.aload_n 0, 1) := by decide +kernel
theorem dX12_readsLine_5 : decode cX12_readsLine 5 = .ok (.invokevirtual 232, 3) := by decide +kernel
theorem dX12_readsLine_8 : decode cX12_readsLine 8 = .ok (.goto 19, 3) := by decide +kernel
theorem dX12_readsLine_11 : decode cX12_readsLine 11 = .ok (.iload_n 1, 1) := by decide +kernel
theorem dX12_readsLine_12 : decode cX12_readsLine 12 = .ok (.iconst 1, 1) := by decide +kernel
theorem dX12_readsLine_13 : decode cX12_readsLine 13 = .ok (.if_icmp .ne 10, 3) := by decide +kernel
theorem dX12_readsLine_16 : decode cX12_readsLine 16 = .ok (.aload_n 0, 1) := by decide +kernel
theorem dX12_readsLine_17 : decode cX12_readsLine 17 = .ok (.invokevirtual 235, 3) := by decide +kernel
theorem dX12_readsLine_20 : decode cX12_readsLine 20 = .ok (.goto 7, 3) := by decide +kernel
theorem dX12_readsLine_23 : decode cX12_readsLine 23 = .ok (.aload_n 0, 1) := by decide +kernel
theorem dX12_readsLine_24 : decode cX12_readsLine 24 = .ok (.invokevirtual 238, 3) := by decide +kernel
theorem dX12_readsLine_27 : decode cX12_readsLine 27 = .ok (.ireturn, 1) := by decide +kernel
theorem dX12_readsLines_0 : decode cX12_readsLines 0 = .ok (.aload_n 0, 1) := by decide +kernel
theorem dX12_readsLines_1 : decode cX12_readsLines 1 = .ok (.iload_n 2, 1) := by decide +kernel
theorem dX12_readsLines_2 : decode cX12_readsLines 2 = .ok (.invokevirtual 206, 3) := by decide +kernel
theorem dX12_readsLines_5 : decode cX12_readsLines 5 = .ok (.istore_n 3, 1) := by decide +kernel
theorem dX12_readsLines_6 : decode cX12_readsLines 6 = .ok (.aload_n 0, 1) := by decide +kernel
theorem dX12_readsLines_7 : decode cX12_readsLines 7 = .ok (.iconst 0, 1) := by decide +kernel
theorem dX12_readsLines_8 : decode cX12_readsLines 8 = .ok (.putfield 218, 3) := by decide +kernel
theorem dX12_readsLines_11 : decode cX12_readsLines 11 = .ok (.iconst 1, 1) := by decide +kernel
theorem dX12_readsLines_12 : decode cX12_readsLines 12 = .ok (.istore 4, 2) := by decide +kernel
theorem dX12_readsLines_14 : decode cX12_readsLines 14 = .ok (.iload_n 3, 1) := by decide +kernel
theorem dX12_readsLines_15 : decode cX12_readsLines 15 = .ok (.ifCond .le 7, 3) := by decide +kernel
theorem dX12_readsLines_18 : decode cX12_readsLines 18 = .ok (.iconst 1, 1) := by decide +kernel
theorem dX12_readsLines_19 : decode cX12_readsLines 19 = .ok (.goto 4, 3) := by decide +kernel
theorem dX12_readsLines_22 : decode cX12_readsLines 22 = .ok (.iconst 0, 1) := by decide +kernel
theorem dX12_readsLines_23 : decode cX12_readsLines 23 = .ok (.istore 5, 2) := by decide +kernel
theorem dX12_readsLines_25 : decode cX12_readsLines 25 = .ok (.iload 5, 2) := by decide +kernel
theorem dX12_readsLines_27 : decode cX12_readsLines 27 = .ok (.ifCond .eq 34, 3) := by decide +kernel
theorem dX12_readsLines_30 : decode cX12_readsLines 30 = .ok (.aload_n 0, 1) := by decide +kernel
theorem dX12_readsLines_31 : decode cX12_readsLines 31 = .ok (.iload_n 1, 1) := by decide +kernel
theorem dX12_readsLines_32 : decode cX12_readsLines 32 = .ok (.invokevirtual 241, 3) := by decide +kernel
theorem dX12_readsLines_35 : decode cX12_readsLines 35 = .ok (.istore 4, 2) := by decide +kernel
theorem dX12_readsLines_37 : decode cX12_readsLines 37 = .ok (.iload 4, 2) := by decide +kernel
theorem dX12_readsLines_39 : decode cX12_readsLines 39 = .ok (.ifCond .eq 16, 3) := by decide +kernel
theorem dX12_readsLines_42 : decode cX12_readsLines 42 = .ok (.aload_n 0, 1) := by decide +kernel
theorem dX12_readsLines_43 : decode cX12_readsLines 43 = .ok (.bipush 59, 2) := by decide +kernel
theorem dX12_readsLines_45 : decode cX12_readsLines 45 = .ok (.invokevirtual 245, 3) := by decide +kernel
theorem dX12_readsLines_48 : decode cX12_readsLines 48 = .ok (.ifCond .eq 7, 3) := by decide +kernel
theorem dX12_readsLines_51 : decode cX12_readsLines 51 = .ok (.iconst 1, 1) := by decide +kernel
theorem dX12_readsLines_52 : decode cX12_readsLines 52 = .ok (.goto 4, 3) := by decide +kernel
theorem dX12_readsLines_55 : decode cX12_readsLines 55 = .ok (.iconst 0, 1) := by decide +kernel
theorem dX12_readsLines_56 : decode cX12_readsLines 56 = .ok (.istore 5, 2) := by decide +kernel
theorem dX12_readsLines_58 : decode cX12_readsLines 58 = .ok (.goto (-33), 3) := by decide +kernel
theorem dX12_readsLines_61 : decode cX12_readsLines 61 = .ok (.aload_n 0, 1) := by decide +kernel
theorem dX12_readsLines_62 : decode cX12_readsLines 62 = .ok (.iload_n 3, 1) := by decide +kernel
theorem dX12_readsLines_63 : decode cX12_readsLines 63 = .ok (.iload_n 2, 1) := by decide +kernel
theorem dX12_readsLines_64 : decode cX12_readsLines 64 = .ok (.iload 4, 2) := by decide +kernel
theorem dX12_readsLines_66 : decode cX12_readsLines 66 = .ok (.invokevirtual 248, 3) := by decide +kernel
theorem dX12_readsLines_69 : decode cX12_readsLines 69 = .ok (.ireturn, 1) := by decide +kernel
theorem dX12_isNew_0 : decode cX12_isNew 0 = .ok (.aload_n 0, 1) := by decide +kernel
theorem dX12_isNew_1 : decode cX12_isNew 1 = .ok (.aload_n 0, 1) := by decide +kernel
theorem dX12_isNew_2 : decode cX12_isNew 2 = .ok (.getfield 218, 3) := by decide +kernel
theorem dX12_isNew_5 : decode cX12_isNew 5 = .ok (.ifCond .le 7, 3) := by decide +kernel
theorem dX12_isNew_8 : decode cX12_isNew 8 = .ok (.iconst 0, 1) := by decide +kernel
theorem dX12_isNew_9 : decode cX12_isNew 9 = .ok (.goto 7, 3) := by decide +kernel
theorem dX12_isNew_12 : decode cX12_isNew 12 = .ok (.aload_n 0, 1) := by decide +kernel
theorem dX12_isNew_13 : decode cX12_isNew 13 = .ok (.getfield 215, 3) := by decide +kernel
theorem dX12_isNew_16 : decode cX12_isNew 16 = .ok (.putfield 215, 3) := by decide +kernel
theorem dX12_isNew_19 : decode cX12_isNew 19 = .ok (.aload_n 0, 1) := by decide +kernel
theorem dX12_isNew_20 : decode cX12_isNew 20 = .ok (.dup, 1) := by decide +kernel
theorem dX12_isNew_21 : decode cX12_isNew 21 = .ok (.getfield 252, 3) := by decide +kernel
theorem dX12_isNew_24 : decode cX12_isNew 24 = .ok (.aload_n 0, 1) := by decide +kernel
theorem dX12_isNew_25 : decode cX12_isNew 25 = .ok (.getfield 218, 3) := by decide +kernel
theorem dX12_isNew_28 : decode cX12_isNew 28 = .ok (.ifCond .le 7, 3) := by decide +kernel
theorem dX12_isNew_31 : decode cX12_isNew 31 = .ok (.iconst 1, 1) := by decide +kernel
theorem dX12_isNew_32 : decode cX12_isNew 32 = .ok (.goto 4, 3) := by decide +kernel
theorem dX12_isNew_35 : decode cX12_isNew 35 = .ok (.iconst 0, 1) := by decide +kernel
theorem dX12_isNew_36 : decode cX12_isNew 36 = .ok (.invokestatic 175, 3) := by decide +kernel
theorem dX12_isNew_39 : decode cX12_isNew 39 = .ok (.iadd, 1) := by decide +kernel
theorem dX12_isNew_40 : decode cX12_isNew 40 = .ok (.putfield 252, 3) := by decide +kernel
theorem dX12_isNew_43 : decode cX12_isNew 43 = .ok (.aload_n 0, 1) := by decide +kernel
theorem dX12_isNew_44 : decode cX12_isNew 44 = .ok (.getfield 218, 3) := by decide +kernel
theorem dX12_isNew_47 : decode cX12_isNew 47 = .ok (.ireturn, 1) := by decide +kernel
theorem dX12_things_0 : decode cX12_things 0 = .ok (.aload_n 0, 1) := by decide +kernel
theorem dX12_things_1 : decode cX12_things 1 = .ok (.iconst 0, 1) := by decide +kernel
theorem dX12_things_2 : decode cX12_things 2 = .ok (.putfield 3, 3) := by decide +kernel
theorem dX12_things_5 : decode cX12_things 5 = .ok (.aload_n 0, 1) := by decide +kernel
theorem dX12_things_6 : decode cX12_things 6 = .ok (.iconst 0, 1) := by decide +kernel
theorem dX12_things_7 : decode cX12_things 7 = .ok (.bipush 47, 2) := by decide +kernel
theorem dX12_things_9 : decode cX12_things 9 = .ok (.invokevirtual 255, 3) := by decide +kernel
theorem dX12_things_12 : decode cX12_things 12 = .ok (.istore_n 1, 1) := by decide +kernel
theorem dX12_things_13 : decode cX12_things 13 = .ok (.iload_n 1, 1) := by decide +kernel
theorem dX12_things_14 : decode cX12_things 14 = .ok (.ifCond .ge 5, 3) := by decide +kernel
theorem dX12_things_17 : decode cX12_things 17 = .ok (.iload_n 1, 1) := by decide +kernel
theorem dX12_things_18 : decode cX12_things 18 = .ok (.ireturn, 1) := by decide +kernel
theorem dX12_things_19 : decode cX12_things 19 = .ok (.iconst 0, 1) := by decide +kernel
theorem dX12_things_20 : decode cX12_things 20 = .ok (.istore_n 2, 1) := by decide +kernel
theorem dX12_things_21 : decode cX12_things 21 = .ok (.iload_n 2, 1) := by decide +kernel
theorem dX12_things_22 : decode cX12_things 22 = .ok (.aload_n 0, 1) := by decide +kernel
theorem dX12_things_23 : decode cX12_things 23 = .ok (.getfield 218, 3) := by decide +kernel
theorem dX12_things_26 : decode cX12_things 26 = .ok (.if_icmp .ge 96, 3) := by decide +kernel
theorem dX12_things_29 : decode cX12_things 29 = .ok (.aload_n 0, 1) := by decide +kernel
theorem dX12_things_30 : decode cX12_things 30 = .ok (.getfield 30, 3) := by decide +kernel
theorem dX12_things_33 : decode cX12_things 33 = .ok (.aload_n 0, 1) := by decide +kernel
theorem dX12_things_34 : decode cX12_things 34 = .ok (.getfield 140, 3) := by decide +kernel
theorem dX12_things_37 : decode cX12_things 37 = .ok (.aload_n 0, 1) := by decide +kernel
theorem dX12_things_38 : decode cX12_things 38 = .ok (.getfield 58, 3) := by decide +kernel
theorem dX12_things_41 : decode cX12_things 41 = .ok (.iconst 4, 1) := by decide +kernel
theorem dX12_things_42 : decode cX12_things 42 = .ok (.iload_n 2, 1) := by decide +kernel
theorem dX12_things_43 : decode cX12_things 43 = .ok (.imul, 1) := by decide +kernel
theorem dX12_things_44 : decode cX12_things 44 = .ok (.iaload, 1) := by decide +kernel
theorem dX12_things_45 : decode cX12_things 45 = .ok (.iastore, 1) := by decide +kernel
theorem dX12_things_46 : decode cX12_things 46 = .ok (.aload_n 0, 1) := by decide +kernel
theorem dX12_things_47 : decode cX12_things 47 = .ok (.getfield 34, 3) := by decide +kernel
theorem dX12_things_50 : decode cX12_things 50 = .ok (.aload_n 0, 1) := by decide +kernel
theorem dX12_things_51 : decode cX12_things 51 = .ok (.getfield 140, 3) := by decide +kernel
theorem dX12_things_54 : decode cX12_things 54 = .ok (.aload_n 0, 1) := by decide +kernel
theorem dX12_things_55 : decode cX12_things 55 = .ok (.getfield 58, 3) := by decide +kernel
theorem dX12_things_58 : decode cX12_things 58 = .ok (.iconst 4, 1) := by decide +kernel
theorem dX12_things_59 : decode cX12_things 59 = .ok (.iload_n 2, 1) := by decide +kernel
theorem dX12_things_60 : decode cX12_things 60 = .ok (.imul, 1) := by decide +kernel
theorem dX12_things_61 : decode cX12_things 61 = .ok (.iconst 1, 1) := by decide +kernel
theorem dX12_things_62 : decode cX12_things 62 = .ok (.iadd, 1) := by decide +kernel
theorem dX12_things_63 : decode cX12_things 63 = .ok (.iaload, 1) := by decide +kernel
theorem dX12_things_64 : decode cX12_things 64 = .ok (.iastore, 1) := by decide +kernel
theorem dX12_things_65 : decode cX12_things 65 = .ok (.aload_n 0, 1) := by decide +kernel
theorem dX12_things_66 : decode cX12_things 66 = .ok (.getfield 49, 3) := by decide +kernel
theorem dX12_things_69 : decode cX12_things 69 = .ok (.aload_n 0, 1) := by decide +kernel
theorem dX12_things_70 : decode cX12_things 70 = .ok (.getfield 140, 3) := by decide +kernel
theorem dX12_things_73 : decode cX12_things 73 = .ok (.aload_n 0, 1) := by decide +kernel
theorem dX12_things_74 : decode cX12_things 74 = .ok (.getfield 58, 3) := by decide +kernel
theorem dX12_things_77 : decode cX12_things 77 = .ok (.iconst 4, 1) := by decide +kernel
theorem dX12_things_78 : decode cX12_things 78 = .ok (.iload_n 2, 1) := by decide +kernel
theorem dX12_things_79 : decode cX12_things 79 = .ok (.imul, 1) := by decide +kernel
theorem dX12_things_80 : decode cX12_things 80 = .ok (.iconst 2, 1) := by decide +kernel
theorem dX12_things_81 : decode cX12_things 81 = .ok (.iadd, 1) := by decide +kernel
theorem dX12_things_82 : decode cX12_things 82 = .ok (.iaload, 1) := by decide +kernel
theorem dX12_things_83 : decode cX12_things 83 = .ok (.iastore, 1) := by decide +kernel
theorem dX12_things_84 : decode cX12_things 84 = .ok (.aload_n 0, 1) := by decide +kernel
theorem dX12_things_85 : decode cX12_things 85 = .ok (.getfield 49, 3) := by decide +kernel
theorem dX12_things_88 : decode cX12_things 88 = .ok (.bipush 8, 2) := by decide +kernel
theorem dX12_things_90 : decode cX12_things 90 = .ok (.aload_n 0, 1) := by decide +kernel
theorem dX12_things_91 : decode cX12_things 91 = .ok (.getfield 140, 3) := by decide +kernel
theorem dX12_things_94 : decode cX12_things 94 = .ok (.iadd, 1) := by decide +kernel
theorem dX12_things_95 : decode cX12_things 95 = .ok (.aload_n 0, 1) := by decide +kernel
theorem dX12_things_96 : decode cX12_things 96 = .ok (.getfield 58, 3) := by decide +kernel
theorem dX12_things_99 : decode cX12_things 99 = .ok (.iconst 4, 1) := by decide +kernel
theorem dX12_things_100 : decode cX12_things 100 = .ok (.iload_n 2, 1) := by decide +kernel
theorem dX12_things_101 : decode cX12_things 101 = .ok (.imul, 1) := by decide +kernel
theorem dX12_things_102 : decode cX12_things 102 = .ok (.iconst 3, 1) := by decide +kernel
theorem dX12_things_103 : decode cX12_things 103 = .ok (.iadd, 1) := by decide +kernel
theorem dX12_things_104 : decode cX12_things 104 = .ok (.iaload, 1) := by decide +kernel
theorem dX12_things_105 : decode cX12_things 105 = .ok (.iastore, 1) := by decide +kernel
theorem dX12_things_106 : decode cX12_things 106 = .ok (.aload_n 0, 1) := by decide +kernel
theorem dX12_things_107 : decode cX12_things 107 = .ok (.dup, 1) := by decide +kernel
theorem dX12_things_108 : decode cX12_things 108 = .ok (.getfield 140, 3) := by decide +kernel
theorem dX12_things_111 : decode cX12_things 111 = .ok (.iconst 1, 1) := by decide +kernel
theorem dX12_things_112 : decode cX12_things 112 = .ok (.iadd, 1) := by decide +kernel
theorem dX12_things_113 : decode cX12_things 113 = .ok (.putfield 140, 3) := by decide +kernel
theorem dX12_things_116 : decode cX12_things 116 = .ok (.iinc 2 1, 3) := by decide +kernel
theorem dX12_things_119 : decode cX12_things 119 = .ok (.goto (-98), 3) := by decide +kernel
theorem dX12_things_122 : decode cX12_things 122 = .ok (.aload_n 0, 1) := by decide +kernel
theorem dX12_things_123 : decode cX12_things 123 = .ok (.invokevirtual 258, 3) := by decide +kernel
theorem dX12_things_126 : decode cX12_things 126 = .ok (.ireturn, 1) := by decide +kernel
theorem dX12_panes_0 : decode cX12_panes 0 = .ok (.aload_n 0, 1) := by decide +kernel
theorem dX12_panes_1 : decode cX12_panes 1 = .ok (.iconst 0, 1) := by decide +kernel
theorem dX12_panes_2 : decode cX12_panes 2 = .ok (.putfield 3, 3) := by decide +kernel
theorem dX12_panes_5 : decode cX12_panes 5 = .ok (.aload_n 0, 1) := by decide +kernel
theorem dX12_panes_6 : decode cX12_panes 6 = .ok (.iconst 1, 1) := by decide +kernel
theorem dX12_panes_7 : decode cX12_panes 7 = .ok (.bipush 79, 2) := by decide +kernel
theorem dX12_panes_9 : decode cX12_panes 9 = .ok (.invokevirtual 255, 3) := by decide +kernel
theorem dX12_panes_12 : decode cX12_panes 12 = .ok (.istore_n 1, 1) := by decide +kernel
theorem dX12_panes_13 : decode cX12_panes 13 = .ok (.iload_n 1, 1) := by decide +kernel
theorem dX12_panes_14 : decode cX12_panes 14 = .ok (.ifCond .ge 5, 3) := by decide +kernel
theorem dX12_panes_17 : decode cX12_panes 17 = .ok (.iload_n 1, 1) := by decide +kernel
theorem dX12_panes_18 : decode cX12_panes 18 = .ok (.ireturn, 1) := by decide +kernel
theorem dX12_panes_19 : decode cX12_panes 19 = .ok (.iconst 0, 1) := by decide +kernel
theorem dX12_panes_20 : decode cX12_panes 20 = .ok (.istore_n 2, 1) := by decide +kernel
theorem dX12_panes_21 : decode cX12_panes 21 = .ok (.iload_n 2, 1) := by decide +kernel
theorem dX12_panes_22 : decode cX12_panes 22 = .ok (.aload_n 0, 1) := by decide +kernel
theorem dX12_panes_23 : decode cX12_panes 23 = .ok (.getfield 218, 3) := by decide +kernel
theorem dX12_panes_26 : decode cX12_panes 26 = .ok (.if_icmp .ge 86, 3) := by decide +kernel
theorem dX12_panes_29 : decode cX12_panes 29 = .ok (.aload_n 0, 1) := by decide +kernel
theorem dX12_panes_30 : decode cX12_panes 30 = .ok (.getfield 37, 3) := by decide +kernel
theorem dX12_panes_33 : decode cX12_panes 33 = .ok (.aload_n 0, 1) := by decide +kernel
theorem dX12_panes_34 : decode cX12_panes 34 = .ok (.getfield 147, 3) := by decide +kernel
theorem dX12_panes_37 : decode cX12_panes 37 = .ok (.aload_n 0, 1) := by decide +kernel
theorem dX12_panes_38 : decode cX12_panes 38 = .ok (.getfield 58, 3) := by decide +kernel
theorem dX12_panes_41 : decode cX12_panes 41 = .ok (.iconst 2, 1) := by decide +kernel
theorem dX12_panes_42 : decode cX12_panes 42 = .ok (.iload_n 2, 1) := by decide +kernel
theorem dX12_panes_43 : decode cX12_panes 43 = .ok (.imul, 1) := by decide +kernel
theorem dX12_panes_44 : decode cX12_panes 44 = .ok (.iaload, 1) := by decide +kernel
theorem dX12_panes_45 : decode cX12_panes 45 = .ok (.iastore, 1) := by decide +kernel
theorem dX12_panes_46 : decode cX12_panes 46 = .ok (.aload_n 0, 1) := by decide +kernel
theorem dX12_panes_47 : decode cX12_panes 47 = .ok (.getfield 40, 3) := by decide +kernel
theorem dX12_panes_50 : decode cX12_panes 50 = .ok (.aload_n 0, 1) := by decide +kernel
theorem dX12_panes_51 : decode cX12_panes 51 = .ok (.getfield 147, 3) := by decide +kernel
theorem dX12_panes_54 : decode cX12_panes 54 = .ok (.aload_n 0, 1) := by decide +kernel
theorem dX12_panes_55 : decode cX12_panes 55 = .ok (.getfield 58, 3) := by decide +kernel
theorem dX12_panes_58 : decode cX12_panes 58 = .ok (.iconst 2, 1) := by decide +kernel
theorem dX12_panes_59 : decode cX12_panes 59 = .ok (.iload_n 2, 1) := by decide +kernel
theorem dX12_panes_60 : decode cX12_panes 60 = .ok (.imul, 1) := by decide +kernel
theorem dX12_panes_61 : decode cX12_panes 61 = .ok (.iconst 1, 1) := by decide +kernel
theorem dX12_panes_62 : decode cX12_panes 62 = .ok (.iadd, 1) := by decide +kernel
theorem dX12_panes_63 : decode cX12_panes 63 = .ok (.iaload, 1) := by decide +kernel
theorem dX12_panes_64 : decode cX12_panes 64 = .ok (.iastore, 1) := by decide +kernel
theorem dX12_panes_65 : decode cX12_panes 65 = .ok (.aload_n 0, 1) := by decide +kernel
theorem dX12_panes_66 : decode cX12_panes 66 = .ok (.getfield 49, 3) := by decide +kernel
theorem dX12_panes_69 : decode cX12_panes 69 = .ok (.bipush 16, 2) := by decide +kernel
theorem dX12_panes_71 : decode cX12_panes 71 = .ok (.aload_n 0, 1) := by decide +kernel
theorem dX12_panes_72 : decode cX12_panes 72 = .ok (.getfield 147, 3) := by decide +kernel
theorem dX12_panes_75 : decode cX12_panes 75 = .ok (.iadd, 1) := by decide +kernel
theorem dX12_panes_76 : decode cX12_panes 76 = .ok (.iconst (-1), 1) := by decide +kernel
theorem dX12_panes_77 : decode cX12_panes 77 = .ok (.iastore, 1) := by decide +kernel
theorem dX12_panes_78 : decode cX12_panes 78 = .ok (.aload_n 0, 1) := by decide +kernel
theorem dX12_panes_79 : decode cX12_panes 79 = .ok (.getfield 49, 3) := by decide +kernel
theorem dX12_panes_82 : decode cX12_panes 82 = .ok (.bipush 24, 2) := by decide +kernel
theorem dX12_panes_84 : decode cX12_panes 84 = .ok (.dup2, 1) := by decide +kernel
theorem dX12_panes_85 : decode cX12_panes 85 = .ok (.iaload, 1) := by decide +kernel
theorem dX12_panes_86 : decode cX12_panes 86 = .ok (.iconst 1, 1) := by decide +kernel
theorem dX12_panes_87 : decode cX12_panes 87 = .ok (.aload_n 0, 1) := by decide +kernel
theorem dX12_panes_88 : decode cX12_panes 88 = .ok (.getfield 147, 3) := by decide +kernel
theorem dX12_panes_91 : decode cX12_panes 91 = .ok (.ishl, 1) := by decide +kernel
theorem dX12_panes_92 : decode cX12_panes 92 = .ok (.iconst (-1), 1) := by decide +kernel
theorem dX12_panes_93 : decode cX12_panes 93 = .ok (.ixor, 1) := by decide +kernel
theorem dX12_panes_94 : decode cX12_panes 94 = .ok (.iand, 1) := by decide +kernel
theorem dX12_panes_95 : decode cX12_panes 95 = .ok (.iastore, 1) := by decide +kernel
theorem dX12_panes_96 : decode cX12_panes 96 = .ok (.aload_n 0, 1) := by decide +kernel
theorem dX12_panes_97 : decode cX12_panes 97 = .ok (.dup, 1) := by decide +kernel
theorem dX12_panes_98 : decode cX12_panes 98 = .ok (.getfield 147, 3) := by decide +kernel
theorem dX12_panes_101 : decode cX12_panes 101 = .ok (.iconst 1, 1) := by decide +kernel
theorem dX12_panes_102 : decode cX12_panes 102 = .ok (.iadd, 1) := by decide +kernel
theorem dX12_panes_103 : decode cX12_panes 103 = .ok (.putfield 147, 3) := by decide +kernel
theorem dX12_panes_106 : decode cX12_panes 106 = .ok (.iinc 2 1, 3) := by decide +kernel
theorem dX12_panes_109 : decode cX12_panes 109 = .ok (.goto (-88), 3) := by decide +kernel
theorem dX12_panes_112 : decode cX12_panes 112 = .ok (.aload_n 0, 1) := by decide +kernel
theorem dX12_panes_113 : decode cX12_panes 113 = .ok (.invokevirtual 258, 3) := by decide +kernel
theorem dX12_panes_116 : decode cX12_panes 116 = .ok (.ireturn, 1) := by decide +kernel
theorem dX12_rooms_0 : decode cX12_rooms 0 = .ok (.aload_n 0, 1) := by decide +kernel
theorem dX12_rooms_1 : decode cX12_rooms 1 = .ok (.iconst 0, 1) := by decide +kernel
theorem dX12_rooms_2 : decode cX12_rooms 2 = .ok (.putfield 3, 3) := by decide +kernel
theorem dX12_rooms_5 : decode cX12_rooms 5 = .ok (.aload_n 0, 1) := by decide +kernel
theorem dX12_rooms_6 : decode cX12_rooms 6 = .ok (.iconst 2, 1) := by decide +kernel
theorem dX12_rooms_7 : decode cX12_rooms 7 = .ok (.bipush 15, 2) := by decide +kernel
theorem dX12_rooms_9 : decode cX12_rooms 9 = .ok (.invokevirtual 255, 3) := by decide +kernel
theorem dX12_rooms_12 : decode cX12_rooms 12 = .ok (.istore_n 1, 1) := by decide +kernel
theorem dX12_rooms_13 : decode cX12_rooms 13 = .ok (.iload_n 1, 1) := by decide +kernel
theorem dX12_rooms_14 : decode cX12_rooms 14 = .ok (.ifCond .ge 5, 3) := by decide +kernel
theorem dX12_rooms_17 : decode cX12_rooms 17 = .ok (.iload_n 1, 1) := by decide +kernel
theorem dX12_rooms_18 : decode cX12_rooms 18 = .ok (.ireturn, 1) := by decide +kernel
theorem dX12_rooms_19 : decode cX12_rooms 19 = .ok (.iconst 0, 1) := by decide +kernel
theorem dX12_rooms_20 : decode cX12_rooms 20 = .ok (.istore_n 2, 1) := by decide +kernel
theorem dX12_rooms_21 : decode cX12_rooms 21 = .ok (.iload_n 2, 1) := by decide +kernel
theorem dX12_rooms_22 : decode cX12_rooms 22 = .ok (.aload_n 0, 1) := by decide +kernel
theorem dX12_rooms_23 : decode cX12_rooms 23 = .ok (.getfield 218, 3) := by decide +kernel
theorem dX12_rooms_26 : decode cX12_rooms 26 = .ok (.if_icmp .ge 55, 3) := by decide +kernel
theorem dX12_rooms_29 : decode cX12_rooms 29 = .ok (.aload_n 0, 1) := by decide +kernel
theorem dX12_rooms_30 : decode cX12_rooms 30 = .ok (.getfield 43, 3) := by decide +kernel
theorem dX12_rooms_33 : decode cX12_rooms 33 = .ok (.aload_n 0, 1) := by decide +kernel
theorem dX12_rooms_34 : decode cX12_rooms 34 = .ok (.getfield 150, 3) := by decide +kernel
theorem dX12_rooms_37 : decode cX12_rooms 37 = .ok (.aload_n 0, 1) := by decide +kernel
theorem dX12_rooms_38 : decode cX12_rooms 38 = .ok (.getfield 58, 3) := by decide +kernel
theorem dX12_rooms_41 : decode cX12_rooms 41 = .ok (.iconst 2, 1) := by decide +kernel
theorem dX12_rooms_42 : decode cX12_rooms 42 = .ok (.iload_n 2, 1) := by decide +kernel
theorem dX12_rooms_43 : decode cX12_rooms 43 = .ok (.imul, 1) := by decide +kernel
theorem dX12_rooms_44 : decode cX12_rooms 44 = .ok (.iaload, 1) := by decide +kernel
theorem dX12_rooms_45 : decode cX12_rooms 45 = .ok (.iastore, 1) := by decide +kernel
theorem dX12_rooms_46 : decode cX12_rooms 46 = .ok (.aload_n 0, 1) := by decide +kernel
theorem dX12_rooms_47 : decode cX12_rooms 47 = .ok (.getfield 46, 3) := by decide +kernel
theorem dX12_rooms_50 : decode cX12_rooms 50 = .ok (.aload_n 0, 1) := by decide +kernel
theorem dX12_rooms_51 : decode cX12_rooms 51 = .ok (.getfield 150, 3) := by decide +kernel
theorem dX12_rooms_54 : decode cX12_rooms 54 = .ok (.aload_n 0, 1) := by decide +kernel
theorem dX12_rooms_55 : decode cX12_rooms 55 = .ok (.getfield 58, 3) := by decide +kernel
theorem dX12_rooms_58 : decode cX12_rooms 58 = .ok (.iconst 2, 1) := by decide +kernel
theorem dX12_rooms_59 : decode cX12_rooms 59 = .ok (.iload_n 2, 1) := by decide +kernel
theorem dX12_rooms_60 : decode cX12_rooms 60 = .ok (.imul, 1) := by decide +kernel
theorem dX12_rooms_61 : decode cX12_rooms 61 = .ok (.iconst 1, 1) := by decide +kernel
theorem dX12_rooms_62 : decode cX12_rooms 62 = .ok (.iadd, 1) := by decide +kernel
theorem dX12_rooms_63 : decode cX12_rooms 63 = .ok (.iaload, 1) := by decide +kernel
theorem dX12_rooms_64 : decode cX12_rooms 64 = .ok (.iastore, 1) := by decide +kernel
theorem dX12_rooms_65 : decode cX12_rooms 65 = .ok (.aload_n 0, 1) := by decide +kernel
theorem dX12_rooms_66 : decode cX12_rooms 66 = .ok (.dup, 1) := by decide +kernel
theorem dX12_rooms_67 : decode cX12_rooms 67 = .ok (.getfield 150, 3) := by decide +kernel
theorem dX12_rooms_70 : decode cX12_rooms 70 = .ok (.iconst 1, 1) := by decide +kernel
theorem dX12_rooms_71 : decode cX12_rooms 71 = .ok (.iadd, 1) := by decide +kernel
theorem dX12_rooms_72 : decode cX12_rooms 72 = .ok (.putfield 150, 3) := by decide +kernel
theorem dX12_rooms_75 : decode cX12_rooms 75 = .ok (.iinc 2 1, 3) := by decide +kernel
theorem dX12_rooms_78 : decode cX12_rooms 78 = .ok (.goto (-57), 3) := by decide +kernel
theorem dX12_rooms_81 : decode cX12_rooms 81 = .ok (.aload_n 0, 1) := by decide +kernel
theorem dX12_rooms_82 : decode cX12_rooms 82 = .ok (.invokevirtual 258, 3) := by decide +kernel
theorem dX12_rooms_85 : decode cX12_rooms 85 = .ok (.ireturn, 1) := by decide +kernel
theorem dX12_codes_0 : decode cX12_codes 0 = .ok (.aload_n 0, 1) := by decide +kernel
theorem dX12_codes_1 : decode cX12_codes 1 = .ok (.getfield 64, 3) := by decide +kernel
theorem dX12_codes_4 : decode cX12_codes 4 = .ok (.aload_n 0, 1) := by decide +kernel
theorem dX12_codes_5 : decode cX12_codes 5 = .ok (.getfield 261, 3) := by decide +kernel
theorem dX12_codes_8 : decode cX12_codes 8 = .ok (.iload_n 1, 1) := by decide +kernel
theorem dX12_codes_9 : decode cX12_codes 9 = .ok (.iastore, 1) := by decide +kernel
theorem dX12_codes_10 : decode cX12_codes 10 = .ok (.aload_n 0, 1) := by decide +kernel
theorem dX12_codes_11 : decode cX12_codes 11 = .ok (.dup, 1) := by decide +kernel
theorem dX12_codes_12 : decode cX12_codes 12 = .ok (.getfield 261, 3) := by decide +kernel
theorem dX12_codes_15 : decode cX12_codes 15 = .ok (.iconst 1, 1) := by decide +kernel
theorem dX12_codes_16 : decode cX12_codes 16 = .ok (.iadd, 1) := by decide +kernel
theorem dX12_codes_17 : decode cX12_codes 17 = .ok (.putfield 261, 3) := by decide +kernel
theorem dX12_codes_20 : decode cX12_codes 20 = .ok (.return_, 1) := by decide +kernel
theorem dX12_readsTerm_0 : decode cX12_readsTerm 0 = .ok (.aload_n 0, 1) := by decide +kernel
theorem dX12_readsTerm_1 : decode cX12_readsTerm 1 = .ok (.bipush 45, 2) := by decide +kernel
theorem dX12_readsTerm_3 : decode cX12_readsTerm 3 = .ok (.invokevirtual 245, 3) := by decide +kernel
theorem dX12_readsTerm_6 : decode cX12_readsTerm 6 = .ok (.ifCond .eq 17, 3) := by decide +kernel
theorem dX12_readsTerm_9 : decode cX12_readsTerm 9 = .ok (.aload_n 0, 1) := by decide +kernel
theorem dX12_readsTerm_10 : decode cX12_readsTerm 10 = .ok (.invokevirtual 264, 3) := by decide +kernel
theorem dX12_readsTerm_13 : decode cX12_readsTerm 13 = .ok (.istore_n 1, 1) := by decide +kernel
theorem dX12_readsTerm_14 : decode cX12_readsTerm 14 = .ok (.aload_n 0, 1) := by decide +kernel
theorem dX12_readsTerm_15 : decode cX12_readsTerm 15 = .ok (.sipush 3000, 3) := by decide +kernel
theorem dX12_readsTerm_18 : decode cX12_readsTerm 18 = .ok (.invokevirtual 267, 3) := by decide +kernel
theorem dX12_readsTerm_21 : decode cX12_readsTerm 21 = .ok (.iload_n 1, 1) := by decide +kernel
theorem dX12_readsTerm_22 : decode cX12_readsTerm 22 = .ok (.ireturn, 1) := by decide +kernel
theorem dX12_readsTerm_23 : decode cX12_readsTerm 23 = .ok (.aload_n 0, 1) := by decide +kernel
theorem dX12_readsTerm_24 : decode cX12_readsTerm 24 = .ok (.invokevirtual 197, 3) := by decide +kernel
theorem dX12_readsTerm_27 : decode cX12_readsTerm 27 = .ok (.ifCond .eq 14, 3) := by decide +kernel
theorem dX12_readsTerm_30 : decode cX12_readsTerm 30 = .ok (.aload_n 0, 1) := by decide +kernel
theorem dX12_readsTerm_31 : decode cX12_readsTerm 31 = .ok (.aload_n 0, 1) := by decide +kernel
theorem dX12_readsTerm_32 : decode cX12_readsTerm 32 = .ok (.iconst 3, 1) := by decide +kernel
theorem dX12_readsTerm_33 : decode cX12_readsTerm 33 = .ok (.invokevirtual 221, 3) := by decide +kernel
theorem dX12_readsTerm_36 : decode cX12_readsTerm 36 = .ok (.invokevirtual 267, 3) := by decide +kernel
theorem dX12_readsTerm_39 : decode cX12_readsTerm 39 = .ok (.iconst 1, 1) := by decide +kernel
theorem dX12_readsTerm_40 : decode cX12_readsTerm 40 = .ok (.ireturn, 1) := by decide +kernel
theorem dX12_readsTerm_41 : decode cX12_readsTerm 41 = .ok (.aload_n 0, 1) := by decide +kernel
theorem dX12_readsTerm_42 : decode cX12_readsTerm 42 = .ok (.ldc_w 271, 3) := by decide +kernel
theorem dX12_readsTerm_45 : decode cX12_readsTerm 45 = .ok (.invokevirtual 203, 3) := by decide +kernel
theorem dX12_readsTerm_48 : decode cX12_readsTerm 48 = .ok (.istore_n 1, 1) := by decide +kernel
theorem dX12_readsTerm_49 : decode cX12_readsTerm 49 = .ok (.iload_n 1, 1) := by decide +kernel
theorem dX12_readsTerm_50 : decode cX12_readsTerm 50 = .ok (.ifCond .lt 14, 3) := by decide +kernel
theorem dX12_readsTerm_53 : decode cX12_readsTerm 53 = .ok (.aload_n 0, 1) := by decide +kernel
theorem dX12_readsTerm_54 : decode cX12_readsTerm 54 = .ok (.sipush 1000, 3) := by decide +kernel
theorem dX12_readsTerm_57 : decode cX12_readsTerm 57 = .ok (.iload_n 1, 1) := by decide +kernel
theorem dX12_readsTerm_58 : decode cX12_readsTerm 58 = .ok (.iadd, 1) := by decide +kernel
theorem dX12_readsTerm_59 : decode cX12_readsTerm 59 = .ok (.invokevirtual 267, 3) := by decide +kernel
theorem dX12_readsTerm_62 : decode cX12_readsTerm 62 = .ok (.iconst 1, 1) := by decide +kernel
theorem dX12_readsTerm_63 : decode cX12_readsTerm 63 = .ok (.ireturn, 1) := by decide +kernel
theorem dX12_readsTerm_64 : decode cX12_readsTerm 64 = .ok (.aload_n 0, 1) := by decide +kernel
theorem dX12_readsTerm_65 : decode cX12_readsTerm 65 = .ok (.getfield 165, 3) := by decide +kernel
theorem dX12_readsTerm_68 : decode cX12_readsTerm 68 = .ok (.iconst 4, 1) := by decide +kernel
theorem dX12_readsTerm_69 : decode cX12_readsTerm 69 = .ok (.if_icmp .eq 12, 3) := by decide +kernel
theorem dX12_readsTerm_72 : decode cX12_readsTerm 72 = .ok (.aload_n 0, 1) := by decide +kernel
theorem dX12_readsTerm_73 : decode cX12_readsTerm 73 = .ok (.bipush 40, 2) := by decide +kernel
theorem dX12_readsTerm_75 : decode cX12_readsTerm 75 = .ok (.invokevirtual 245, 3) := by decide +kernel
theorem dX12_readsTerm_78 : decode cX12_readsTerm 78 = .ok (.ifCond .ne 5, 3) := by decide +kernel
theorem dX12_readsTerm_81 : decode cX12_readsTerm 81 = .ok (.iconst 0, 1) := by decide +kernel
theorem dX12_readsTerm_82 : decode cX12_readsTerm 82 = .ok (.ireturn, 1) := by decide +kernel
theorem dX12_readsTerm_83 : decode cX12_readsTerm 83 = .ok (.aload_n 0, 1) := by decide +kernel
theorem dX12_readsTerm_84 : decode cX12_readsTerm 84 = .ok (.dup, 1) := by decide +kernel
theorem dX12_readsTerm_85 : decode cX12_readsTerm 85 = .ok (.getfield 165, 3) := by decide +kernel
theorem dX12_readsTerm_88 : decode cX12_readsTerm 88 = .ok (.iconst 1, 1) := by decide +kernel
theorem dX12_readsTerm_89 : decode cX12_readsTerm 89 = .ok (.iadd, 1) := by decide +kernel
theorem dX12_readsTerm_90 : decode cX12_readsTerm 90 = .ok (.putfield 165, 3) := by decide +kernel
theorem dX12_readsTerm_93 : decode cX12_readsTerm 93 = .ok (.aload_n 0, 1) := by decide +kernel
theorem dX12_readsTerm_94 : decode cX12_readsTerm 94 = .ok (.iconst 0, 1) := by decide +kernel
theorem dX12_readsTerm_95 : decode cX12_readsTerm 95 = .ok (.invokevirtual 273, 3) := by decide +kernel
theorem dX12_readsTerm_98 : decode cX12_readsTerm 98 = .ok (.ifCond .eq 12, 3) := by decide +kernel
theorem dX12_readsTerm_101 : decode cX12_readsTerm 101 = .ok (.aload_n 0, 1) := by decide +kernel
theorem dX12_readsTerm_102 : decode cX12_readsTerm 102 = .ok (.bipush 41, 2) := by decide +kernel
theorem dX12_readsTerm_104 : decode cX12_readsTerm 104 = .ok (.invokevirtual 245, 3) := by decide +kernel
theorem dX12_readsTerm_107 : decode cX12_readsTerm 107 = .ok (.ifCond .ne 5, 3) := by decide +kernel
theorem dX12_readsTerm_110 : decode cX12_readsTerm 110 = .ok (.iconst 0, 1) := by decide +kernel
theorem dX12_readsTerm_111 : decode cX12_readsTerm 111 = .ok (.ireturn, 1) := by decide +kernel
theorem dX12_readsTerm_112 : decode cX12_readsTerm 112 = .ok (.aload_n 0, 1) := by decide +kernel
theorem dX12_readsTerm_113 : decode cX12_readsTerm 113 = .ok (.dup, 1) := by decide +kernel
theorem dX12_readsTerm_114 : decode cX12_readsTerm 114 = .ok (.getfield 165, 3) := by decide +kernel
theorem dX12_readsTerm_117 : decode cX12_readsTerm 117 = .ok (.iconst 1, 1) := by decide +kernel
theorem dX12_readsTerm_118 : decode cX12_readsTerm 118 = .ok (.isub, 1) := by decide +kernel
theorem dX12_readsTerm_119 : decode cX12_readsTerm 119 = .ok (.putfield 165, 3) := by decide +kernel
theorem dX12_readsTerm_122 : decode cX12_readsTerm 122 = .ok (.iconst 1, 1) := by decide +kernel
theorem dX12_readsTerm_123 : decode cX12_readsTerm 123 = .ok (.ireturn, 1) := by decide +kernel
theorem dX12_readsRank_0 : decode cX12_readsRank 0 = .ok (.iload_n 1, 1) := by decide +kernel
theorem dX12_readsRank_1 : decode cX12_readsRank 1 = .ok (.iconst 3, 1) := by decide +kernel
theorem dX12_readsRank_2 : decode cX12_readsRank 2 = .ok (.if_icmp .ne 8, 3) := by decide +kernel
theorem dX12_readsRank_5 : decode cX12_readsRank 5 = .ok (.aload_n 0, 1) := by decide +kernel
theorem dX12_readsRank_6 : decode cX12_readsRank 6 = .ok (.invokevirtual 264, 3) := by decide +kernel
theorem dX12_readsRank_9 : decode cX12_readsRank 9 = .ok (.ireturn, 1) := by decide +kernel
theorem dX12_readsRank_10 : decode cX12_readsRank 10 = .ok (.aload_n 0, 1) := by decide +kernel
theorem dX12_readsRank_11 : decode cX12_readsRank 11 = .ok (.iload_n 1, 1) := by decide +kernel
theorem dX12_readsRank_12 : decode cX12_readsRank 12 = .ok (.iconst 1, 1) := by decide +kernel
theorem dX12_readsRank_13 : decode cX12_readsRank 13 = .ok (.iadd, 1) := by decide +kernel
theorem dX12_readsRank_14 : decode cX12_readsRank 14 = .ok (.invokevirtual 273, 3) := by decide +kernel
theorem dX12_readsRank_17 : decode cX12_readsRank 17 = .ok (.ifCond .ne 5, 3) := by decide +kernel
theorem dX12_readsRank_20 : decode cX12_readsRank 20 = .ok (.iconst 0, 1) := by decide +kernel
theorem dX12_readsRank_21 : decode cX12_readsRank 21 = .ok (.ireturn, 1) := by decide +kernel
theorem dX12_readsRank_22 : decode cX12_readsRank 22 = .ok (.iconst 1, 1) := by decide +kernel
theorem dX12_readsRank_23 : decode cX12_readsRank 23 = .ok (.istore_n 2, 1) := by decide +kernel
theorem dX12_readsRank_24 : decode cX12_readsRank 24 = .ok (.iload_n 2, 1) := by decide +kernel
theorem dX12_readsRank_25 : decode cX12_readsRank 25 = .ok (.ifCond .eq 91, 3) := by decide +kernel
theorem dX12_readsRank_28 : decode cX12_readsRank 28 = .ok (.aload_n 0, 1) := by decide +kernel
theorem dX12_readsRank_29 : decode cX12_readsRank 29 = .ok (.iload_n 1, 1) := by decide +kernel
theorem dX12_readsRank_30 : decode cX12_readsRank 30 = .ok (.ifCond .ne 9, 3) := by decide +kernel
theorem dX12_readsRank_33 : decode cX12_readsRank 33 = .ok (.ldc_w 276, 3) := by decide +kernel
theorem dX12_readsRank_36 : decode cX12_readsRank 36 = .ok (.goto 17, 3) := by decide +kernel
theorem dX12_readsRank_39 : decode cX12_readsRank 39 = .ok (.iload_n 1, 1) := by decide +kernel
theorem dX12_readsRank_40 : decode cX12_readsRank 40 = .ok (.iconst 1, 1) := by decide +kernel
theorem dX12_readsRank_41 : decode cX12_readsRank 41 = .ok (.if_icmp .ne 9, 3) := by decide +kernel
theorem dX12_readsRank_44 : decode cX12_readsRank 44 = .ok (.ldc_w 278, 3) := by decide +kernel
theorem dX12_readsRank_47 : decode cX12_readsRank 47 = .ok (.goto 6, 3) := by decide +kernel
theorem dX12_readsRank_50 : decode cX12_readsRank 50 = .ok (.ldc_w 280, 3) := by decide +kernel
theorem dX12_readsRank_53 : decode cX12_readsRank 53 = .ok (.invokevirtual 203, 3) := by decide +kernel
theorem dX12_readsRank_56 : decode cX12_readsRank 56 = .ok (.istore_n 3, 1) := by decide +kernel
theorem dX12_readsRank_57 : decode cX12_readsRank 57 = .ok (.iload_n 3, 1) := by decide +kernel
theorem dX12_readsRank_58 : decode cX12_readsRank 58 = .ok (.ifCond .ge 5, 3) := by decide +kernel
theorem dX12_readsRank_61 : decode cX12_readsRank 61 = .ok (.iconst 1, 1) := by decide +kernel
theorem dX12_readsRank_62 : decode cX12_readsRank 62 = .ok (.ireturn, 1) := by decide +kernel
theorem dX12_readsRank_63 : decode cX12_readsRank 63 = .ok (.aload_n 0, 1) := by decide +kernel
theorem dX12_readsRank_64 : decode cX12_readsRank 64 = .ok (.iload_n 1, 1) := by decide +kernel
theorem dX12_readsRank_65 : decode cX12_readsRank 65 = .ok (.iconst 1, 1) := by decide +kernel
theorem dX12_readsRank_66 : decode cX12_readsRank 66 = .ok (.iadd, 1) := by decide +kernel
theorem dX12_readsRank_67 : decode cX12_readsRank 67 = .ok (.invokevirtual 273, 3) := by decide +kernel
theorem dX12_readsRank_70 : decode cX12_readsRank 70 = .ok (.ifCond .ne 5, 3) := by decide +kernel
theorem dX12_readsRank_73 : decode cX12_readsRank 73 = .ok (.iconst 0, 1) := by decide +kernel
theorem dX12_readsRank_74 : decode cX12_readsRank 74 = .ok (.ireturn, 1) := by decide +kernel
theorem dX12_readsRank_75 : decode cX12_readsRank 75 = .ok (.aload_n 0, 1) := by decide +kernel
theorem dX12_readsRank_76 : decode cX12_readsRank 76 = .ok (.sipush 2000, 3) := by decide +kernel
theorem dX12_readsRank_79 : decode cX12_readsRank 79 = .ok (.iload_n 3, 1) := by decide +kernel
theorem dX12_readsRank_80 : decode cX12_readsRank 80 = .ok (.iadd, 1) := by decide +kernel
theorem dX12_readsRank_81 : decode cX12_readsRank 81 = .ok (.iload_n 1, 1) := by decide +kernel
theorem dX12_readsRank_82 : decode cX12_readsRank 82 = .ok (.ifCond .ne 7, 3) := by decide +kernel
theorem dX12_readsRank_85 : decode cX12_readsRank 85 = .ok (.iconst 0, 1) := by decide +kernel
theorem dX12_readsRank_86 : decode cX12_readsRank 86 = .ok (.goto 13, 3) := by decide +kernel
theorem dX12_readsRank_89 : decode cX12_readsRank 89 = .ok (.iload_n 1, 1) := by decide +kernel
theorem dX12_readsRank_90 : decode cX12_readsRank 90 = .ok (.iconst 1, 1) := by decide +kernel
theorem dX12_readsRank_91 : decode cX12_readsRank 91 = .ok (.if_icmp .ne 7, 3) := by decide +kernel
theorem dX12_readsRank_94 : decode cX12_readsRank 94 = .ok (.iconst 3, 1) := by decide +kernel
theorem dX12_readsRank_95 : decode cX12_readsRank 95 = .ok (.goto 4, 3) := by decide +kernel
theorem dX12_readsRank_98 : decode cX12_readsRank 98 = .ok (.iconst 5, 1) := by decide +kernel
theorem dX12_readsRank_99 : decode cX12_readsRank 99 = .ok (.iadd, 1) := by decide +kernel
theorem dX12_readsRank_100 : decode cX12_readsRank 100 = .ok (.invokevirtual 267, 3) := by decide +kernel
theorem dX12_readsRank_103 : decode cX12_readsRank 103 = .ok (.iload_n 1, 1) := by decide +kernel
theorem dX12_readsRank_104 : decode cX12_readsRank 104 = .ok (.ifCond .le 7, 3) := by decide +kernel
theorem dX12_readsRank_107 : decode cX12_readsRank 107 = .ok (.iconst 1, 1) := by decide +kernel
theorem dX12_readsRank_108 : decode cX12_readsRank 108 = .ok (.goto 4, 3) := by decide +kernel
theorem dX12_readsRank_111 : decode cX12_readsRank 111 = .ok (.iconst 0, 1) := by decide +kernel
theorem dX12_readsRank_112 : decode cX12_readsRank 112 = .ok (.istore_n 2, 1) := by decide +kernel
theorem dX12_readsRank_113 : decode cX12_readsRank 113 = .ok (.goto (-89), 3) := by decide +kernel
theorem dX12_readsRank_116 : decode cX12_readsRank 116 = .ok (.iconst 1, 1) := by decide +kernel
theorem dX12_readsRank_117 : decode cX12_readsRank 117 = .ok (.ireturn, 1) := by decide +kernel
theorem dX12_readsRule_0 : decode cX12_readsRule 0 = .ok (.aload_n 0, 1) := by decide +kernel
theorem dX12_readsRule_1 : decode cX12_readsRule 1 = .ok (.bipush 40, 2) := by decide +kernel
theorem dX12_readsRule_3 : decode cX12_readsRule 3 = .ok (.invokevirtual 206, 3) := by decide +kernel
theorem dX12_readsRule_6 : decode cX12_readsRule 6 = .ok (.istore_n 1, 1) := by decide +kernel
theorem dX12_readsRule_7 : decode cX12_readsRule 7 = .ok (.aload_n 0, 1) := by decide +kernel
theorem dX12_readsRule_8 : decode cX12_readsRule 8 = .ok (.iconst 0, 1) := by decide +kernel
theorem dX12_readsRule_9 : decode cX12_readsRule 9 = .ok (.putfield 261, 3) := by decide +kernel
theorem dX12_readsRule_12 : decode cX12_readsRule 12 = .ok (.iload_n 1, 1) := by decide +kernel
theorem dX12_readsRule_13 : decode cX12_readsRule 13 = .ok (.ifCond .eq 11, 3) := by decide +kernel
theorem dX12_readsRule_16 : decode cX12_readsRule 16 = .ok (.aload_n 0, 1) := by decide +kernel
theorem dX12_readsRule_17 : decode cX12_readsRule 17 = .ok (.iconst 0, 1) := by decide +kernel
theorem dX12_readsRule_18 : decode cX12_readsRule 18 = .ok (.invokevirtual 273, 3) := by decide +kernel
theorem dX12_readsRule_21 : decode cX12_readsRule 21 = .ok (.ifCond .eq 7, 3) := by decide +kernel
theorem dX12_readsRule_24 : decode cX12_readsRule 24 = .ok (.iconst 1, 1) := by decide +kernel
theorem dX12_readsRule_25 : decode cX12_readsRule 25 = .ok (.goto 4, 3) := by decide +kernel
theorem dX12_readsRule_28 : decode cX12_readsRule 28 = .ok (.iconst 0, 1) := by decide +kernel
theorem dX12_readsRule_29 : decode cX12_readsRule 29 = .ok (.istore_n 2, 1) := by decide +kernel
theorem dX12_readsRule_30 : decode cX12_readsRule 30 = .ok (.aload_n 0, 1) := by decide +kernel
theorem dX12_readsRule_31 : decode cX12_readsRule 31 = .ok (.iload_n 1, 1) := by decide +kernel
theorem dX12_readsRule_32 : decode cX12_readsRule 32 = .ok (.bipush 40, 2) := by decide +kernel
theorem dX12_readsRule_34 : decode cX12_readsRule 34 = .ok (.iload_n 2, 1) := by decide +kernel
theorem dX12_readsRule_35 : decode cX12_readsRule 35 = .ok (.invokevirtual 248, 3) := by decide +kernel
theorem dX12_readsRule_38 : decode cX12_readsRule 38 = .ok (.ireturn, 1) := by decide +kernel
theorem dX12_laysCode_0 : decode cX12_laysCode 0 = .ok (.aload_n 0, 1) := by decide +kernel
theorem dX12_laysCode_1 : decode cX12_laysCode 1 = .ok (.iload_n 2, 1) := by decide +kernel
theorem dX12_laysCode_2 : decode cX12_laysCode 2 = .ok (.putfield 282, 3) := by decide +kernel
theorem dX12_laysCode_5 : decode cX12_laysCode 5 = .ok (.iconst 0, 1) := by decide +kernel
theorem dX12_laysCode_6 : decode cX12_laysCode 6 = .ok (.istore_n 3, 1) := by decide +kernel
theorem dX12_laysCode_7 : decode cX12_laysCode 7 = .ok (.iload_n 3, 1) := by decide +kernel
theorem dX12_laysCode_8 : decode cX12_laysCode 8 = .ok (.iload_n 2, 1) := by decide +kernel
theorem dX12_laysCode_9 : decode cX12_laysCode 9 = .ok (.if_icmp .ge 18, 3) := by decide +kernel
theorem dX12_laysCode_12 : decode cX12_laysCode 12 = .ok (.aload_n 0, 1) := by decide +kernel
theorem dX12_laysCode_13 : decode cX12_laysCode 13 = .ok (.getfield 61, 3) := by decide +kernel
theorem dX12_laysCode_16 : decode cX12_laysCode 16 = .ok (.iload_n 3, 1) := by decide +kernel
theorem dX12_laysCode_17 : decode cX12_laysCode 17 = .ok (.aload_n 1, 1) := by decide +kernel
theorem dX12_laysCode_18 : decode cX12_laysCode 18 = .ok (.iload_n 3, 1) := by decide +kernel
theorem dX12_laysCode_19 : decode cX12_laysCode 19 = .ok (.iaload, 1) := by decide +kernel
theorem dX12_laysCode_20 : decode cX12_laysCode 20 = .ok (.iastore, 1) := by decide +kernel
theorem dX12_laysCode_21 : decode cX12_laysCode 21 = .ok (.iinc 3 1, 3) := by decide +kernel
theorem dX12_laysCode_24 : decode cX12_laysCode 24 = .ok (.goto (-17), 3) := by decide +kernel
theorem dX12_laysCode_27 : decode cX12_laysCode 27 = .ok (.return_, 1) := by decide +kernel
theorem dX12_rule_0 : decode cX12_rule 0 = .ok (.aload_n 0, 1) := by decide +kernel
theorem dX12_rule_1 : decode cX12_rule 1 = .ok (.iconst 0, 1) := by decide +kernel
theorem dX12_rule_2 : decode cX12_rule 2 = .ok (.putfield 3, 3) := by decide +kernel
theorem dX12_rule_5 : decode cX12_rule 5 = .ok (.aload_n 0, 1) := by decide +kernel
theorem dX12_rule_6 : decode cX12_rule 6 = .ok (.invokevirtual 285, 3) := by decide +kernel
theorem dX12_rule_9 : decode cX12_rule 9 = .ok (.istore_n 1, 1) := by decide +kernel
theorem dX12_rule_10 : decode cX12_rule 10 = .ok (.iload_n 1, 1) := by decide +kernel
theorem dX12_rule_11 : decode cX12_rule 11 = .ok (.ifCond .ne 15, 3) := by decide +kernel
theorem dX12_rule_14 : decode cX12_rule 14 = .ok (.aload_n 0, 1) := by decide +kernel
theorem dX12_rule_15 : decode cX12_rule 15 = .ok (.aload_n 0, 1) := by decide +kernel
theorem dX12_rule_16 : decode cX12_rule 16 = .ok (.getfield 64, 3) := by decide +kernel
theorem dX12_rule_19 : decode cX12_rule 19 = .ok (.aload_n 0, 1) := by decide +kernel
theorem dX12_rule_20 : decode cX12_rule 20 = .ok (.getfield 261, 3) := by decide +kernel
theorem dX12_rule_23 : decode cX12_rule 23 = .ok (.invokevirtual 288, 3) := by decide +kernel
theorem dX12_rule_26 : decode cX12_rule 26 = .ok (.iload_n 1, 1) := by decide +kernel
theorem dX12_rule_27 : decode cX12_rule 27 = .ok (.ireturn, 1) := by decide +kernel
theorem dX12_worked_0 : decode cX12_worked 0 = .ok (.iload_n 0, 1) := by decide +kernel
theorem dX12_worked_1 : decode cX12_worked 1 = .ok (.tableswitch 93 0 5 #[39, 53, 67, 81, 85, 89], 39) := by decide +kernel
theorem dX12_worked_40 : decode cX12_worked 40 = .ok (.iload_n 1, 1) := by decide +kernel
theorem dX12_worked_41 : decode cX12_worked 41 = .ok (.iload_n 2, 1) := by decide +kernel
theorem dX12_worked_42 : decode cX12_worked 42 = .ok (.if_icmp .ge 7, 3) := by decide +kernel
theorem dX12_worked_45 : decode cX12_worked 45 = .ok (.iconst 1, 1) := by decide +kernel
theorem dX12_worked_46 : decode cX12_worked 46 = .ok (.goto 4, 3) := by decide +kernel
theorem dX12_worked_49 : decode cX12_worked 49 = .ok (.iconst 0, 1) := by decide +kernel
theorem dX12_worked_50 : decode cX12_worked 50 = .ok (.invokestatic 175, 3) := by decide +kernel
theorem dX12_worked_53 : decode cX12_worked 53 = .ok (.ireturn, 1) := by decide +kernel
theorem dX12_worked_54 : decode cX12_worked 54 = .ok (.iload_n 1, 1) := by decide +kernel
theorem dX12_worked_55 : decode cX12_worked 55 = .ok (.iload_n 2, 1) := by decide +kernel
theorem dX12_worked_56 : decode cX12_worked 56 = .ok (.if_icmp .le 7, 3) := by decide +kernel
theorem dX12_worked_59 : decode cX12_worked 59 = .ok (.iconst 1, 1) := by decide +kernel
theorem dX12_worked_60 : decode cX12_worked 60 = .ok (.goto 4, 3) := by decide +kernel
theorem dX12_worked_63 : decode cX12_worked 63 = .ok (.iconst 0, 1) := by decide +kernel
theorem dX12_worked_64 : decode cX12_worked 64 = .ok (.invokestatic 175, 3) := by decide +kernel
theorem dX12_worked_67 : decode cX12_worked 67 = .ok (.ireturn, 1) := by decide +kernel
theorem dX12_worked_68 : decode cX12_worked 68 = .ok (.iload_n 1, 1) := by decide +kernel
theorem dX12_worked_69 : decode cX12_worked 69 = .ok (.iload_n 2, 1) := by decide +kernel
theorem dX12_worked_70 : decode cX12_worked 70 = .ok (.if_icmp .ne 7, 3) := by decide +kernel
theorem dX12_worked_73 : decode cX12_worked 73 = .ok (.iconst 1, 1) := by decide +kernel
theorem dX12_worked_74 : decode cX12_worked 74 = .ok (.goto 4, 3) := by decide +kernel
theorem dX12_worked_77 : decode cX12_worked 77 = .ok (.iconst 0, 1) := by decide +kernel
theorem dX12_worked_78 : decode cX12_worked 78 = .ok (.invokestatic 175, 3) := by decide +kernel
theorem dX12_worked_81 : decode cX12_worked 81 = .ok (.ireturn, 1) := by decide +kernel
theorem dX12_worked_82 : decode cX12_worked 82 = .ok (.iload_n 1, 1) := by decide +kernel
theorem dX12_worked_83 : decode cX12_worked 83 = .ok (.iload_n 2, 1) := by decide +kernel
theorem dX12_worked_84 : decode cX12_worked 84 = .ok (.iadd, 1) := by decide +kernel
theorem dX12_worked_85 : decode cX12_worked 85 = .ok (.ireturn, 1) := by decide +kernel
theorem dX12_worked_86 : decode cX12_worked 86 = .ok (.iload_n 1, 1) := by decide +kernel
theorem dX12_worked_87 : decode cX12_worked 87 = .ok (.iload_n 2, 1) := by decide +kernel
theorem dX12_worked_88 : decode cX12_worked 88 = .ok (.isub, 1) := by decide +kernel
theorem dX12_worked_89 : decode cX12_worked 89 = .ok (.ireturn, 1) := by decide +kernel
theorem dX12_worked_90 : decode cX12_worked 90 = .ok (.iload_n 1, 1) := by decide +kernel
theorem dX12_worked_91 : decode cX12_worked 91 = .ok (.iload_n 2, 1) := by decide +kernel
theorem dX12_worked_92 : decode cX12_worked 92 = .ok (.imul, 1) := by decide +kernel
theorem dX12_worked_93 : decode cX12_worked 93 = .ok (.ireturn, 1) := by decide +kernel
theorem dX12_worked_94 : decode cX12_worked 94 = .ok (.iload_n 2, 1) := by decide +kernel
theorem dX12_worked_95 : decode cX12_worked 95 = .ok (.ifCond .ne 7, 3) := by decide +kernel
theorem dX12_worked_98 : decode cX12_worked 98 = .ok (.iconst 0, 1) := by decide +kernel
theorem dX12_worked_99 : decode cX12_worked 99 = .ok (.goto 6, 3) := by decide +kernel
theorem dX12_worked_102 : decode cX12_worked 102 = .ok (.iload_n 1, 1) := by decide +kernel
theorem dX12_worked_103 : decode cX12_worked 103 = .ok (.iload_n 2, 1) := by decide +kernel
theorem dX12_worked_104 : decode cX12_worked 104 = .ok (.idiv, 1) := by decide +kernel
theorem dX12_worked_105 : decode cX12_worked 105 = .ok (.ireturn, 1) := by decide +kernel
theorem dX12_ruled_0 : decode cX12_ruled 0 = .ok (.iconst 0, 1) := by decide +kernel
theorem dX12_ruled_1 : decode cX12_ruled 1 = .ok (.istore_n 1, 1) := by decide +kernel
theorem dX12_ruled_2 : decode cX12_ruled 2 = .ok (.iconst 0, 1) := by decide +kernel
theorem dX12_ruled_3 : decode cX12_ruled 3 = .ok (.istore_n 2, 1) := by decide +kernel
theorem dX12_ruled_4 : decode cX12_ruled 4 = .ok (.iload_n 2, 1) := by decide +kernel
theorem dX12_ruled_5 : decode cX12_ruled 5 = .ok (.aload_n 0, 1) := by decide +kernel
theorem dX12_ruled_6 : decode cX12_ruled 6 = .ok (.getfield 282, 3) := by decide +kernel
theorem dX12_ruled_9 : decode cX12_ruled 9 = .ok (.if_icmp .ge 116, 3) := by decide +kernel
theorem dX12_ruled_12 : decode cX12_ruled 12 = .ok (.aload_n 0, 1) := by decide +kernel
theorem dX12_ruled_13 : decode cX12_ruled 13 = .ok (.getfield 61, 3) := by decide +kernel
theorem dX12_ruled_16 : decode cX12_ruled 16 = .ok (.iload_n 2, 1) := by decide +kernel
theorem dX12_ruled_17 : decode cX12_ruled 17 = .ok (.iaload, 1) := by decide +kernel
theorem dX12_ruled_18 : decode cX12_ruled 18 = .ok (.istore_n 3, 1) := by decide +kernel
theorem dX12_ruled_19 : decode cX12_ruled 19 = .ok (.iload_n 3, 1) := by decide +kernel
theorem dX12_ruled_20 : decode cX12_ruled 20 = .ok (.sipush 3000, 3) := by decide +kernel
theorem dX12_ruled_23 : decode cX12_ruled 23 = .ok (.if_icmp .ne 23, 3) := by decide +kernel
theorem dX12_ruled_26 : decode cX12_ruled 26 = .ok (.aload_n 0, 1) := by decide +kernel
theorem dX12_ruled_27 : decode cX12_ruled 27 = .ok (.getfield 67, 3) := by decide +kernel
theorem dX12_ruled_30 : decode cX12_ruled 30 = .ok (.iload_n 1, 1) := by decide +kernel
theorem dX12_ruled_31 : decode cX12_ruled 31 = .ok (.iconst 1, 1) := by decide +kernel
theorem dX12_ruled_32 : decode cX12_ruled 32 = .ok (.isub, 1) := by decide +kernel
theorem dX12_ruled_33 : decode cX12_ruled 33 = .ok (.aload_n 0, 1) := by decide +kernel
theorem dX12_ruled_34 : decode cX12_ruled 34 = .ok (.getfield 67, 3) := by decide +kernel
theorem dX12_ruled_37 : decode cX12_ruled 37 = .ok (.iload_n 1, 1) := by decide +kernel
theorem dX12_ruled_38 : decode cX12_ruled 38 = .ok (.iconst 1, 1) := by decide +kernel
theorem dX12_ruled_39 : decode cX12_ruled 39 = .ok (.isub, 1) := by decide +kernel
theorem dX12_ruled_40 : decode cX12_ruled 40 = .ok (.iaload, 1) := by decide +kernel
theorem dX12_ruled_41 : decode cX12_ruled 41 = .ok (.ineg, 1) := by decide +kernel
theorem dX12_ruled_42 : decode cX12_ruled 42 = .ok (.iastore, 1) := by decide +kernel
theorem dX12_ruled_43 : decode cX12_ruled 43 = .ok (.goto 76, 3) := by decide +kernel
theorem dX12_ruled_46 : decode cX12_ruled 46 = .ok (.iload_n 3, 1) := by decide +kernel
theorem dX12_ruled_47 : decode cX12_ruled 47 = .ok (.sipush 2000, 3) := by decide +kernel
theorem dX12_ruled_50 : decode cX12_ruled 50 = .ok (.if_icmp .lt 39, 3) := by decide +kernel
theorem dX12_ruled_53 : decode cX12_ruled 53 = .ok (.iinc 1 (-1), 3) := by decide +kernel
theorem dX12_ruled_56 : decode cX12_ruled 56 = .ok (.aload_n 0, 1) := by decide +kernel
theorem dX12_ruled_57 : decode cX12_ruled 57 = .ok (.getfield 67, 3) := by decide +kernel
theorem dX12_ruled_60 : decode cX12_ruled 60 = .ok (.iload_n 1, 1) := by decide +kernel
theorem dX12_ruled_61 : decode cX12_ruled 61 = .ok (.iconst 1, 1) := by decide +kernel
theorem dX12_ruled_62 : decode cX12_ruled 62 = .ok (.isub, 1) := by decide +kernel
theorem dX12_ruled_63 : decode cX12_ruled 63 = .ok (.iload_n 3, 1) := by decide +kernel
theorem dX12_ruled_64 : decode cX12_ruled 64 = .ok (.sipush 2000, 3) := by decide +kernel
theorem dX12_ruled_67 : decode cX12_ruled 67 = .ok (.isub, 1) := by decide +kernel
theorem dX12_ruled_68 : decode cX12_ruled 68 = .ok (.aload_n 0, 1) := by decide +kernel
theorem dX12_ruled_69 : decode cX12_ruled 69 = .ok (.getfield 67, 3) := by decide +kernel
theorem dX12_ruled_72 : decode cX12_ruled 72 = .ok (.iload_n 1, 1) := by decide +kernel
theorem dX12_ruled_73 : decode cX12_ruled 73 = .ok (.iconst 1, 1) := by decide +kernel
theorem dX12_ruled_74 : decode cX12_ruled 74 = .ok (.isub, 1) := by decide +kernel
theorem dX12_ruled_75 : decode cX12_ruled 75 = .ok (.iaload, 1) := by decide +kernel
theorem dX12_ruled_76 : decode cX12_ruled 76 = .ok (.aload_n 0, 1) := by decide +kernel
theorem dX12_ruled_77 : decode cX12_ruled 77 = .ok (.getfield 67, 3) := by decide +kernel
theorem dX12_ruled_80 : decode cX12_ruled 80 = .ok (.iload_n 1, 1) := by decide +kernel
theorem dX12_ruled_81 : decode cX12_ruled 81 = .ok (.iaload, 1) := by decide +kernel
theorem dX12_ruled_82 : decode cX12_ruled 82 = .ok (.invokestatic 292, 3) := by decide +kernel
theorem dX12_ruled_85 : decode cX12_ruled 85 = .ok (.iastore, 1) := by decide +kernel
theorem dX12_ruled_86 : decode cX12_ruled 86 = .ok (.goto 33, 3) := by decide +kernel
theorem dX12_ruled_89 : decode cX12_ruled 89 = .ok (.aload_n 0, 1) := by decide +kernel
theorem dX12_ruled_90 : decode cX12_ruled 90 = .ok (.getfield 67, 3) := by decide +kernel
theorem dX12_ruled_93 : decode cX12_ruled 93 = .ok (.iload_n 1, 1) := by decide +kernel
theorem dX12_ruled_94 : decode cX12_ruled 94 = .ok (.iload_n 3, 1) := by decide +kernel
theorem dX12_ruled_95 : decode cX12_ruled 95 = .ok (.sipush 1000, 3) := by decide +kernel
theorem dX12_ruled_98 : decode cX12_ruled 98 = .ok (.if_icmp .lt 16, 3) := by decide +kernel
theorem dX12_ruled_101 : decode cX12_ruled 101 = .ok (.aload_n 0, 1) := by decide +kernel
theorem dX12_ruled_102 : decode cX12_ruled 102 = .ok (.getfield 70, 3) := by decide +kernel
theorem dX12_ruled_105 : decode cX12_ruled 105 = .ok (.iload_n 3, 1) := by decide +kernel
theorem dX12_ruled_106 : decode cX12_ruled 106 = .ok (.sipush 1000, 3) := by decide +kernel
theorem dX12_ruled_109 : decode cX12_ruled 109 = .ok (.isub, 1) := by decide +kernel
theorem dX12_ruled_110 : decode cX12_ruled 110 = .ok (.iaload, 1) := by decide +kernel
theorem dX12_ruled_111 : decode cX12_ruled 111 = .ok (.goto 4, 3) := by decide +kernel
theorem dX12_ruled_114 : decode cX12_ruled 114 = .ok (.iload_n 3, 1) := by decide +kernel
theorem dX12_ruled_115 : decode cX12_ruled 115 = .ok (.iastore, 1) := by decide +kernel
theorem dX12_ruled_116 : decode cX12_ruled 116 = .ok (.iinc 1 1, 3) := by decide +kernel
theorem dX12_ruled_119 : decode cX12_ruled 119 = .ok (.iinc 2 1, 3) := by decide +kernel
theorem dX12_ruled_122 : decode cX12_ruled 122 = .ok (.goto (-118), 3) := by decide +kernel
theorem dX12_ruled_125 : decode cX12_ruled 125 = .ok (.aload_n 0, 1) := by decide +kernel
theorem dX12_ruled_126 : decode cX12_ruled 126 = .ok (.getfield 282, 3) := by decide +kernel
theorem dX12_ruled_129 : decode cX12_ruled 129 = .ok (.ifCond .ne 38, 3) := by decide +kernel
theorem dX12_ruled_132 : decode cX12_ruled 132 = .ok (.aload_n 0, 1) := by decide +kernel
theorem dX12_ruled_133 : decode cX12_ruled 133 = .ok (.getfield 70, 3) := by decide +kernel
theorem dX12_ruled_136 : decode cX12_ruled 136 = .ok (.iconst 3, 1) := by decide +kernel
theorem dX12_ruled_137 : decode cX12_ruled 137 = .ok (.iaload, 1) := by decide +kernel
theorem dX12_ruled_138 : decode cX12_ruled 138 = .ok (.ifCond .ne 22, 3) := by decide +kernel
theorem dX12_ruled_141 : decode cX12_ruled 141 = .ok (.aload_n 0, 1) := by decide +kernel
theorem dX12_ruled_142 : decode cX12_ruled 142 = .ok (.getfield 70, 3) := by decide +kernel
theorem dX12_ruled_145 : decode cX12_ruled 145 = .ok (.iconst 1, 1) := by decide +kernel
theorem dX12_ruled_146 : decode cX12_ruled 146 = .ok (.iaload, 1) := by decide +kernel
theorem dX12_ruled_147 : decode cX12_ruled 147 = .ok (.aload_n 0, 1) := by decide +kernel
theorem dX12_ruled_148 : decode cX12_ruled 148 = .ok (.getfield 70, 3) := by decide +kernel
theorem dX12_ruled_151 : decode cX12_ruled 151 = .ok (.iconst 2, 1) := by decide +kernel
theorem dX12_ruled_152 : decode cX12_ruled 152 = .ok (.iaload, 1) := by decide +kernel
theorem dX12_ruled_153 : decode cX12_ruled 153 = .ok (.if_icmp .gt 7, 3) := by decide +kernel
theorem dX12_ruled_156 : decode cX12_ruled 156 = .ok (.iconst 1, 1) := by decide +kernel
theorem dX12_ruled_157 : decode cX12_ruled 157 = .ok (.goto 4, 3) := by decide +kernel
theorem dX12_ruled_160 : decode cX12_ruled 160 = .ok (.iconst 0, 1) := by decide +kernel
theorem dX12_ruled_161 : decode cX12_ruled 161 = .ok (.invokestatic 175, 3) := by decide +kernel
theorem dX12_ruled_164 : decode cX12_ruled 164 = .ok (.goto 9, 3) := by decide +kernel
theorem dX12_ruled_167 : decode cX12_ruled 167 = .ok (.aload_n 0, 1) := by decide +kernel
theorem dX12_ruled_168 : decode cX12_ruled 168 = .ok (.getfield 67, 3) := by decide +kernel
theorem dX12_ruled_171 : decode cX12_ruled 171 = .ok (.iconst 0, 1) := by decide +kernel
theorem dX12_ruled_172 : decode cX12_ruled 172 = .ok (.iaload, 1) := by decide +kernel
theorem dX12_ruled_173 : decode cX12_ruled 173 = .ok (.ireturn, 1) := by decide +kernel
theorem dX12_lets_0 : decode cX12_lets 0 = .ok (.aload_n 0, 1) := by decide +kernel
theorem dX12_lets_1 : decode cX12_lets 1 = .ok (.getfield 70, 3) := by decide +kernel
theorem dX12_lets_4 : decode cX12_lets 4 = .ok (.iconst 0, 1) := by decide +kernel
theorem dX12_lets_5 : decode cX12_lets 5 = .ok (.iload_n 3, 1) := by decide +kernel
theorem dX12_lets_6 : decode cX12_lets 6 = .ok (.iastore, 1) := by decide +kernel
theorem dX12_lets_7 : decode cX12_lets 7 = .ok (.aload_n 0, 1) := by decide +kernel
theorem dX12_lets_8 : decode cX12_lets 8 = .ok (.getfield 70, 3) := by decide +kernel
theorem dX12_lets_11 : decode cX12_lets 11 = .ok (.iconst 1, 1) := by decide +kernel
theorem dX12_lets_12 : decode cX12_lets 12 = .ok (.iload 4, 2) := by decide +kernel
theorem dX12_lets_14 : decode cX12_lets 14 = .ok (.iastore, 1) := by decide +kernel
theorem dX12_lets_15 : decode cX12_lets 15 = .ok (.aload_n 0, 1) := by decide +kernel
theorem dX12_lets_16 : decode cX12_lets 16 = .ok (.getfield 70, 3) := by decide +kernel
theorem dX12_lets_19 : decode cX12_lets 19 = .ok (.iconst 2, 1) := by decide +kernel
theorem dX12_lets_20 : decode cX12_lets 20 = .ok (.aload_n 0, 1) := by decide +kernel
theorem dX12_lets_21 : decode cX12_lets 21 = .ok (.getfield 37, 3) := by decide +kernel
theorem dX12_lets_24 : decode cX12_lets 24 = .ok (.iload_n 2, 1) := by decide +kernel
theorem dX12_lets_25 : decode cX12_lets 25 = .ok (.iaload, 1) := by decide +kernel
theorem dX12_lets_26 : decode cX12_lets 26 = .ok (.iastore, 1) := by decide +kernel
theorem dX12_lets_27 : decode cX12_lets 27 = .ok (.aload_n 0, 1) := by decide +kernel
theorem dX12_lets_28 : decode cX12_lets 28 = .ok (.getfield 70, 3) := by decide +kernel
theorem dX12_lets_31 : decode cX12_lets 31 = .ok (.iconst 3, 1) := by decide +kernel
theorem dX12_lets_32 : decode cX12_lets 32 = .ok (.aload_n 0, 1) := by decide +kernel
theorem dX12_lets_33 : decode cX12_lets 33 = .ok (.getfield 40, 3) := by decide +kernel
theorem dX12_lets_36 : decode cX12_lets 36 = .ok (.iload_n 2, 1) := by decide +kernel
theorem dX12_lets_37 : decode cX12_lets 37 = .ok (.iaload, 1) := by decide +kernel
theorem dX12_lets_38 : decode cX12_lets 38 = .ok (.iload_n 3, 1) := by decide +kernel
theorem dX12_lets_39 : decode cX12_lets 39 = .ok (.invokestatic 296, 3) := by decide +kernel
theorem dX12_lets_42 : decode cX12_lets 42 = .ok (.invokestatic 175, 3) := by decide +kernel
theorem dX12_lets_45 : decode cX12_lets 45 = .ok (.iastore, 1) := by decide +kernel
theorem dX12_lets_46 : decode cX12_lets 46 = .ok (.aload_n 0, 1) := by decide +kernel
theorem dX12_lets_47 : decode cX12_lets 47 = .ok (.getfield 70, 3) := by decide +kernel
theorem dX12_lets_50 : decode cX12_lets 50 = .ok (.iconst 4, 1) := by decide +kernel
theorem dX12_lets_51 : decode cX12_lets 51 = .ok (.aload_n 0, 1) := by decide +kernel
theorem dX12_lets_52 : decode cX12_lets 52 = .ok (.getfield 40, 3) := by decide +kernel
theorem dX12_lets_55 : decode cX12_lets 55 = .ok (.iload_n 2, 1) := by decide +kernel
theorem dX12_lets_56 : decode cX12_lets 56 = .ok (.iaload, 1) := by decide +kernel
theorem dX12_lets_57 : decode cX12_lets 57 = .ok (.invokestatic 300, 3) := by decide +kernel
theorem dX12_lets_60 : decode cX12_lets 60 = .ok (.iastore, 1) := by decide +kernel
theorem dX12_lets_61 : decode cX12_lets 61 = .ok (.aload_n 0, 1) := by decide +kernel
theorem dX12_lets_62 : decode cX12_lets 62 = .ok (.getfield 70, 3) := by decide +kernel
theorem dX12_lets_65 : decode cX12_lets 65 = .ok (.iconst 5, 1) := by decide +kernel
theorem dX12_lets_66 : decode cX12_lets 66 = .ok (.aload_n 1, 1) := by decide +kernel
theorem dX12_lets_67 : decode cX12_lets 67 = .ok (.bipush 25, 2) := by decide +kernel
theorem dX12_lets_69 : decode cX12_lets 69 = .ok (.iaload, 1) := by decide +kernel
theorem dX12_lets_70 : decode cX12_lets 70 = .ok (.bipush 24, 2) := by decide +kernel
theorem dX12_lets_72 : decode cX12_lets 72 = .ok (.irem, 1) := by decide +kernel
theorem dX12_lets_73 : decode cX12_lets 73 = .ok (.iastore, 1) := by decide +kernel
theorem dX12_lets_74 : decode cX12_lets 74 = .ok (.aload_n 1, 1) := by decide +kernel
theorem dX12_lets_75 : decode cX12_lets 75 = .ok (.bipush 24, 2) := by decide +kernel
theorem dX12_lets_77 : decode cX12_lets 77 = .ok (.iaload, 1) := by decide +kernel
theorem dX12_lets_78 : decode cX12_lets 78 = .ok (.iload_n 2, 1) := by decide +kernel
theorem dX12_lets_79 : decode cX12_lets 79 = .ok (.invokestatic 296, 3) := by decide +kernel
theorem dX12_lets_82 : decode cX12_lets 82 = .ok (.ifCond .ne 10, 3) := by decide +kernel
theorem dX12_lets_85 : decode cX12_lets 85 = .ok (.aload_n 0, 1) := by decide +kernel
theorem dX12_lets_86 : decode cX12_lets 86 = .ok (.invokevirtual 305, 3) := by decide +kernel
theorem dX12_lets_89 : decode cX12_lets 89 = .ok (.ifCond .eq 7, 3) := by decide +kernel
theorem dX12_lets_92 : decode cX12_lets 92 = .ok (.iconst 1, 1) := by decide +kernel
theorem dX12_lets_93 : decode cX12_lets 93 = .ok (.goto 4, 3) := by decide +kernel
theorem dX12_lets_96 : decode cX12_lets 96 = .ok (.iconst 0, 1) := by decide +kernel
theorem dX12_lets_97 : decode cX12_lets 97 = .ok (.ireturn, 1) := by decide +kernel
theorem dX12_panesOf_0 : decode cX12_panesOf 0 = .ok (.iconst 0, 1) := by decide +kernel
theorem dX12_panesOf_1 : decode cX12_panesOf 1 = .ok (.istore_n 3, 1) := by decide +kernel
theorem dX12_panesOf_2 : decode cX12_panesOf 2 = .ok (.iconst 0, 1) := by decide +kernel
theorem dX12_panesOf_3 : decode cX12_panesOf 3 = .ok (.istore 4, 2) := by decide +kernel
theorem dX12_panesOf_5 : decode cX12_panesOf 5 = .ok (.iload 4, 2) := by decide +kernel
theorem dX12_panesOf_7 : decode cX12_panesOf 7 = .ok (.aload_n 0, 1) := by decide +kernel
theorem dX12_panesOf_8 : decode cX12_panesOf 8 = .ok (.getfield 147, 3) := by decide +kernel
theorem dX12_panesOf_11 : decode cX12_panesOf 11 = .ok (.if_icmp .ge 31, 3) := by decide +kernel
theorem dX12_panesOf_14 : decode cX12_panesOf 14 = .ok (.iload_n 3, 1) := by decide +kernel
theorem dX12_panesOf_15 : decode cX12_panesOf 15 = .ok (.aload_n 1, 1) := by decide +kernel
theorem dX12_panesOf_16 : decode cX12_panesOf 16 = .ok (.bipush 16, 2) := by decide +kernel
theorem dX12_panesOf_18 : decode cX12_panesOf 18 = .ok (.iload 4, 2) := by decide +kernel
theorem dX12_panesOf_20 : decode cX12_panesOf 20 = .ok (.iadd, 1) := by decide +kernel
theorem dX12_panesOf_21 : decode cX12_panesOf 21 = .ok (.iaload, 1) := by decide +kernel
theorem dX12_panesOf_22 : decode cX12_panesOf 22 = .ok (.iload_n 2, 1) := by decide +kernel
theorem dX12_panesOf_23 : decode cX12_panesOf 23 = .ok (.if_icmp .ne 10, 3) := by decide +kernel
theorem dX12_panesOf_26 : decode cX12_panesOf 26 = .ok (.iconst 1, 1) := by decide +kernel
theorem dX12_panesOf_27 : decode cX12_panesOf 27 = .ok (.iload 4, 2) := by decide +kernel
theorem dX12_panesOf_29 : decode cX12_panesOf 29 = .ok (.ishl, 1) := by decide +kernel
theorem dX12_panesOf_30 : decode cX12_panesOf 30 = .ok (.goto 4, 3) := by decide +kernel
theorem dX12_panesOf_33 : decode cX12_panesOf 33 = .ok (.iconst 0, 1) := by decide +kernel
theorem dX12_panesOf_34 : decode cX12_panesOf 34 = .ok (.ior, 1) := by decide +kernel
theorem dX12_panesOf_35 : decode cX12_panesOf 35 = .ok (.istore_n 3, 1) := by decide +kernel
theorem dX12_panesOf_36 : decode cX12_panesOf 36 = .ok (.iinc 4 1, 3) := by decide +kernel
theorem dX12_panesOf_39 : decode cX12_panesOf 39 = .ok (.goto (-34), 3) := by decide +kernel
theorem dX12_panesOf_42 : decode cX12_panesOf 42 = .ok (.iload_n 3, 1) := by decide +kernel
theorem dX12_panesOf_43 : decode cX12_panesOf 43 = .ok (.ireturn, 1) := by decide +kernel
theorem dX12_letsSome_0 : decode cX12_letsSome 0 = .ok (.iconst 0, 1) := by decide +kernel
theorem dX12_letsSome_1 : decode cX12_letsSome 1 = .ok (.istore 5, 2) := by decide +kernel
theorem dX12_letsSome_3 : decode cX12_letsSome 3 = .ok (.iconst 0, 1) := by decide +kernel
theorem dX12_letsSome_4 : decode cX12_letsSome 4 = .ok (.istore 6, 2) := by decide +kernel
theorem dX12_letsSome_6 : decode cX12_letsSome 6 = .ok (.iload 6, 2) := by decide +kernel
theorem dX12_letsSome_8 : decode cX12_letsSome 8 = .ok (.aload_n 0, 1) := by decide +kernel
theorem dX12_letsSome_9 : decode cX12_letsSome 9 = .ok (.getfield 147, 3) := by decide +kernel
theorem dX12_letsSome_12 : decode cX12_letsSome 12 = .ok (.if_icmp .ge 43, 3) := by decide +kernel
theorem dX12_letsSome_15 : decode cX12_letsSome 15 = .ok (.iload 5, 2) := by decide +kernel
theorem dX12_letsSome_17 : decode cX12_letsSome 17 = .ok (.ifCond .ne 25, 3) := by decide +kernel
theorem dX12_letsSome_20 : decode cX12_letsSome 20 = .ok (.iload_n 2, 1) := by decide +kernel
theorem dX12_letsSome_21 : decode cX12_letsSome 21 = .ok (.iload 6, 2) := by decide +kernel
theorem dX12_letsSome_23 : decode cX12_letsSome 23 = .ok (.invokestatic 296, 3) := by decide +kernel
theorem dX12_letsSome_26 : decode cX12_letsSome 26 = .ok (.ifCond .eq 20, 3) := by decide +kernel
theorem dX12_letsSome_29 : decode cX12_letsSome 29 = .ok (.aload_n 0, 1) := by decide +kernel
theorem dX12_letsSome_30 : decode cX12_letsSome 30 = .ok (.aload_n 1, 1) := by decide +kernel
theorem dX12_letsSome_31 : decode cX12_letsSome 31 = .ok (.iload 6, 2) := by decide +kernel
theorem dX12_letsSome_33 : decode cX12_letsSome 33 = .ok (.iload_n 3, 1) := by decide +kernel
theorem dX12_letsSome_34 : decode cX12_letsSome 34 = .ok (.iload 4, 2) := by decide +kernel
theorem dX12_letsSome_36 : decode cX12_letsSome 36 = .ok (.invokevirtual 308, 3) := by decide +kernel
theorem dX12_letsSome_39 : decode cX12_letsSome 39 = .ok (.ifCond .eq 7, 3) := by decide +kernel
theorem dX12_letsSome_42 : decode cX12_letsSome 42 = .ok (.iconst 1, 1) := by decide +kernel
theorem dX12_letsSome_43 : decode cX12_letsSome 43 = .ok (.goto 4, 3) := by decide +kernel
theorem dX12_letsSome_46 : decode cX12_letsSome 46 = .ok (.iconst 0, 1) := by decide +kernel
theorem dX12_letsSome_47 : decode cX12_letsSome 47 = .ok (.istore 5, 2) := by decide +kernel
theorem dX12_letsSome_49 : decode cX12_letsSome 49 = .ok (.iinc 6 1, 3) := by decide +kernel
theorem dX12_letsSome_52 : decode cX12_letsSome 52 = .ok (.goto (-46), 3) := by decide +kernel
theorem dX12_letsSome_55 : decode cX12_letsSome 55 = .ok (.iload 5, 2) := by decide +kernel
theorem dX12_letsSome_57 : decode cX12_letsSome 57 = .ok (.ireturn, 1) := by decide +kernel
theorem dX12_isNear_0 : decode cX12_isNear 0 = .ok (.aload_n 0, 1) := by decide +kernel
theorem dX12_isNear_1 : decode cX12_isNear 1 = .ok (.aload_n 0, 1) := by decide +kernel
theorem dX12_isNear_2 : decode cX12_isNear 2 = .ok (.getfield 43, 3) := by decide +kernel
theorem dX12_isNear_5 : decode cX12_isNear 5 = .ok (.iload_n 1, 1) := by decide +kernel
theorem dX12_isNear_6 : decode cX12_isNear 6 = .ok (.iaload, 1) := by decide +kernel
theorem dX12_isNear_7 : decode cX12_isNear 7 = .ok (.iload_n 2, 1) := by decide +kernel
theorem dX12_isNear_8 : decode cX12_isNear 8 = .ok (.invokevirtual 312, 3) := by decide +kernel
theorem dX12_isNear_11 : decode cX12_isNear 11 = .ok (.aload_n 0, 1) := by decide +kernel
theorem dX12_isNear_12 : decode cX12_isNear 12 = .ok (.getfield 46, 3) := by decide +kernel
theorem dX12_isNear_15 : decode cX12_isNear 15 = .ok (.iload_n 1, 1) := by decide +kernel
theorem dX12_isNear_16 : decode cX12_isNear 16 = .ok (.iaload, 1) := by decide +kernel
theorem dX12_isNear_17 : decode cX12_isNear 17 = .ok (.if_icmp .gt 7, 3) := by decide +kernel
theorem dX12_isNear_20 : decode cX12_isNear 20 = .ok (.iconst 1, 1) := by decide +kernel
theorem dX12_isNear_21 : decode cX12_isNear 21 = .ok (.goto 4, 3) := by decide +kernel
theorem dX12_isNear_24 : decode cX12_isNear 24 = .ok (.iconst 0, 1) := by decide +kernel
theorem dX12_isNear_25 : decode cX12_isNear 25 = .ok (.ireturn, 1) := by decide +kernel
theorem dX12_near_0 : decode cX12_near 0 = .ok (.iconst 0, 1) := by decide +kernel
theorem dX12_near_1 : decode cX12_near 1 = .ok (.istore_n 3, 1) := by decide +kernel
theorem dX12_near_2 : decode cX12_near 2 = .ok (.iconst 0, 1) := by decide +kernel
theorem dX12_near_3 : decode cX12_near 3 = .ok (.istore 4, 2) := by decide +kernel
theorem dX12_near_5 : decode cX12_near 5 = .ok (.iload 4, 2) := by decide +kernel
theorem dX12_near_7 : decode cX12_near 7 = .ok (.aload_n 0, 1) := by decide +kernel
theorem dX12_near_8 : decode cX12_near 8 = .ok (.getfield 140, 3) := by decide +kernel
theorem dX12_near_11 : decode cX12_near 11 = .ok (.if_icmp .ge 32, 3) := by decide +kernel
theorem dX12_near_14 : decode cX12_near 14 = .ok (.iload_n 3, 1) := by decide +kernel
theorem dX12_near_15 : decode cX12_near 15 = .ok (.aload_n 0, 1) := by decide +kernel
theorem dX12_near_16 : decode cX12_near 16 = .ok (.iload_n 2, 1) := by decide +kernel
theorem dX12_near_17 : decode cX12_near 17 = .ok (.aload_n 1, 1) := by decide +kernel
theorem dX12_near_18 : decode cX12_near 18 = .ok (.iload 4, 2) := by decide +kernel
theorem dX12_near_20 : decode cX12_near 20 = .ok (.iaload, 1) := by decide +kernel
theorem dX12_near_21 : decode cX12_near 21 = .ok (.invokevirtual 315, 3) := by decide +kernel
theorem dX12_near_24 : decode cX12_near 24 = .ok (.ifCond .eq 10, 3) := by decide +kernel
theorem dX12_near_27 : decode cX12_near 27 = .ok (.iconst 1, 1) := by decide +kernel
theorem dX12_near_28 : decode cX12_near 28 = .ok (.iload 4, 2) := by decide +kernel
theorem dX12_near_30 : decode cX12_near 30 = .ok (.ishl, 1) := by decide +kernel
theorem dX12_near_31 : decode cX12_near 31 = .ok (.goto 4, 3) := by decide +kernel
theorem dX12_near_34 : decode cX12_near 34 = .ok (.iconst 0, 1) := by decide +kernel
theorem dX12_near_35 : decode cX12_near 35 = .ok (.ior, 1) := by decide +kernel
theorem dX12_near_36 : decode cX12_near 36 = .ok (.istore_n 3, 1) := by decide +kernel
theorem dX12_near_37 : decode cX12_near 37 = .ok (.iinc 4 1, 3) := by decide +kernel
theorem dX12_near_40 : decode cX12_near 40 = .ok (.goto (-35), 3) := by decide +kernel
theorem dX12_near_43 : decode cX12_near 43 = .ok (.iload_n 3, 1) := by decide +kernel
theorem dX12_near_44 : decode cX12_near 44 = .ok (.ireturn, 1) := by decide +kernel
theorem dX12_seenBy_0 : decode cX12_seenBy 0 = .ok (.aload_n 0, 1) := by decide +kernel
theorem dX12_seenBy_1 : decode cX12_seenBy 1 = .ok (.aload_n 1, 1) := by decide +kernel
theorem dX12_seenBy_2 : decode cX12_seenBy 2 = .ok (.iload_n 2, 1) := by decide +kernel
theorem dX12_seenBy_3 : decode cX12_seenBy 3 = .ok (.invokevirtual 318, 3) := by decide +kernel
theorem dX12_seenBy_6 : decode cX12_seenBy 6 = .ok (.istore 4, 2) := by decide +kernel
theorem dX12_seenBy_8 : decode cX12_seenBy 8 = .ok (.iconst 0, 1) := by decide +kernel
theorem dX12_seenBy_9 : decode cX12_seenBy 9 = .ok (.istore 5, 2) := by decide +kernel
theorem dX12_seenBy_11 : decode cX12_seenBy 11 = .ok (.iload 5, 2) := by decide +kernel
theorem dX12_seenBy_13 : decode cX12_seenBy 13 = .ok (.aload_n 0, 1) := by decide +kernel
theorem dX12_seenBy_14 : decode cX12_seenBy 14 = .ok (.getfield 140, 3) := by decide +kernel
theorem dX12_seenBy_17 : decode cX12_seenBy 17 = .ok (.if_icmp .ge 57, 3) := by decide +kernel
theorem dX12_seenBy_20 : decode cX12_seenBy 20 = .ok (.iload 4, 2) := by decide +kernel
theorem dX12_seenBy_22 : decode cX12_seenBy 22 = .ok (.iload 4, 2) := by decide +kernel
theorem dX12_seenBy_24 : decode cX12_seenBy 24 = .ok (.iload 5, 2) := by decide +kernel
theorem dX12_seenBy_26 : decode cX12_seenBy 26 = .ok (.invokestatic 296, 3) := by decide +kernel
theorem dX12_seenBy_29 : decode cX12_seenBy 29 = .ok (.ifCond .eq 35, 3) := by decide +kernel
theorem dX12_seenBy_32 : decode cX12_seenBy 32 = .ok (.aload_n 0, 1) := by decide +kernel
theorem dX12_seenBy_33 : decode cX12_seenBy 33 = .ok (.aload_n 1, 1) := by decide +kernel
theorem dX12_seenBy_34 : decode cX12_seenBy 34 = .ok (.iload_n 3, 1) := by decide +kernel
theorem dX12_seenBy_35 : decode cX12_seenBy 35 = .ok (.aload_n 0, 1) := by decide +kernel
theorem dX12_seenBy_36 : decode cX12_seenBy 36 = .ok (.getfield 30, 3) := by decide +kernel
theorem dX12_seenBy_39 : decode cX12_seenBy 39 = .ok (.iload 5, 2) := by decide +kernel
theorem dX12_seenBy_41 : decode cX12_seenBy 41 = .ok (.iaload, 1) := by decide +kernel
theorem dX12_seenBy_42 : decode cX12_seenBy 42 = .ok (.aload_n 0, 1) := by decide +kernel
theorem dX12_seenBy_43 : decode cX12_seenBy 43 = .ok (.getfield 34, 3) := by decide +kernel
theorem dX12_seenBy_46 : decode cX12_seenBy 46 = .ok (.iload 5, 2) := by decide +kernel
theorem dX12_seenBy_48 : decode cX12_seenBy 48 = .ok (.iaload, 1) := by decide +kernel
theorem dX12_seenBy_49 : decode cX12_seenBy 49 = .ok (.invokevirtual 322, 3) := by decide +kernel
theorem dX12_seenBy_52 : decode cX12_seenBy 52 = .ok (.ifCond .ne 12, 3) := by decide +kernel
theorem dX12_seenBy_55 : decode cX12_seenBy 55 = .ok (.iconst 1, 1) := by decide +kernel
theorem dX12_seenBy_56 : decode cX12_seenBy 56 = .ok (.iload 5, 2) := by decide +kernel
theorem dX12_seenBy_58 : decode cX12_seenBy 58 = .ok (.ishl, 1) := by decide +kernel
theorem dX12_seenBy_59 : decode cX12_seenBy 59 = .ok (.iconst (-1), 1) := by decide +kernel
theorem dX12_seenBy_60 : decode cX12_seenBy 60 = .ok (.ixor, 1) := by decide +kernel
theorem dX12_seenBy_61 : decode cX12_seenBy 61 = .ok (.goto 4, 3) := by decide +kernel
theorem dX12_seenBy_64 : decode cX12_seenBy 64 = .ok (.iconst (-1), 1) := by decide +kernel
theorem dX12_seenBy_65 : decode cX12_seenBy 65 = .ok (.iand, 1) := by decide +kernel
theorem dX12_seenBy_66 : decode cX12_seenBy 66 = .ok (.istore 4, 2) := by decide +kernel
theorem dX12_seenBy_68 : decode cX12_seenBy 68 = .ok (.iinc 5 1, 3) := by decide +kernel
theorem dX12_seenBy_71 : decode cX12_seenBy 71 = .ok (.goto (-60), 3) := by decide +kernel
theorem dX12_seenBy_74 : decode cX12_seenBy 74 = .ok (.iload 4, 2) := by decide +kernel
theorem dX12_seenBy_76 : decode cX12_seenBy 76 = .ok (.ireturn, 1) := by decide +kernel
theorem dX12_seen_0 : decode cX12_seen 0 = .ok (.aload_n 0, 1) := by decide +kernel
theorem dX12_seen_1 : decode cX12_seen 1 = .ok (.aload_n 1, 1) := by decide +kernel
theorem dX12_seen_2 : decode cX12_seen 2 = .ok (.iload_n 2, 1) := by decide +kernel
theorem dX12_seen_3 : decode cX12_seen 3 = .ok (.aload_n 0, 1) := by decide +kernel
theorem dX12_seen_4 : decode cX12_seen 4 = .ok (.aload_n 1, 1) := by decide +kernel
theorem dX12_seen_5 : decode cX12_seen 5 = .ok (.iload_n 2, 1) := by decide +kernel
theorem dX12_seen_6 : decode cX12_seen 6 = .ok (.invokevirtual 325, 3) := by decide +kernel
theorem dX12_seen_9 : decode cX12_seen 9 = .ok (.invokevirtual 328, 3) := by decide +kernel
theorem dX12_seen_12 : decode cX12_seen 12 = .ok (.ireturn, 1) := by decide +kernel
theorem dX12_isSeen_0 : decode cX12_isSeen 0 = .ok (.iconst 0, 1) := by decide +kernel
theorem dX12_isSeen_1 : decode cX12_isSeen 1 = .ok (.istore 5, 2) := by decide +kernel
theorem dX12_isSeen_3 : decode cX12_isSeen 3 = .ok (.iconst 0, 1) := by decide +kernel
theorem dX12_isSeen_4 : decode cX12_isSeen 4 = .ok (.istore 6, 2) := by decide +kernel
theorem dX12_isSeen_6 : decode cX12_isSeen 6 = .ok (.iload 6, 2) := by decide +kernel
theorem dX12_isSeen_8 : decode cX12_isSeen 8 = .ok (.aload_n 0, 1) := by decide +kernel
theorem dX12_isSeen_9 : decode cX12_isSeen 9 = .ok (.getfield 150, 3) := by decide +kernel
theorem dX12_isSeen_12 : decode cX12_isSeen 12 = .ok (.if_icmp .ge 49, 3) := by decide +kernel
theorem dX12_isSeen_15 : decode cX12_isSeen 15 = .ok (.iload 5, 2) := by decide +kernel
theorem dX12_isSeen_17 : decode cX12_isSeen 17 = .ok (.ifCond .ne 31, 3) := by decide +kernel
theorem dX12_isSeen_20 : decode cX12_isSeen 20 = .ok (.aload_n 0, 1) := by decide +kernel
theorem dX12_isSeen_21 : decode cX12_isSeen 21 = .ok (.iload 6, 2) := by decide +kernel
theorem dX12_isSeen_23 : decode cX12_isSeen 23 = .ok (.iload_n 2, 1) := by decide +kernel
theorem dX12_isSeen_24 : decode cX12_isSeen 24 = .ok (.invokevirtual 315, 3) := by decide +kernel
theorem dX12_isSeen_27 : decode cX12_isSeen 27 = .ok (.ifCond .eq 25, 3) := by decide +kernel
theorem dX12_isSeen_30 : decode cX12_isSeen 30 = .ok (.aload_n 0, 1) := by decide +kernel
theorem dX12_isSeen_31 : decode cX12_isSeen 31 = .ok (.aload_n 1, 1) := by decide +kernel
theorem dX12_isSeen_32 : decode cX12_isSeen 32 = .ok (.aload_n 0, 1) := by decide +kernel
theorem dX12_isSeen_33 : decode cX12_isSeen 33 = .ok (.aload_n 1, 1) := by decide +kernel
theorem dX12_isSeen_34 : decode cX12_isSeen 34 = .ok (.iload 6, 2) := by decide +kernel
theorem dX12_isSeen_36 : decode cX12_isSeen 36 = .ok (.invokevirtual 325, 3) := by decide +kernel
theorem dX12_isSeen_39 : decode cX12_isSeen 39 = .ok (.iload_n 3, 1) := by decide +kernel
theorem dX12_isSeen_40 : decode cX12_isSeen 40 = .ok (.iload 4, 2) := by decide +kernel
theorem dX12_isSeen_42 : decode cX12_isSeen 42 = .ok (.invokevirtual 322, 3) := by decide +kernel
theorem dX12_isSeen_45 : decode cX12_isSeen 45 = .ok (.ifCond .eq 7, 3) := by decide +kernel
theorem dX12_isSeen_48 : decode cX12_isSeen 48 = .ok (.iconst 1, 1) := by decide +kernel
theorem dX12_isSeen_49 : decode cX12_isSeen 49 = .ok (.goto 4, 3) := by decide +kernel
theorem dX12_isSeen_52 : decode cX12_isSeen 52 = .ok (.iconst 0, 1) := by decide +kernel
theorem dX12_isSeen_53 : decode cX12_isSeen 53 = .ok (.istore 5, 2) := by decide +kernel
theorem dX12_isSeen_55 : decode cX12_isSeen 55 = .ok (.iinc 6 1, 3) := by decide +kernel
theorem dX12_isSeen_58 : decode cX12_isSeen 58 = .ok (.goto (-52), 3) := by decide +kernel
theorem dX12_isSeen_61 : decode cX12_isSeen 61 = .ok (.iload 5, 2) := by decide +kernel
theorem dX12_isSeen_63 : decode cX12_isSeen 63 = .ok (.ireturn, 1) := by decide +kernel
theorem dX12_thing_0 : decode cX12_thing 0 = .ok (.aload_n 0, 1) := by decide +kernel
theorem dX12_thing_1 : decode cX12_thing 1 = .ok (.iconst 0, 1) := by decide +kernel
theorem dX12_thing_2 : decode cX12_thing 2 = .ok (.putfield 3, 3) := by decide +kernel
theorem dX12_thing_5 : decode cX12_thing 5 = .ok (.aload_n 0, 1) := by decide +kernel
theorem dX12_thing_6 : decode cX12_thing 6 = .ok (.iload_n 1, 1) := by decide +kernel
theorem dX12_thing_7 : decode cX12_thing 7 = .ok (.invokevirtual 332, 3) := by decide +kernel
theorem dX12_thing_10 : decode cX12_thing 10 = .ok (.ifCond .eq 15, 3) := by decide +kernel
theorem dX12_thing_13 : decode cX12_thing 13 = .ok (.iload_n 2, 1) := by decide +kernel
theorem dX12_thing_14 : decode cX12_thing 14 = .ok (.i2l, 1) := by decide +kernel
theorem dX12_thing_15 : decode cX12_thing 15 = .ok (.lconst 0, 1) := by decide +kernel
theorem dX12_thing_16 : decode cX12_thing 16 = .ok (.ldc2_w 335, 3) := by decide +kernel
theorem dX12_thing_19 : decode cX12_thing 19 = .ok (.invokestatic 143, 3) := by decide +kernel
theorem dX12_thing_22 : decode cX12_thing 22 = .ok (.ifCond .ne 8, 3) := by decide +kernel
theorem dX12_thing_25 : decode cX12_thing 25 = .ok (.aload_n 0, 1) := by decide +kernel
theorem dX12_thing_26 : decode cX12_thing 26 = .ok (.invokevirtual 337, 3) := by decide +kernel
theorem dX12_thing_29 : decode cX12_thing 29 = .ok (.ireturn, 1) := by decide +kernel
theorem dX12_thing_30 : decode cX12_thing 30 = .ok (.iconst 0, 1) := by decide +kernel
theorem dX12_thing_31 : decode cX12_thing 31 = .ok (.istore_n 3, 1) := by decide +kernel
theorem dX12_thing_32 : decode cX12_thing 32 = .ok (.iconst 0, 1) := by decide +kernel
theorem dX12_thing_33 : decode cX12_thing 33 = .ok (.istore 4, 2) := by decide +kernel
theorem dX12_thing_35 : decode cX12_thing 35 = .ok (.iload 4, 2) := by decide +kernel
theorem dX12_thing_37 : decode cX12_thing 37 = .ok (.aload_n 0, 1) := by decide +kernel
theorem dX12_thing_38 : decode cX12_thing 38 = .ok (.getfield 150, 3) := by decide +kernel
theorem dX12_thing_41 : decode cX12_thing 41 = .ok (.if_icmp .ge 37, 3) := by decide +kernel
theorem dX12_thing_44 : decode cX12_thing 44 = .ok (.iload_n 3, 1) := by decide +kernel
theorem dX12_thing_45 : decode cX12_thing 45 = .ok (.aload_n 0, 1) := by decide +kernel
theorem dX12_thing_46 : decode cX12_thing 46 = .ok (.aload_n 0, 1) := by decide +kernel
theorem dX12_thing_47 : decode cX12_thing 47 = .ok (.getfield 49, 3) := by decide +kernel
theorem dX12_thing_50 : decode cX12_thing 50 = .ok (.iload 4, 2) := by decide +kernel
theorem dX12_thing_52 : decode cX12_thing 52 = .ok (.invokevirtual 340, 3) := by decide +kernel
theorem dX12_thing_55 : decode cX12_thing 55 = .ok (.iload_n 1, 1) := by decide +kernel
theorem dX12_thing_56 : decode cX12_thing 56 = .ok (.invokestatic 296, 3) := by decide +kernel
theorem dX12_thing_59 : decode cX12_thing 59 = .ok (.ifCond .eq 10, 3) := by decide +kernel
theorem dX12_thing_62 : decode cX12_thing 62 = .ok (.iconst 1, 1) := by decide +kernel
theorem dX12_thing_63 : decode cX12_thing 63 = .ok (.iload 4, 2) := by decide +kernel
theorem dX12_thing_65 : decode cX12_thing 65 = .ok (.ishl, 1) := by decide +kernel
theorem dX12_thing_66 : decode cX12_thing 66 = .ok (.goto 4, 3) := by decide +kernel
theorem dX12_thing_69 : decode cX12_thing 69 = .ok (.iconst 0, 1) := by decide +kernel
theorem dX12_thing_70 : decode cX12_thing 70 = .ok (.ior, 1) := by decide +kernel
theorem dX12_thing_71 : decode cX12_thing 71 = .ok (.istore_n 3, 1) := by decide +kernel
theorem dX12_thing_72 : decode cX12_thing 72 = .ok (.iinc 4 1, 3) := by decide +kernel
theorem dX12_thing_75 : decode cX12_thing 75 = .ok (.goto (-40), 3) := by decide +kernel
theorem dX12_thing_78 : decode cX12_thing 78 = .ok (.iload_n 2, 1) := by decide +kernel
theorem dX12_thing_79 : decode cX12_thing 79 = .ok (.tableswitch 60 0 3 #[29, 36, 43, 50], 29) := by decide +kernel
theorem dX12_thing_108 : decode cX12_thing 108 = .ok (.aload_n 0, 1) := by decide +kernel
theorem dX12_thing_109 : decode cX12_thing 109 = .ok (.getfield 30, 3) := by decide +kernel
theorem dX12_thing_112 : decode cX12_thing 112 = .ok (.iload_n 1, 1) := by decide +kernel
theorem dX12_thing_113 : decode cX12_thing 113 = .ok (.iaload, 1) := by decide +kernel
theorem dX12_thing_114 : decode cX12_thing 114 = .ok (.ireturn, 1) := by decide +kernel
theorem dX12_thing_115 : decode cX12_thing 115 = .ok (.aload_n 0, 1) := by decide +kernel
theorem dX12_thing_116 : decode cX12_thing 116 = .ok (.getfield 34, 3) := by decide +kernel
theorem dX12_thing_119 : decode cX12_thing 119 = .ok (.iload_n 1, 1) := by decide +kernel
theorem dX12_thing_120 : decode cX12_thing 120 = .ok (.iaload, 1) := by decide +kernel
theorem dX12_thing_121 : decode cX12_thing 121 = .ok (.ireturn, 1) := by decide +kernel
theorem dX12_thing_122 : decode cX12_thing 122 = .ok (.aload_n 0, 1) := by decide +kernel
theorem dX12_thing_123 : decode cX12_thing 123 = .ok (.getfield 49, 3) := by decide +kernel
theorem dX12_thing_126 : decode cX12_thing 126 = .ok (.iload_n 1, 1) := by decide +kernel
theorem dX12_thing_127 : decode cX12_thing 127 = .ok (.iaload, 1) := by decide +kernel
theorem dX12_thing_128 : decode cX12_thing 128 = .ok (.ireturn, 1) := by decide +kernel
theorem dX12_thing_129 : decode cX12_thing 129 = .ok (.aload_n 0, 1) := by decide +kernel
theorem dX12_thing_130 : decode cX12_thing 130 = .ok (.getfield 49, 3) := by decide +kernel
theorem dX12_thing_133 : decode cX12_thing 133 = .ok (.bipush 8, 2) := by decide +kernel
theorem dX12_thing_135 : decode cX12_thing 135 = .ok (.iload_n 1, 1) := by decide +kernel
theorem dX12_thing_136 : decode cX12_thing 136 = .ok (.iadd, 1) := by decide +kernel
theorem dX12_thing_137 : decode cX12_thing 137 = .ok (.iaload, 1) := by decide +kernel
theorem dX12_thing_138 : decode cX12_thing 138 = .ok (.ireturn, 1) := by decide +kernel
theorem dX12_thing_139 : decode cX12_thing 139 = .ok (.iload_n 3, 1) := by decide +kernel
theorem dX12_thing_140 : decode cX12_thing 140 = .ok (.ireturn, 1) := by decide +kernel
theorem dX12_pane_0 : decode cX12_pane 0 = .ok (.aload_n 0, 1) := by decide +kernel
theorem dX12_pane_1 : decode cX12_pane 1 = .ok (.iconst 0, 1) := by decide +kernel
theorem dX12_pane_2 : decode cX12_pane 2 = .ok (.putfield 3, 3) := by decide +kernel
theorem dX12_pane_5 : decode cX12_pane 5 = .ok (.aload_n 0, 1) := by decide +kernel
theorem dX12_pane_6 : decode cX12_pane 6 = .ok (.iload_n 1, 1) := by decide +kernel
theorem dX12_pane_7 : decode cX12_pane 7 = .ok (.invokevirtual 343, 3) := by decide +kernel
theorem dX12_pane_10 : decode cX12_pane 10 = .ok (.ifCond .eq 15, 3) := by decide +kernel
theorem dX12_pane_13 : decode cX12_pane 13 = .ok (.iload_n 2, 1) := by decide +kernel
theorem dX12_pane_14 : decode cX12_pane 14 = .ok (.i2l, 1) := by decide +kernel
theorem dX12_pane_15 : decode cX12_pane 15 = .ok (.lconst 0, 1) := by decide +kernel
theorem dX12_pane_16 : decode cX12_pane 16 = .ok (.ldc2_w 335, 3) := by decide +kernel
theorem dX12_pane_19 : decode cX12_pane 19 = .ok (.invokestatic 143, 3) := by decide +kernel
theorem dX12_pane_22 : decode cX12_pane 22 = .ok (.ifCond .ne 8, 3) := by decide +kernel
theorem dX12_pane_25 : decode cX12_pane 25 = .ok (.aload_n 0, 1) := by decide +kernel
theorem dX12_pane_26 : decode cX12_pane 26 = .ok (.invokevirtual 337, 3) := by decide +kernel
theorem dX12_pane_29 : decode cX12_pane 29 = .ok (.ireturn, 1) := by decide +kernel
theorem dX12_pane_30 : decode cX12_pane 30 = .ok (.iconst 0, 1) := by decide +kernel
theorem dX12_pane_31 : decode cX12_pane 31 = .ok (.istore_n 3, 1) := by decide +kernel
theorem dX12_pane_32 : decode cX12_pane 32 = .ok (.iconst 0, 1) := by decide +kernel
theorem dX12_pane_33 : decode cX12_pane 33 = .ok (.istore 4, 2) := by decide +kernel
theorem dX12_pane_35 : decode cX12_pane 35 = .ok (.iload 4, 2) := by decide +kernel
theorem dX12_pane_37 : decode cX12_pane 37 = .ok (.aload_n 0, 1) := by decide +kernel
theorem dX12_pane_38 : decode cX12_pane 38 = .ok (.getfield 140, 3) := by decide +kernel
theorem dX12_pane_41 : decode cX12_pane 41 = .ok (.if_icmp .ge 46, 3) := by decide +kernel
theorem dX12_pane_44 : decode cX12_pane 44 = .ok (.iload_n 3, 1) := by decide +kernel
theorem dX12_pane_45 : decode cX12_pane 45 = .ok (.aload_n 0, 1) := by decide +kernel
theorem dX12_pane_46 : decode cX12_pane 46 = .ok (.aload_n 0, 1) := by decide +kernel
theorem dX12_pane_47 : decode cX12_pane 47 = .ok (.getfield 49, 3) := by decide +kernel
theorem dX12_pane_50 : decode cX12_pane 50 = .ok (.iload_n 1, 1) := by decide +kernel
theorem dX12_pane_51 : decode cX12_pane 51 = .ok (.aload_n 0, 1) := by decide +kernel
theorem dX12_pane_52 : decode cX12_pane 52 = .ok (.getfield 30, 3) := by decide +kernel
theorem dX12_pane_55 : decode cX12_pane 55 = .ok (.iload 4, 2) := by decide +kernel
theorem dX12_pane_57 : decode cX12_pane 57 = .ok (.iaload, 1) := by decide +kernel
theorem dX12_pane_58 : decode cX12_pane 58 = .ok (.aload_n 0, 1) := by decide +kernel
theorem dX12_pane_59 : decode cX12_pane 59 = .ok (.getfield 34, 3) := by decide +kernel
theorem dX12_pane_62 : decode cX12_pane 62 = .ok (.iload 4, 2) := by decide +kernel
theorem dX12_pane_64 : decode cX12_pane 64 = .ok (.iaload, 1) := by decide +kernel
theorem dX12_pane_65 : decode cX12_pane 65 = .ok (.invokevirtual 308, 3) := by decide +kernel
theorem dX12_pane_68 : decode cX12_pane 68 = .ok (.ifCond .eq 10, 3) := by decide +kernel
theorem dX12_pane_71 : decode cX12_pane 71 = .ok (.iconst 1, 1) := by decide +kernel
theorem dX12_pane_72 : decode cX12_pane 72 = .ok (.iload 4, 2) := by decide +kernel
theorem dX12_pane_74 : decode cX12_pane 74 = .ok (.ishl, 1) := by decide +kernel
theorem dX12_pane_75 : decode cX12_pane 75 = .ok (.goto 4, 3) := by decide +kernel
theorem dX12_pane_78 : decode cX12_pane 78 = .ok (.iconst 0, 1) := by decide +kernel
theorem dX12_pane_79 : decode cX12_pane 79 = .ok (.ior, 1) := by decide +kernel
theorem dX12_pane_80 : decode cX12_pane 80 = .ok (.istore_n 3, 1) := by decide +kernel
theorem dX12_pane_81 : decode cX12_pane 81 = .ok (.iinc 4 1, 3) := by decide +kernel
theorem dX12_pane_84 : decode cX12_pane 84 = .ok (.goto (-49), 3) := by decide +kernel
theorem dX12_pane_87 : decode cX12_pane 87 = .ok (.iload_n 2, 1) := by decide +kernel
theorem dX12_pane_88 : decode cX12_pane 88 = .ok (.tableswitch 71 0 3 #[32, 39, 46, 56], 32) := by decide +kernel
theorem dX12_pane_120 : decode cX12_pane 120 = .ok (.aload_n 0, 1) := by decide +kernel
theorem dX12_pane_121 : decode cX12_pane 121 = .ok (.getfield 37, 3) := by decide +kernel
theorem dX12_pane_124 : decode cX12_pane 124 = .ok (.iload_n 1, 1) := by decide +kernel
theorem dX12_pane_125 : decode cX12_pane 125 = .ok (.iaload, 1) := by decide +kernel
theorem dX12_pane_126 : decode cX12_pane 126 = .ok (.ireturn, 1) := by decide +kernel
theorem dX12_pane_127 : decode cX12_pane 127 = .ok (.aload_n 0, 1) := by decide +kernel
theorem dX12_pane_128 : decode cX12_pane 128 = .ok (.getfield 40, 3) := by decide +kernel
theorem dX12_pane_131 : decode cX12_pane 131 = .ok (.iload_n 1, 1) := by decide +kernel
theorem dX12_pane_132 : decode cX12_pane 132 = .ok (.iaload, 1) := by decide +kernel
theorem dX12_pane_133 : decode cX12_pane 133 = .ok (.ireturn, 1) := by decide +kernel
theorem dX12_pane_134 : decode cX12_pane 134 = .ok (.aload_n 0, 1) := by decide +kernel
theorem dX12_pane_135 : decode cX12_pane 135 = .ok (.getfield 49, 3) := by decide +kernel
theorem dX12_pane_138 : decode cX12_pane 138 = .ok (.bipush 16, 2) := by decide +kernel
theorem dX12_pane_140 : decode cX12_pane 140 = .ok (.iload_n 1, 1) := by decide +kernel
theorem dX12_pane_141 : decode cX12_pane 141 = .ok (.iadd, 1) := by decide +kernel
theorem dX12_pane_142 : decode cX12_pane 142 = .ok (.iaload, 1) := by decide +kernel
theorem dX12_pane_143 : decode cX12_pane 143 = .ok (.ireturn, 1) := by decide +kernel
theorem dX12_pane_144 : decode cX12_pane 144 = .ok (.aload_n 0, 1) := by decide +kernel
theorem dX12_pane_145 : decode cX12_pane 145 = .ok (.getfield 49, 3) := by decide +kernel
theorem dX12_pane_148 : decode cX12_pane 148 = .ok (.bipush 24, 2) := by decide +kernel
theorem dX12_pane_150 : decode cX12_pane 150 = .ok (.iaload, 1) := by decide +kernel
theorem dX12_pane_151 : decode cX12_pane 151 = .ok (.iload_n 1, 1) := by decide +kernel
theorem dX12_pane_152 : decode cX12_pane 152 = .ok (.invokestatic 296, 3) := by decide +kernel
theorem dX12_pane_155 : decode cX12_pane 155 = .ok (.invokestatic 175, 3) := by decide +kernel
theorem dX12_pane_158 : decode cX12_pane 158 = .ok (.ireturn, 1) := by decide +kernel
theorem dX12_pane_159 : decode cX12_pane 159 = .ok (.iload_n 3, 1) := by decide +kernel
theorem dX12_pane_160 : decode cX12_pane 160 = .ok (.ireturn, 1) := by decide +kernel
theorem dX12_room_0 : decode cX12_room 0 = .ok (.aload_n 0, 1) := by decide +kernel
theorem dX12_room_1 : decode cX12_room 1 = .ok (.iconst 0, 1) := by decide +kernel
theorem dX12_room_2 : decode cX12_room 2 = .ok (.putfield 3, 3) := by decide +kernel
theorem dX12_room_5 : decode cX12_room 5 = .ok (.aload_n 0, 1) := by decide +kernel
theorem dX12_room_6 : decode cX12_room 6 = .ok (.iload_n 1, 1) := by decide +kernel
theorem dX12_room_7 : decode cX12_room 7 = .ok (.invokevirtual 346, 3) := by decide +kernel
theorem dX12_room_10 : decode cX12_room 10 = .ok (.ifCond .eq 15, 3) := by decide +kernel
theorem dX12_room_13 : decode cX12_room 13 = .ok (.iload_n 2, 1) := by decide +kernel
theorem dX12_room_14 : decode cX12_room 14 = .ok (.i2l, 1) := by decide +kernel
theorem dX12_room_15 : decode cX12_room 15 = .ok (.lconst 0, 1) := by decide +kernel
theorem dX12_room_16 : decode cX12_room 16 = .ok (.ldc2_w 335, 3) := by decide +kernel
theorem dX12_room_19 : decode cX12_room 19 = .ok (.invokestatic 143, 3) := by decide +kernel
theorem dX12_room_22 : decode cX12_room 22 = .ok (.ifCond .ne 8, 3) := by decide +kernel
theorem dX12_room_25 : decode cX12_room 25 = .ok (.aload_n 0, 1) := by decide +kernel
theorem dX12_room_26 : decode cX12_room 26 = .ok (.invokevirtual 337, 3) := by decide +kernel
theorem dX12_room_29 : decode cX12_room 29 = .ok (.ireturn, 1) := by decide +kernel
theorem dX12_room_30 : decode cX12_room 30 = .ok (.iload_n 2, 1) := by decide +kernel
theorem dX12_room_31 : decode cX12_room 31 = .ok (.tableswitch 63 0 3 #[29, 36, 43, 53], 29) := by decide +kernel
theorem dX12_room_60 : decode cX12_room 60 = .ok (.aload_n 0, 1) := by decide +kernel
theorem dX12_room_61 : decode cX12_room 61 = .ok (.getfield 43, 3) := by decide +kernel
theorem dX12_room_64 : decode cX12_room 64 = .ok (.iload_n 1, 1) := by decide +kernel
theorem dX12_room_65 : decode cX12_room 65 = .ok (.iaload, 1) := by decide +kernel
theorem dX12_room_66 : decode cX12_room 66 = .ok (.ireturn, 1) := by decide +kernel
theorem dX12_room_67 : decode cX12_room 67 = .ok (.aload_n 0, 1) := by decide +kernel
theorem dX12_room_68 : decode cX12_room 68 = .ok (.getfield 46, 3) := by decide +kernel
theorem dX12_room_71 : decode cX12_room 71 = .ok (.iload_n 1, 1) := by decide +kernel
theorem dX12_room_72 : decode cX12_room 72 = .ok (.iaload, 1) := by decide +kernel
theorem dX12_room_73 : decode cX12_room 73 = .ok (.ireturn, 1) := by decide +kernel
theorem dX12_room_74 : decode cX12_room 74 = .ok (.aload_n 0, 1) := by decide +kernel
theorem dX12_room_75 : decode cX12_room 75 = .ok (.aload_n 0, 1) := by decide +kernel
theorem dX12_room_76 : decode cX12_room 76 = .ok (.getfield 49, 3) := by decide +kernel
theorem dX12_room_79 : decode cX12_room 79 = .ok (.iload_n 1, 1) := by decide +kernel
theorem dX12_room_80 : decode cX12_room 80 = .ok (.invokevirtual 325, 3) := by decide +kernel
theorem dX12_room_83 : decode cX12_room 83 = .ok (.ireturn, 1) := by decide +kernel
theorem dX12_room_84 : decode cX12_room 84 = .ok (.aload_n 0, 1) := by decide +kernel
theorem dX12_room_85 : decode cX12_room 85 = .ok (.aload_n 0, 1) := by decide +kernel
theorem dX12_room_86 : decode cX12_room 86 = .ok (.getfield 49, 3) := by decide +kernel
theorem dX12_room_89 : decode cX12_room 89 = .ok (.iload_n 1, 1) := by decide +kernel
theorem dX12_room_90 : decode cX12_room 90 = .ok (.invokevirtual 340, 3) := by decide +kernel
theorem dX12_room_93 : decode cX12_room 93 = .ok (.ireturn, 1) := by decide +kernel
theorem dX12_room_94 : decode cX12_room 94 = .ok (.aload_n 0, 1) := by decide +kernel
theorem dX12_room_95 : decode cX12_room 95 = .ok (.aload_n 0, 1) := by decide +kernel
theorem dX12_room_96 : decode cX12_room 96 = .ok (.getfield 49, 3) := by decide +kernel
theorem dX12_room_99 : decode cX12_room 99 = .ok (.iload_n 1, 1) := by decide +kernel
theorem dX12_room_100 : decode cX12_room 100 = .ok (.invokevirtual 318, 3) := by decide +kernel
theorem dX12_room_103 : decode cX12_room 103 = .ok (.ireturn, 1) := by decide +kernel
theorem dX12_sheet_0 : decode cX12_sheet 0 = .ok (.aload_n 0, 1) := by decide +kernel
theorem dX12_sheet_1 : decode cX12_sheet 1 = .ok (.iconst 0, 1) := by decide +kernel
theorem dX12_sheet_2 : decode cX12_sheet 2 = .ok (.putfield 3, 3) := by decide +kernel
theorem dX12_sheet_5 : decode cX12_sheet 5 = .ok (.iload_n 1, 1) := by decide +kernel
theorem dX12_sheet_6 : decode cX12_sheet 6 = .ok (.i2l, 1) := by decide +kernel
theorem dX12_sheet_7 : decode cX12_sheet 7 = .ok (.lconst 0, 1) := by decide +kernel
theorem dX12_sheet_8 : decode cX12_sheet 8 = .ok (.ldc2_w 349, 3) := by decide +kernel
theorem dX12_sheet_11 : decode cX12_sheet 11 = .ok (.invokestatic 143, 3) := by decide +kernel
theorem dX12_sheet_14 : decode cX12_sheet 14 = .ok (.ifCond .eq 9, 3) := by decide +kernel
theorem dX12_sheet_17 : decode cX12_sheet 17 = .ok (.iload_n 2, 1) := by decide +kernel
theorem dX12_sheet_18 : decode cX12_sheet 18 = .ok (.bipush 8, 2) := by decide +kernel
theorem dX12_sheet_20 : decode cX12_sheet 20 = .ok (.if_icmp .le 5, 3) := by decide +kernel
theorem dX12_sheet_23 : decode cX12_sheet 23 = .ok (.iconst (-1), 1) := by decide +kernel
theorem dX12_sheet_24 : decode cX12_sheet 24 = .ok (.ireturn, 1) := by decide +kernel
theorem dX12_sheet_25 : decode cX12_sheet 25 = .ok (.iload_n 1, 1) := by decide +kernel
theorem dX12_sheet_26 : decode cX12_sheet 26 = .ok (.iconst 3, 1) := by decide +kernel
theorem dX12_sheet_27 : decode cX12_sheet 27 = .ok (.if_icmp .eq 10, 3) := by decide +kernel
theorem dX12_sheet_30 : decode cX12_sheet 30 = .ok (.iload_n 2, 1) := by decide +kernel
theorem dX12_sheet_31 : decode cX12_sheet 31 = .ok (.ifCond .ge 6, 3) := by decide +kernel
theorem dX12_sheet_34 : decode cX12_sheet 34 = .ok (.bipush (-2), 2) := by decide +kernel
theorem dX12_sheet_36 : decode cX12_sheet 36 = .ok (.ireturn, 1) := by decide +kernel
theorem dX12_sheet_37 : decode cX12_sheet 37 = .ok (.iconst 0, 1) := by decide +kernel
theorem dX12_sheet_38 : decode cX12_sheet 38 = .ok (.istore 5, 2) := by decide +kernel
theorem dX12_sheet_40 : decode cX12_sheet 40 = .ok (.iload_n 3, 1) := by decide +kernel
theorem dX12_sheet_41 : decode cX12_sheet 41 = .ok (.istore 6, 2) := by decide +kernel
theorem dX12_sheet_43 : decode cX12_sheet 43 = .ok (.iconst 0, 1) := by decide +kernel
theorem dX12_sheet_44 : decode cX12_sheet 44 = .ok (.istore 7, 2) := by decide +kernel
theorem dX12_sheet_46 : decode cX12_sheet 46 = .ok (.iload 7, 2) := by decide +kernel
theorem dX12_sheet_48 : decode cX12_sheet 48 = .ok (.aload_n 0, 1) := by decide +kernel
theorem dX12_sheet_49 : decode cX12_sheet 49 = .ok (.getfield 140, 3) := by decide +kernel
theorem dX12_sheet_52 : decode cX12_sheet 52 = .ok (.if_icmp .ge 86, 3) := by decide +kernel
theorem dX12_sheet_55 : decode cX12_sheet 55 = .ok (.iload_n 1, 1) := by decide +kernel
theorem dX12_sheet_56 : decode cX12_sheet 56 = .ok (.ifCond .ne 9, 3) := by decide +kernel
theorem dX12_sheet_59 : decode cX12_sheet 59 = .ok (.iload 6, 2) := by decide +kernel
theorem dX12_sheet_61 : decode cX12_sheet 61 = .ok (.i2b, 1) := by decide +kernel
theorem dX12_sheet_62 : decode cX12_sheet 62 = .ok (.goto 16, 3) := by decide +kernel
theorem dX12_sheet_65 : decode cX12_sheet 65 = .ok (.iload_n 1, 1) := by decide +kernel
theorem dX12_sheet_66 : decode cX12_sheet 66 = .ok (.iconst 1, 1) := by decide +kernel
theorem dX12_sheet_67 : decode cX12_sheet 67 = .ok (.if_icmp .ne 9, 3) := by decide +kernel
theorem dX12_sheet_70 : decode cX12_sheet 70 = .ok (.iload 6, 2) := by decide +kernel
theorem dX12_sheet_72 : decode cX12_sheet 72 = .ok (.i2s, 1) := by decide +kernel
theorem dX12_sheet_73 : decode cX12_sheet 73 = .ok (.goto 5, 3) := by decide +kernel
theorem dX12_sheet_76 : decode cX12_sheet 76 = .ok (.iload 6, 2) := by decide +kernel
theorem dX12_sheet_78 : decode cX12_sheet 78 = .ok (.istore 8, 2) := by decide +kernel
theorem dX12_sheet_80 : decode cX12_sheet 80 = .ok (.aload_n 0, 1) := by decide +kernel
theorem dX12_sheet_81 : decode cX12_sheet 81 = .ok (.getfield 34, 3) := by decide +kernel
theorem dX12_sheet_84 : decode cX12_sheet 84 = .ok (.iload 7, 2) := by decide +kernel
theorem dX12_sheet_86 : decode cX12_sheet 86 = .ok (.iload_n 1, 1) := by decide +kernel
theorem dX12_sheet_87 : decode cX12_sheet 87 = .ok (.iconst 3, 1) := by decide +kernel
theorem dX12_sheet_88 : decode cX12_sheet 88 = .ok (.if_icmp .eq 9, 3) := by decide +kernel
theorem dX12_sheet_91 : decode cX12_sheet 91 = .ok (.iload 7, 2) := by decide +kernel
theorem dX12_sheet_93 : decode cX12_sheet 93 = .ok (.iload_n 2, 1) := by decide +kernel
theorem dX12_sheet_94 : decode cX12_sheet 94 = .ok (.if_icmp .lt 7, 3) := by decide +kernel
theorem dX12_sheet_97 : decode cX12_sheet 97 = .ok (.iconst 0, 1) := by decide +kernel
theorem dX12_sheet_98 : decode cX12_sheet 98 = .ok (.goto 14, 3) := by decide +kernel
theorem dX12_sheet_101 : decode cX12_sheet 101 = .ok (.iconst 0, 1) := by decide +kernel
theorem dX12_sheet_102 : decode cX12_sheet 102 = .ok (.bipush 9, 2) := by decide +kernel
theorem dX12_sheet_104 : decode cX12_sheet 104 = .ok (.iload 8, 2) := by decide +kernel
theorem dX12_sheet_106 : decode cX12_sheet 106 = .ok (.invokestatic 168, 3) := by decide +kernel
theorem dX12_sheet_109 : decode cX12_sheet 109 = .ok (.invokestatic 351, 3) := by decide +kernel
theorem dX12_sheet_112 : decode cX12_sheet 112 = .ok (.iastore, 1) := by decide +kernel
theorem dX12_sheet_113 : decode cX12_sheet 113 = .ok (.iload 5, 2) := by decide +kernel
theorem dX12_sheet_115 : decode cX12_sheet 115 = .ok (.aload_n 0, 1) := by decide +kernel
theorem dX12_sheet_116 : decode cX12_sheet 116 = .ok (.getfield 34, 3) := by decide +kernel
theorem dX12_sheet_119 : decode cX12_sheet 119 = .ok (.iload 7, 2) := by decide +kernel
theorem dX12_sheet_121 : decode cX12_sheet 121 = .ok (.iaload, 1) := by decide +kernel
theorem dX12_sheet_122 : decode cX12_sheet 122 = .ok (.iadd, 1) := by decide +kernel
theorem dX12_sheet_123 : decode cX12_sheet 123 = .ok (.istore 5, 2) := by decide +kernel
theorem dX12_sheet_125 : decode cX12_sheet 125 = .ok (.iload 6, 2) := by decide +kernel
theorem dX12_sheet_127 : decode cX12_sheet 127 = .ok (.iload 4, 2) := by decide +kernel
theorem dX12_sheet_129 : decode cX12_sheet 129 = .ok (.iadd, 1) := by decide +kernel
theorem dX12_sheet_130 : decode cX12_sheet 130 = .ok (.istore 6, 2) := by decide +kernel
theorem dX12_sheet_132 : decode cX12_sheet 132 = .ok (.iinc 7 1, 3) := by decide +kernel
theorem dX12_sheet_135 : decode cX12_sheet 135 = .ok (.goto (-89), 3) := by decide +kernel
theorem dX12_sheet_138 : decode cX12_sheet 138 = .ok (.iload_n 1, 1) := by decide +kernel
theorem dX12_sheet_139 : decode cX12_sheet 139 = .ok (.iconst 3, 1) := by decide +kernel
theorem dX12_sheet_140 : decode cX12_sheet 140 = .ok (.if_icmp .ne 8, 3) := by decide +kernel
theorem dX12_sheet_143 : decode cX12_sheet 143 = .ok (.bipush (-3), 2) := by decide +kernel
theorem dX12_sheet_145 : decode cX12_sheet 145 = .ok (.goto 5, 3) := by decide +kernel
theorem dX12_sheet_148 : decode cX12_sheet 148 = .ok (.iload 5, 2) := by decide +kernel
theorem dX12_sheet_150 : decode cX12_sheet 150 = .ok (.ireturn, 1) := by decide +kernel
theorem dX12_putsBy_0 : decode cX12_putsBy 0 = .ok (.iconst 0, 1) := by decide +kernel
theorem dX12_putsBy_1 : decode cX12_putsBy 1 = .ok (.istore_n 1, 1) := by decide +kernel
theorem dX12_putsBy_2 : decode cX12_putsBy 2 = .ok (.iload_n 1, 1) := by decide +kernel
theorem dX12_putsBy_3 : decode cX12_putsBy 3 = .ok (.bipush 26, 2) := by decide +kernel
theorem dX12_putsBy_5 : decode cX12_putsBy 5 = .ok (.if_icmp .ge 29, 3) := by decide +kernel
theorem dX12_putsBy_8 : decode cX12_putsBy 8 = .ok (.aload_n 0, 1) := by decide +kernel
theorem dX12_putsBy_9 : decode cX12_putsBy 9 = .ok (.getfield 73, 3) := by decide +kernel
theorem dX12_putsBy_12 : decode cX12_putsBy 12 = .ok (.bipush 26, 2) := by decide +kernel
theorem dX12_putsBy_14 : decode cX12_putsBy 14 = .ok (.aload_n 0, 1) := by decide +kernel
theorem dX12_putsBy_15 : decode cX12_putsBy 15 = .ok (.getfield 215, 3) := by decide +kernel
theorem dX12_putsBy_18 : decode cX12_putsBy 18 = .ok (.imul, 1) := by decide +kernel
theorem dX12_putsBy_19 : decode cX12_putsBy 19 = .ok (.iload_n 1, 1) := by decide +kernel
theorem dX12_putsBy_20 : decode cX12_putsBy 20 = .ok (.iadd, 1) := by decide +kernel
theorem dX12_putsBy_21 : decode cX12_putsBy 21 = .ok (.aload_n 0, 1) := by decide +kernel
theorem dX12_putsBy_22 : decode cX12_putsBy 22 = .ok (.getfield 49, 3) := by decide +kernel
theorem dX12_putsBy_25 : decode cX12_putsBy 25 = .ok (.iload_n 1, 1) := by decide +kernel
theorem dX12_putsBy_26 : decode cX12_putsBy 26 = .ok (.iaload, 1) := by decide +kernel
theorem dX12_putsBy_27 : decode cX12_putsBy 27 = .ok (.iastore, 1) := by decide +kernel
theorem dX12_putsBy_28 : decode cX12_putsBy 28 = .ok (.iinc 1 1, 3) := by decide +kernel
theorem dX12_putsBy_31 : decode cX12_putsBy 31 = .ok (.goto (-29), 3) := by decide +kernel
theorem dX12_putsBy_34 : decode cX12_putsBy 34 = .ok (.return_, 1) := by decide +kernel
theorem dX12_puts_0 : decode cX12_puts 0 = .ok (.aload_n 0, 1) := by decide +kernel
theorem dX12_puts_1 : decode cX12_puts 1 = .ok (.dup, 1) := by decide +kernel
theorem dX12_puts_2 : decode cX12_puts 2 = .ok (.getfield 215, 3) := by decide +kernel
theorem dX12_puts_5 : decode cX12_puts 5 = .ok (.iconst 1, 1) := by decide +kernel
theorem dX12_puts_6 : decode cX12_puts 6 = .ok (.iadd, 1) := by decide +kernel
theorem dX12_puts_7 : decode cX12_puts 7 = .ok (.putfield 215, 3) := by decide +kernel
theorem dX12_puts_10 : decode cX12_puts 10 = .ok (.aload_n 0, 1) := by decide +kernel
theorem dX12_puts_11 : decode cX12_puts 11 = .ok (.getfield 215, 3) := by decide +kernel
theorem dX12_puts_14 : decode cX12_puts 14 = .ok (.bipush 15, 2) := by decide +kernel
theorem dX12_puts_16 : decode cX12_puts 16 = .ok (.if_icmp .le 43, 3) := by decide +kernel
theorem dX12_puts_19 : decode cX12_puts 19 = .ok (.iconst 0, 1) := by decide +kernel
theorem dX12_puts_20 : decode cX12_puts 20 = .ok (.istore_n 2, 1) := by decide +kernel
theorem dX12_puts_21 : decode cX12_puts 21 = .ok (.iload_n 2, 1) := by decide +kernel
theorem dX12_puts_22 : decode cX12_puts 22 = .ok (.sipush 390, 3) := by decide +kernel
theorem dX12_puts_25 : decode cX12_puts 25 = .ok (.if_icmp .ge 24, 3) := by decide +kernel
theorem dX12_puts_28 : decode cX12_puts 28 = .ok (.aload_n 0, 1) := by decide +kernel
theorem dX12_puts_29 : decode cX12_puts 29 = .ok (.getfield 73, 3) := by decide +kernel
theorem dX12_puts_32 : decode cX12_puts 32 = .ok (.iload_n 2, 1) := by decide +kernel
theorem dX12_puts_33 : decode cX12_puts 33 = .ok (.aload_n 0, 1) := by decide +kernel
theorem dX12_puts_34 : decode cX12_puts 34 = .ok (.getfield 73, 3) := by decide +kernel
theorem dX12_puts_37 : decode cX12_puts 37 = .ok (.iload_n 2, 1) := by decide +kernel
theorem dX12_puts_38 : decode cX12_puts 38 = .ok (.bipush 26, 2) := by decide +kernel
theorem dX12_puts_40 : decode cX12_puts 40 = .ok (.iadd, 1) := by decide +kernel
theorem dX12_puts_41 : decode cX12_puts 41 = .ok (.iaload, 1) := by decide +kernel
theorem dX12_puts_42 : decode cX12_puts 42 = .ok (.iastore, 1) := by decide +kernel
theorem dX12_puts_43 : decode cX12_puts 43 = .ok (.iinc 2 1, 3) := by decide +kernel
theorem dX12_puts_46 : decode cX12_puts 46 = .ok (.goto (-25), 3) := by decide +kernel
theorem dX12_puts_49 : decode cX12_puts 49 = .ok (.aload_n 0, 1) := by decide +kernel
theorem dX12_puts_50 : decode cX12_puts 50 = .ok (.dup, 1) := by decide +kernel
theorem dX12_puts_51 : decode cX12_puts 51 = .ok (.getfield 215, 3) := by decide +kernel
theorem dX12_puts_54 : decode cX12_puts 54 = .ok (.iconst 1, 1) := by decide +kernel
theorem dX12_puts_55 : decode cX12_puts 55 = .ok (.isub, 1) := by decide +kernel
theorem dX12_puts_56 : decode cX12_puts 56 = .ok (.putfield 215, 3) := by decide +kernel
theorem dX12_puts_59 : decode cX12_puts 59 = .ok (.iload_n 1, 1) := by decide +kernel
theorem dX12_puts_60 : decode cX12_puts 60 = .ok (.ireturn, 1) := by decide +kernel
theorem dX12_counted_0 : decode cX12_counted 0 = .ok (.iload_n 1, 1) := by decide +kernel
theorem dX12_counted_1 : decode cX12_counted 1 = .ok (.ifCond .ge 7, 3) := by decide +kernel
theorem dX12_counted_4 : decode cX12_counted 4 = .ok (.iload_n 1, 1) := by decide +kernel
theorem dX12_counted_5 : decode cX12_counted 5 = .ok (.goto 8, 3) := by decide +kernel
theorem dX12_counted_8 : decode cX12_counted 8 = .ok (.aload_n 0, 1) := by decide +kernel
theorem dX12_counted_9 : decode cX12_counted 9 = .ok (.iload_n 1, 1) := by decide +kernel
theorem dX12_counted_10 : decode cX12_counted 10 = .ok (.invokevirtual 354, 3) := by decide +kernel
theorem dX12_counted_13 : decode cX12_counted 13 = .ok (.ireturn, 1) := by decide +kernel
theorem dX12_undo_0 : decode cX12_undo 0 = .ok (.aload_n 0, 1) := by decide +kernel
theorem dX12_undo_1 : decode cX12_undo 1 = .ok (.iconst 0, 1) := by decide +kernel
theorem dX12_undo_2 : decode cX12_undo 2 = .ok (.putfield 3, 3) := by decide +kernel
theorem dX12_undo_5 : decode cX12_undo 5 = .ok (.aload_n 0, 1) := by decide +kernel
theorem dX12_undo_6 : decode cX12_undo 6 = .ok (.getfield 215, 3) := by decide +kernel
theorem dX12_undo_9 : decode cX12_undo 9 = .ok (.ifCond .ne 5, 3) := by decide +kernel
theorem dX12_undo_12 : decode cX12_undo 12 = .ok (.iconst (-1), 1) := by decide +kernel
theorem dX12_undo_13 : decode cX12_undo 13 = .ok (.ireturn, 1) := by decide +kernel
theorem dX12_undo_14 : decode cX12_undo 14 = .ok (.aload_n 0, 1) := by decide +kernel
theorem dX12_undo_15 : decode cX12_undo 15 = .ok (.dup, 1) := by decide +kernel
theorem dX12_undo_16 : decode cX12_undo 16 = .ok (.getfield 215, 3) := by decide +kernel
theorem dX12_undo_19 : decode cX12_undo 19 = .ok (.iconst 1, 1) := by decide +kernel
theorem dX12_undo_20 : decode cX12_undo 20 = .ok (.isub, 1) := by decide +kernel
theorem dX12_undo_21 : decode cX12_undo 21 = .ok (.putfield 215, 3) := by decide +kernel
theorem dX12_undo_24 : decode cX12_undo 24 = .ok (.iconst 0, 1) := by decide +kernel
theorem dX12_undo_25 : decode cX12_undo 25 = .ok (.istore_n 1, 1) := by decide +kernel
theorem dX12_undo_26 : decode cX12_undo 26 = .ok (.iload_n 1, 1) := by decide +kernel
theorem dX12_undo_27 : decode cX12_undo 27 = .ok (.bipush 26, 2) := by decide +kernel
theorem dX12_undo_29 : decode cX12_undo 29 = .ok (.if_icmp .ge 29, 3) := by decide +kernel
theorem dX12_undo_32 : decode cX12_undo 32 = .ok (.aload_n 0, 1) := by decide +kernel
theorem dX12_undo_33 : decode cX12_undo 33 = .ok (.getfield 49, 3) := by decide +kernel
theorem dX12_undo_36 : decode cX12_undo 36 = .ok (.iload_n 1, 1) := by decide +kernel
theorem dX12_undo_37 : decode cX12_undo 37 = .ok (.aload_n 0, 1) := by decide +kernel
theorem dX12_undo_38 : decode cX12_undo 38 = .ok (.getfield 73, 3) := by decide +kernel
theorem dX12_undo_41 : decode cX12_undo 41 = .ok (.bipush 26, 2) := by decide +kernel
theorem dX12_undo_43 : decode cX12_undo 43 = .ok (.aload_n 0, 1) := by decide +kernel
theorem dX12_undo_44 : decode cX12_undo 44 = .ok (.getfield 215, 3) := by decide +kernel
theorem dX12_undo_47 : decode cX12_undo 47 = .ok (.imul, 1) := by decide +kernel
theorem dX12_undo_48 : decode cX12_undo 48 = .ok (.iload_n 1, 1) := by decide +kernel
theorem dX12_undo_49 : decode cX12_undo 49 = .ok (.iadd, 1) := by decide +kernel
theorem dX12_undo_50 : decode cX12_undo 50 = .ok (.iaload, 1) := by decide +kernel
theorem dX12_undo_51 : decode cX12_undo 51 = .ok (.iastore, 1) := by decide +kernel
theorem dX12_undo_52 : decode cX12_undo 52 = .ok (.iinc 1 1, 3) := by decide +kernel
theorem dX12_undo_55 : decode cX12_undo 55 = .ok (.goto (-29), 3) := by decide +kernel
theorem dX12_undo_58 : decode cX12_undo 58 = .ok (.aload_n 0, 1) := by decide +kernel
theorem dX12_undo_59 : decode cX12_undo 59 = .ok (.getfield 215, 3) := by decide +kernel
theorem dX12_undo_62 : decode cX12_undo 62 = .ok (.ireturn, 1) := by decide +kernel
theorem dX12_hourGoes_0 : decode cX12_hourGoes 0 = .ok (.iconst 0, 1) := by decide +kernel
theorem dX12_hourGoes_1 : decode cX12_hourGoes 1 = .ok (.istore_n 2, 1) := by decide +kernel
theorem dX12_hourGoes_2 : decode cX12_hourGoes 2 = .ok (.iload_n 2, 1) := by decide +kernel
theorem dX12_hourGoes_3 : decode cX12_hourGoes 3 = .ok (.aload_n 0, 1) := by decide +kernel
theorem dX12_hourGoes_4 : decode cX12_hourGoes 4 = .ok (.getfield 140, 3) := by decide +kernel
theorem dX12_hourGoes_7 : decode cX12_hourGoes 7 = .ok (.if_icmp .ge 62, 3) := by decide +kernel
theorem dX12_hourGoes_10 : decode cX12_hourGoes 10 = .ok (.aload_n 1, 1) := by decide +kernel
theorem dX12_hourGoes_11 : decode cX12_hourGoes 11 = .ok (.bipush 8, 2) := by decide +kernel
theorem dX12_hourGoes_13 : decode cX12_hourGoes 13 = .ok (.iload_n 2, 1) := by decide +kernel
theorem dX12_hourGoes_14 : decode cX12_hourGoes 14 = .ok (.iadd, 1) := by decide +kernel
theorem dX12_hourGoes_15 : decode cX12_hourGoes 15 = .ok (.iaload, 1) := by decide +kernel
theorem dX12_hourGoes_16 : decode cX12_hourGoes 16 = .ok (.istore_n 3, 1) := by decide +kernel
theorem dX12_hourGoes_17 : decode cX12_hourGoes 17 = .ok (.aload_n 0, 1) := by decide +kernel
theorem dX12_hourGoes_18 : decode cX12_hourGoes 18 = .ok (.aload_n 1, 1) := by decide +kernel
theorem dX12_hourGoes_19 : decode cX12_hourGoes 19 = .ok (.iload_n 2, 1) := by decide +kernel
theorem dX12_hourGoes_20 : decode cX12_hourGoes 20 = .ok (.iaload, 1) := by decide +kernel
theorem dX12_hourGoes_21 : decode cX12_hourGoes 21 = .ok (.iload_n 3, 1) := by decide +kernel
theorem dX12_hourGoes_22 : decode cX12_hourGoes 22 = .ok (.invokevirtual 357, 3) := by decide +kernel
theorem dX12_hourGoes_25 : decode cX12_hourGoes 25 = .ok (.istore 4, 2) := by decide +kernel
theorem dX12_hourGoes_27 : decode cX12_hourGoes 27 = .ok (.aload_n 1, 1) := by decide +kernel
theorem dX12_hourGoes_28 : decode cX12_hourGoes 28 = .ok (.bipush 8, 2) := by decide +kernel
theorem dX12_hourGoes_30 : decode cX12_hourGoes 30 = .ok (.iload_n 2, 1) := by decide +kernel
theorem dX12_hourGoes_31 : decode cX12_hourGoes 31 = .ok (.iadd, 1) := by decide +kernel
theorem dX12_hourGoes_32 : decode cX12_hourGoes 32 = .ok (.iload 4, 2) := by decide +kernel
theorem dX12_hourGoes_34 : decode cX12_hourGoes 34 = .ok (.ifCond .ge 11, 3) := by decide +kernel
theorem dX12_hourGoes_37 : decode cX12_hourGoes 37 = .ok (.iload_n 3, 1) := by decide +kernel
theorem dX12_hourGoes_38 : decode cX12_hourGoes 38 = .ok (.iconst 2, 1) := by decide +kernel
theorem dX12_hourGoes_39 : decode cX12_hourGoes 39 = .ok (.iadd, 1) := by decide +kernel
theorem dX12_hourGoes_40 : decode cX12_hourGoes 40 = .ok (.iconst 4, 1) := by decide +kernel
theorem dX12_hourGoes_41 : decode cX12_hourGoes 41 = .ok (.irem, 1) := by decide +kernel
theorem dX12_hourGoes_42 : decode cX12_hourGoes 42 = .ok (.goto 4, 3) := by decide +kernel
theorem dX12_hourGoes_45 : decode cX12_hourGoes 45 = .ok (.iload_n 3, 1) := by decide +kernel
theorem dX12_hourGoes_46 : decode cX12_hourGoes 46 = .ok (.iastore, 1) := by decide +kernel
theorem dX12_hourGoes_47 : decode cX12_hourGoes 47 = .ok (.aload_n 1, 1) := by decide +kernel
theorem dX12_hourGoes_48 : decode cX12_hourGoes 48 = .ok (.iload_n 2, 1) := by decide +kernel
theorem dX12_hourGoes_49 : decode cX12_hourGoes 49 = .ok (.iload 4, 2) := by decide +kernel
theorem dX12_hourGoes_51 : decode cX12_hourGoes 51 = .ok (.ifCond .ge 9, 3) := by decide +kernel
theorem dX12_hourGoes_54 : decode cX12_hourGoes 54 = .ok (.aload_n 1, 1) := by decide +kernel
theorem dX12_hourGoes_55 : decode cX12_hourGoes 55 = .ok (.iload_n 2, 1) := by decide +kernel
theorem dX12_hourGoes_56 : decode cX12_hourGoes 56 = .ok (.iaload, 1) := by decide +kernel
theorem dX12_hourGoes_57 : decode cX12_hourGoes 57 = .ok (.goto 5, 3) := by decide +kernel
theorem dX12_hourGoes_60 : decode cX12_hourGoes 60 = .ok (.iload 4, 2) := by decide +kernel
theorem dX12_hourGoes_62 : decode cX12_hourGoes 62 = .ok (.iastore, 1) := by decide +kernel
theorem dX12_hourGoes_63 : decode cX12_hourGoes 63 = .ok (.iinc 2 1, 3) := by decide +kernel
theorem dX12_hourGoes_66 : decode cX12_hourGoes 66 = .ok (.goto (-64), 3) := by decide +kernel
theorem dX12_hourGoes_69 : decode cX12_hourGoes 69 = .ok (.aload_n 1, 1) := by decide +kernel
theorem dX12_hourGoes_70 : decode cX12_hourGoes 70 = .ok (.bipush 25, 2) := by decide +kernel
theorem dX12_hourGoes_72 : decode cX12_hourGoes 72 = .ok (.dup2, 1) := by decide +kernel
theorem dX12_hourGoes_73 : decode cX12_hourGoes 73 = .ok (.iaload, 1) := by decide +kernel
theorem dX12_hourGoes_74 : decode cX12_hourGoes 74 = .ok (.iconst 1, 1) := by decide +kernel
theorem dX12_hourGoes_75 : decode cX12_hourGoes 75 = .ok (.iadd, 1) := by decide +kernel
theorem dX12_hourGoes_76 : decode cX12_hourGoes 76 = .ok (.iastore, 1) := by decide +kernel
theorem dX12_hourGoes_77 : decode cX12_hourGoes 77 = .ok (.return_, 1) := by decide +kernel
theorem dX12_goesOn_0 : decode cX12_goesOn 0 = .ok (.iconst 0, 1) := by decide +kernel
theorem dX12_goesOn_1 : decode cX12_goesOn 1 = .ok (.istore_n 3, 1) := by decide +kernel
theorem dX12_goesOn_2 : decode cX12_goesOn 2 = .ok (.iload_n 3, 1) := by decide +kernel
theorem dX12_goesOn_3 : decode cX12_goesOn 3 = .ok (.iload_n 2, 1) := by decide +kernel
theorem dX12_goesOn_4 : decode cX12_goesOn 4 = .ok (.if_icmp .ge 14, 3) := by decide +kernel
theorem dX12_goesOn_7 : decode cX12_goesOn 7 = .ok (.aload_n 0, 1) := by decide +kernel
theorem dX12_goesOn_8 : decode cX12_goesOn 8 = .ok (.aload_n 1, 1) := by decide +kernel
theorem dX12_goesOn_9 : decode cX12_goesOn 9 = .ok (.invokevirtual 360, 3) := by decide +kernel
theorem dX12_goesOn_12 : decode cX12_goesOn 12 = .ok (.iinc 3 1, 3) := by decide +kernel
theorem dX12_goesOn_15 : decode cX12_goesOn 15 = .ok (.goto (-13), 3) := by decide +kernel
theorem dX12_goesOn_18 : decode cX12_goesOn 18 = .ok (.return_, 1) := by decide +kernel
theorem dX12_hangs_0 : decode cX12_hangs 0 = .ok (.aload_n 0, 1) := by decide +kernel
theorem dX12_hangs_1 : decode cX12_hangs 1 = .ok (.iload_n 2, 1) := by decide +kernel
theorem dX12_hangs_2 : decode cX12_hangs 2 = .ok (.invokevirtual 343, 3) := by decide +kernel
theorem dX12_hangs_5 : decode cX12_hangs 5 = .ok (.ifCond .eq 11, 3) := by decide +kernel
theorem dX12_hangs_8 : decode cX12_hangs 8 = .ok (.aload_n 0, 1) := by decide +kernel
theorem dX12_hangs_9 : decode cX12_hangs 9 = .ok (.iload_n 3, 1) := by decide +kernel
theorem dX12_hangs_10 : decode cX12_hangs 10 = .ok (.invokevirtual 346, 3) := by decide +kernel
theorem dX12_hangs_13 : decode cX12_hangs 13 = .ok (.ifCond .ne 5, 3) := by decide +kernel
theorem dX12_hangs_16 : decode cX12_hangs 16 = .ok (.iconst (-1), 1) := by decide +kernel
theorem dX12_hangs_17 : decode cX12_hangs 17 = .ok (.ireturn, 1) := by decide +kernel
theorem dX12_hangs_18 : decode cX12_hangs 18 = .ok (.aload_n 1, 1) := by decide +kernel
theorem dX12_hangs_19 : decode cX12_hangs 19 = .ok (.bipush 16, 2) := by decide +kernel
theorem dX12_hangs_21 : decode cX12_hangs 21 = .ok (.iload_n 2, 1) := by decide +kernel
theorem dX12_hangs_22 : decode cX12_hangs 22 = .ok (.iadd, 1) := by decide +kernel
theorem dX12_hangs_23 : decode cX12_hangs 23 = .ok (.iaload, 1) := by decide +kernel
theorem dX12_hangs_24 : decode cX12_hangs 24 = .ok (.iload_n 3, 1) := by decide +kernel
theorem dX12_hangs_25 : decode cX12_hangs 25 = .ok (.if_icmp .ne 6, 3) := by decide +kernel
theorem dX12_hangs_28 : decode cX12_hangs 28 = .ok (.bipush (-2), 2) := by decide +kernel
theorem dX12_hangs_30 : decode cX12_hangs 30 = .ok (.ireturn, 1) := by decide +kernel
theorem dX12_hangs_31 : decode cX12_hangs 31 = .ok (.aload_n 1, 1) := by decide +kernel
theorem dX12_hangs_32 : decode cX12_hangs 32 = .ok (.bipush 16, 2) := by decide +kernel
theorem dX12_hangs_34 : decode cX12_hangs 34 = .ok (.iload_n 2, 1) := by decide +kernel
theorem dX12_hangs_35 : decode cX12_hangs 35 = .ok (.iadd, 1) := by decide +kernel
theorem dX12_hangs_36 : decode cX12_hangs 36 = .ok (.iload_n 3, 1) := by decide +kernel
theorem dX12_hangs_37 : decode cX12_hangs 37 = .ok (.iastore, 1) := by decide +kernel
theorem dX12_hangs_38 : decode cX12_hangs 38 = .ok (.aload_n 0, 1) := by decide +kernel
theorem dX12_hangs_39 : decode cX12_hangs 39 = .ok (.aload_n 1, 1) := by decide +kernel
theorem dX12_hangs_40 : decode cX12_hangs 40 = .ok (.iload_n 3, 1) := by decide +kernel
theorem dX12_hangs_41 : decode cX12_hangs 41 = .ok (.invokevirtual 325, 3) := by decide +kernel
theorem dX12_hangs_44 : decode cX12_hangs 44 = .ok (.invokestatic 300, 3) := by decide +kernel
theorem dX12_hangs_47 : decode cX12_hangs 47 = .ok (.ireturn, 1) := by decide +kernel
theorem dX12_takesDown_0 : decode cX12_takesDown 0 = .ok (.aload_n 0, 1) := by decide +kernel
theorem dX12_takesDown_1 : decode cX12_takesDown 1 = .ok (.iload_n 1, 1) := by decide +kernel
theorem dX12_takesDown_2 : decode cX12_takesDown 2 = .ok (.invokevirtual 343, 3) := by decide +kernel
theorem dX12_takesDown_5 : decode cX12_takesDown 5 = .ok (.ifCond .ne 5, 3) := by decide +kernel
theorem dX12_takesDown_8 : decode cX12_takesDown 8 = .ok (.iconst (-1), 1) := by decide +kernel
theorem dX12_takesDown_9 : decode cX12_takesDown 9 = .ok (.ireturn, 1) := by decide +kernel
theorem dX12_takesDown_10 : decode cX12_takesDown 10 = .ok (.aload_n 0, 1) := by decide +kernel
theorem dX12_takesDown_11 : decode cX12_takesDown 11 = .ok (.getfield 49, 3) := by decide +kernel
theorem dX12_takesDown_14 : decode cX12_takesDown 14 = .ok (.bipush 16, 2) := by decide +kernel
theorem dX12_takesDown_16 : decode cX12_takesDown 16 = .ok (.iload_n 1, 1) := by decide +kernel
theorem dX12_takesDown_17 : decode cX12_takesDown 17 = .ok (.iadd, 1) := by decide +kernel
theorem dX12_takesDown_18 : decode cX12_takesDown 18 = .ok (.iaload, 1) := by decide +kernel
theorem dX12_takesDown_19 : decode cX12_takesDown 19 = .ok (.istore_n 2, 1) := by decide +kernel
theorem dX12_takesDown_20 : decode cX12_takesDown 20 = .ok (.aload_n 0, 1) := by decide +kernel
theorem dX12_takesDown_21 : decode cX12_takesDown 21 = .ok (.getfield 49, 3) := by decide +kernel
theorem dX12_takesDown_24 : decode cX12_takesDown 24 = .ok (.bipush 16, 2) := by decide +kernel
theorem dX12_takesDown_26 : decode cX12_takesDown 26 = .ok (.iload_n 1, 1) := by decide +kernel
theorem dX12_takesDown_27 : decode cX12_takesDown 27 = .ok (.iadd, 1) := by decide +kernel
theorem dX12_takesDown_28 : decode cX12_takesDown 28 = .ok (.iconst (-1), 1) := by decide +kernel
theorem dX12_takesDown_29 : decode cX12_takesDown 29 = .ok (.iastore, 1) := by decide +kernel
theorem dX12_takesDown_30 : decode cX12_takesDown 30 = .ok (.iload_n 2, 1) := by decide +kernel
theorem dX12_takesDown_31 : decode cX12_takesDown 31 = .ok (.ifCond .ge 8, 3) := by decide +kernel
theorem dX12_takesDown_34 : decode cX12_takesDown 34 = .ok (.bipush (-2), 2) := by decide +kernel
theorem dX12_takesDown_36 : decode cX12_takesDown 36 = .ok (.goto 4, 3) := by decide +kernel
theorem dX12_takesDown_39 : decode cX12_takesDown 39 = .ok (.iload_n 2, 1) := by decide +kernel
theorem dX12_takesDown_40 : decode cX12_takesDown 40 = .ok (.ireturn, 1) := by decide +kernel
theorem dX12_breaks_0 : decode cX12_breaks 0 = .ok (.aload_n 0, 1) := by decide +kernel
theorem dX12_breaks_1 : decode cX12_breaks 1 = .ok (.iload_n 2, 1) := by decide +kernel
theorem dX12_breaks_2 : decode cX12_breaks 2 = .ok (.invokevirtual 343, 3) := by decide +kernel
theorem dX12_breaks_5 : decode cX12_breaks 5 = .ok (.ifCond .ne 5, 3) := by decide +kernel
theorem dX12_breaks_8 : decode cX12_breaks 8 = .ok (.iconst (-1), 1) := by decide +kernel
theorem dX12_breaks_9 : decode cX12_breaks 9 = .ok (.ireturn, 1) := by decide +kernel
theorem dX12_breaks_10 : decode cX12_breaks 10 = .ok (.aload_n 1, 1) := by decide +kernel
theorem dX12_breaks_11 : decode cX12_breaks 11 = .ok (.bipush 24, 2) := by decide +kernel
theorem dX12_breaks_13 : decode cX12_breaks 13 = .ok (.iaload, 1) := by decide +kernel
theorem dX12_breaks_14 : decode cX12_breaks 14 = .ok (.iload_n 2, 1) := by decide +kernel
theorem dX12_breaks_15 : decode cX12_breaks 15 = .ok (.invokestatic 296, 3) := by decide +kernel
theorem dX12_breaks_18 : decode cX12_breaks 18 = .ok (.ifCond .eq 6, 3) := by decide +kernel
theorem dX12_breaks_21 : decode cX12_breaks 21 = .ok (.bipush (-2), 2) := by decide +kernel
theorem dX12_breaks_23 : decode cX12_breaks 23 = .ok (.ireturn, 1) := by decide +kernel
theorem dX12_breaks_24 : decode cX12_breaks 24 = .ok (.aload_n 1, 1) := by decide +kernel
theorem dX12_breaks_25 : decode cX12_breaks 25 = .ok (.bipush 24, 2) := by decide +kernel
theorem dX12_breaks_27 : decode cX12_breaks 27 = .ok (.dup2, 1) := by decide +kernel
theorem dX12_breaks_28 : decode cX12_breaks 28 = .ok (.iaload, 1) := by decide +kernel
theorem dX12_breaks_29 : decode cX12_breaks 29 = .ok (.iconst 1, 1) := by decide +kernel
theorem dX12_breaks_30 : decode cX12_breaks 30 = .ok (.iload_n 2, 1) := by decide +kernel
theorem dX12_breaks_31 : decode cX12_breaks 31 = .ok (.ishl, 1) := by decide +kernel
theorem dX12_breaks_32 : decode cX12_breaks 32 = .ok (.ior, 1) := by decide +kernel
theorem dX12_breaks_33 : decode cX12_breaks 33 = .ok (.iastore, 1) := by decide +kernel
theorem dX12_breaks_34 : decode cX12_breaks 34 = .ok (.aload_n 1, 1) := by decide +kernel
theorem dX12_breaks_35 : decode cX12_breaks 35 = .ok (.bipush 24, 2) := by decide +kernel
theorem dX12_breaks_37 : decode cX12_breaks 37 = .ok (.iaload, 1) := by decide +kernel
theorem dX12_breaks_38 : decode cX12_breaks 38 = .ok (.invokestatic 300, 3) := by decide +kernel
theorem dX12_breaks_41 : decode cX12_breaks 41 = .ok (.ireturn, 1) := by decide +kernel
theorem dX12_carries_0 : decode cX12_carries 0 = .ok (.aload_n 0, 1) := by decide +kernel
theorem dX12_carries_1 : decode cX12_carries 1 = .ok (.iload_n 1, 1) := by decide +kernel
theorem dX12_carries_2 : decode cX12_carries 2 = .ok (.invokevirtual 332, 3) := by decide +kernel
theorem dX12_carries_5 : decode cX12_carries 5 = .ok (.ifCond .eq 23, 3) := by decide +kernel
theorem dX12_carries_8 : decode cX12_carries 8 = .ok (.aload_n 0, 1) := by decide +kernel
theorem dX12_carries_9 : decode cX12_carries 9 = .ok (.iload_n 2, 1) := by decide +kernel
theorem dX12_carries_10 : decode cX12_carries 10 = .ok (.invokevirtual 364, 3) := by decide +kernel
theorem dX12_carries_13 : decode cX12_carries 13 = .ok (.ifCond .eq 15, 3) := by decide +kernel
theorem dX12_carries_16 : decode cX12_carries 16 = .ok (.iload_n 3, 1) := by decide +kernel
theorem dX12_carries_17 : decode cX12_carries 17 = .ok (.i2l, 1) := by decide +kernel
theorem dX12_carries_18 : decode cX12_carries 18 = .ok (.lconst 0, 1) := by decide +kernel
theorem dX12_carries_19 : decode cX12_carries 19 = .ok (.ldc2_w 335, 3) := by decide +kernel
theorem dX12_carries_22 : decode cX12_carries 22 = .ok (.invokestatic 143, 3) := by decide +kernel
theorem dX12_carries_25 : decode cX12_carries 25 = .ok (.ifCond .ne 5, 3) := by decide +kernel
theorem dX12_carries_28 : decode cX12_carries 28 = .ok (.iconst (-1), 1) := by decide +kernel
theorem dX12_carries_29 : decode cX12_carries 29 = .ok (.ireturn, 1) := by decide +kernel
theorem dX12_carries_30 : decode cX12_carries 30 = .ok (.aload_n 0, 1) := by decide +kernel
theorem dX12_carries_31 : decode cX12_carries 31 = .ok (.getfield 49, 3) := by decide +kernel
theorem dX12_carries_34 : decode cX12_carries 34 = .ok (.iload_n 1, 1) := by decide +kernel
theorem dX12_carries_35 : decode cX12_carries 35 = .ok (.iaload, 1) := by decide +kernel
theorem dX12_carries_36 : decode cX12_carries 36 = .ok (.istore 4, 2) := by decide +kernel
theorem dX12_carries_38 : decode cX12_carries 38 = .ok (.aload_n 0, 1) := by decide +kernel
theorem dX12_carries_39 : decode cX12_carries 39 = .ok (.getfield 49, 3) := by decide +kernel
theorem dX12_carries_42 : decode cX12_carries 42 = .ok (.iload_n 1, 1) := by decide +kernel
theorem dX12_carries_43 : decode cX12_carries 43 = .ok (.iload_n 2, 1) := by decide +kernel
theorem dX12_carries_44 : decode cX12_carries 44 = .ok (.iastore, 1) := by decide +kernel
theorem dX12_carries_45 : decode cX12_carries 45 = .ok (.aload_n 0, 1) := by decide +kernel
theorem dX12_carries_46 : decode cX12_carries 46 = .ok (.getfield 49, 3) := by decide +kernel
theorem dX12_carries_49 : decode cX12_carries 49 = .ok (.bipush 8, 2) := by decide +kernel
theorem dX12_carries_51 : decode cX12_carries 51 = .ok (.iload_n 1, 1) := by decide +kernel
theorem dX12_carries_52 : decode cX12_carries 52 = .ok (.iadd, 1) := by decide +kernel
theorem dX12_carries_53 : decode cX12_carries 53 = .ok (.iload_n 3, 1) := by decide +kernel
theorem dX12_carries_54 : decode cX12_carries 54 = .ok (.iastore, 1) := by decide +kernel
theorem dX12_carries_55 : decode cX12_carries 55 = .ok (.iload 4, 2) := by decide +kernel
theorem dX12_carries_57 : decode cX12_carries 57 = .ok (.ireturn, 1) := by decide +kernel
theorem dX12_hang_0 : decode cX12_hang 0 = .ok (.aload_n 0, 1) := by decide +kernel
theorem dX12_hang_1 : decode cX12_hang 1 = .ok (.iconst 0, 1) := by decide +kernel
theorem dX12_hang_2 : decode cX12_hang 2 = .ok (.putfield 3, 3) := by decide +kernel
theorem dX12_hang_5 : decode cX12_hang 5 = .ok (.aload_n 0, 1) := by decide +kernel
theorem dX12_hang_6 : decode cX12_hang 6 = .ok (.invokevirtual 367, 3) := by decide +kernel
theorem dX12_hang_9 : decode cX12_hang 9 = .ok (.aload_n 0, 1) := by decide +kernel
theorem dX12_hang_10 : decode cX12_hang 10 = .ok (.aload_n 0, 1) := by decide +kernel
theorem dX12_hang_11 : decode cX12_hang 11 = .ok (.aload_n 0, 1) := by decide +kernel
theorem dX12_hang_12 : decode cX12_hang 12 = .ok (.getfield 49, 3) := by decide +kernel
theorem dX12_hang_15 : decode cX12_hang 15 = .ok (.iload_n 1, 1) := by decide +kernel
theorem dX12_hang_16 : decode cX12_hang 16 = .ok (.iload_n 2, 1) := by decide +kernel
theorem dX12_hang_17 : decode cX12_hang 17 = .ok (.invokevirtual 370, 3) := by decide +kernel
theorem dX12_hang_20 : decode cX12_hang 20 = .ok (.invokevirtual 373, 3) := by decide +kernel
theorem dX12_hang_23 : decode cX12_hang 23 = .ok (.ireturn, 1) := by decide +kernel
theorem dX12_takes_0 : decode cX12_takes 0 = .ok (.aload_n 0, 1) := by decide +kernel
theorem dX12_takes_1 : decode cX12_takes 1 = .ok (.iconst 0, 1) := by decide +kernel
theorem dX12_takes_2 : decode cX12_takes 2 = .ok (.putfield 3, 3) := by decide +kernel
theorem dX12_takes_5 : decode cX12_takes 5 = .ok (.aload_n 0, 1) := by decide +kernel
theorem dX12_takes_6 : decode cX12_takes 6 = .ok (.invokevirtual 367, 3) := by decide +kernel
theorem dX12_takes_9 : decode cX12_takes 9 = .ok (.aload_n 0, 1) := by decide +kernel
theorem dX12_takes_10 : decode cX12_takes 10 = .ok (.aload_n 0, 1) := by decide +kernel
theorem dX12_takes_11 : decode cX12_takes 11 = .ok (.iload_n 1, 1) := by decide +kernel
theorem dX12_takes_12 : decode cX12_takes 12 = .ok (.invokevirtual 376, 3) := by decide +kernel
theorem dX12_takes_15 : decode cX12_takes 15 = .ok (.invokevirtual 373, 3) := by decide +kernel
theorem dX12_takes_18 : decode cX12_takes 18 = .ok (.ireturn, 1) := by decide +kernel
theorem dX12_ball_0 : decode cX12_ball 0 = .ok (.aload_n 0, 1) := by decide +kernel
theorem dX12_ball_1 : decode cX12_ball 1 = .ok (.iconst 0, 1) := by decide +kernel
theorem dX12_ball_2 : decode cX12_ball 2 = .ok (.putfield 3, 3) := by decide +kernel
theorem dX12_ball_5 : decode cX12_ball 5 = .ok (.aload_n 0, 1) := by decide +kernel
theorem dX12_ball_6 : decode cX12_ball 6 = .ok (.invokevirtual 367, 3) := by decide +kernel
theorem dX12_ball_9 : decode cX12_ball 9 = .ok (.aload_n 0, 1) := by decide +kernel
theorem dX12_ball_10 : decode cX12_ball 10 = .ok (.aload_n 0, 1) := by decide +kernel
theorem dX12_ball_11 : decode cX12_ball 11 = .ok (.aload_n 0, 1) := by decide +kernel
theorem dX12_ball_12 : decode cX12_ball 12 = .ok (.getfield 49, 3) := by decide +kernel
theorem dX12_ball_15 : decode cX12_ball 15 = .ok (.iload_n 1, 1) := by decide +kernel
theorem dX12_ball_16 : decode cX12_ball 16 = .ok (.invokevirtual 379, 3) := by decide +kernel
theorem dX12_ball_19 : decode cX12_ball 19 = .ok (.invokevirtual 373, 3) := by decide +kernel
theorem dX12_ball_22 : decode cX12_ball 22 = .ok (.ireturn, 1) := by decide +kernel
theorem dX12_carry_0 : decode cX12_carry 0 = .ok (.aload_n 0, 1) := by decide +kernel
theorem dX12_carry_1 : decode cX12_carry 1 = .ok (.iconst 0, 1) := by decide +kernel
theorem dX12_carry_2 : decode cX12_carry 2 = .ok (.putfield 3, 3) := by decide +kernel
theorem dX12_carry_5 : decode cX12_carry 5 = .ok (.aload_n 0, 1) := by decide +kernel
theorem dX12_carry_6 : decode cX12_carry 6 = .ok (.invokevirtual 367, 3) := by decide +kernel
theorem dX12_carry_9 : decode cX12_carry 9 = .ok (.aload_n 0, 1) := by decide +kernel
theorem dX12_carry_10 : decode cX12_carry 10 = .ok (.aload_n 0, 1) := by decide +kernel
theorem dX12_carry_11 : decode cX12_carry 11 = .ok (.iload_n 1, 1) := by decide +kernel
theorem dX12_carry_12 : decode cX12_carry 12 = .ok (.iload_n 2, 1) := by decide +kernel
theorem dX12_carry_13 : decode cX12_carry 13 = .ok (.iload_n 3, 1) := by decide +kernel
theorem dX12_carry_14 : decode cX12_carry 14 = .ok (.invokevirtual 382, 3) := by decide +kernel
theorem dX12_carry_17 : decode cX12_carry 17 = .ok (.invokevirtual 373, 3) := by decide +kernel
theorem dX12_carry_20 : decode cX12_carry 20 = .ok (.ireturn, 1) := by decide +kernel
theorem dX12_hours_0 : decode cX12_hours 0 = .ok (.aload_n 0, 1) := by decide +kernel
theorem dX12_hours_1 : decode cX12_hours 1 = .ok (.iconst 0, 1) := by decide +kernel
theorem dX12_hours_2 : decode cX12_hours 2 = .ok (.putfield 3, 3) := by decide +kernel
theorem dX12_hours_5 : decode cX12_hours 5 = .ok (.iload_n 1, 1) := by decide +kernel
theorem dX12_hours_6 : decode cX12_hours 6 = .ok (.i2l, 1) := by decide +kernel
theorem dX12_hours_7 : decode cX12_hours 7 = .ok (.lconst 0, 1) := by decide +kernel
theorem dX12_hours_8 : decode cX12_hours 8 = .ok (.ldc2_w 385, 3) := by decide +kernel
theorem dX12_hours_11 : decode cX12_hours 11 = .ok (.invokestatic 143, 3) := by decide +kernel
theorem dX12_hours_14 : decode cX12_hours 14 = .ok (.ifCond .ne 5, 3) := by decide +kernel
theorem dX12_hours_17 : decode cX12_hours 17 = .ok (.iconst (-1), 1) := by decide +kernel
theorem dX12_hours_18 : decode cX12_hours 18 = .ok (.ireturn, 1) := by decide +kernel
theorem dX12_hours_19 : decode cX12_hours 19 = .ok (.aload_n 0, 1) := by decide +kernel
theorem dX12_hours_20 : decode cX12_hours 20 = .ok (.invokevirtual 367, 3) := by decide +kernel
theorem dX12_hours_23 : decode cX12_hours 23 = .ok (.iconst 0, 1) := by decide +kernel
theorem dX12_hours_24 : decode cX12_hours 24 = .ok (.istore_n 2, 1) := by decide +kernel
theorem dX12_hours_25 : decode cX12_hours 25 = .ok (.iload_n 2, 1) := by decide +kernel
theorem dX12_hours_26 : decode cX12_hours 26 = .ok (.aload_n 0, 1) := by decide +kernel
theorem dX12_hours_27 : decode cX12_hours 27 = .ok (.getfield 150, 3) := by decide +kernel
theorem dX12_hours_30 : decode cX12_hours 30 = .ok (.if_icmp .ge 16, 3) := by decide +kernel
theorem dX12_hours_33 : decode cX12_hours 33 = .ok (.aload_n 0, 1) := by decide +kernel
theorem dX12_hours_34 : decode cX12_hours 34 = .ok (.getfield 76, 3) := by decide +kernel
theorem dX12_hours_37 : decode cX12_hours 37 = .ok (.iload_n 2, 1) := by decide +kernel
theorem dX12_hours_38 : decode cX12_hours 38 = .ok (.iconst 0, 1) := by decide +kernel
theorem dX12_hours_39 : decode cX12_hours 39 = .ok (.iastore, 1) := by decide +kernel
theorem dX12_hours_40 : decode cX12_hours 40 = .ok (.iinc 2 1, 3) := by decide +kernel
theorem dX12_hours_43 : decode cX12_hours 43 = .ok (.goto (-18), 3) := by decide +kernel
theorem dX12_hours_46 : decode cX12_hours 46 = .ok (.iconst 0, 1) := by decide +kernel
theorem dX12_hours_47 : decode cX12_hours 47 = .ok (.istore_n 2, 1) := by decide +kernel
theorem dX12_hours_48 : decode cX12_hours 48 = .ok (.iload_n 2, 1) := by decide +kernel
theorem dX12_hours_49 : decode cX12_hours 49 = .ok (.iload_n 1, 1) := by decide +kernel
theorem dX12_hours_50 : decode cX12_hours 50 = .ok (.if_icmp .ge 51, 3) := by decide +kernel
theorem dX12_hours_53 : decode cX12_hours 53 = .ok (.aload_n 0, 1) := by decide +kernel
theorem dX12_hours_54 : decode cX12_hours 54 = .ok (.aload_n 0, 1) := by decide +kernel
theorem dX12_hours_55 : decode cX12_hours 55 = .ok (.getfield 49, 3) := by decide +kernel
theorem dX12_hours_58 : decode cX12_hours 58 = .ok (.invokevirtual 360, 3) := by decide +kernel
theorem dX12_hours_61 : decode cX12_hours 61 = .ok (.iconst 0, 1) := by decide +kernel
theorem dX12_hours_62 : decode cX12_hours 62 = .ok (.istore_n 3, 1) := by decide +kernel
theorem dX12_hours_63 : decode cX12_hours 63 = .ok (.iload_n 3, 1) := by decide +kernel
theorem dX12_hours_64 : decode cX12_hours 64 = .ok (.aload_n 0, 1) := by decide +kernel
theorem dX12_hours_65 : decode cX12_hours 65 = .ok (.getfield 150, 3) := by decide +kernel
theorem dX12_hours_68 : decode cX12_hours 68 = .ok (.if_icmp .ge 27, 3) := by decide +kernel
theorem dX12_hours_71 : decode cX12_hours 71 = .ok (.aload_n 0, 1) := by decide +kernel
theorem dX12_hours_72 : decode cX12_hours 72 = .ok (.getfield 76, 3) := by decide +kernel
theorem dX12_hours_75 : decode cX12_hours 75 = .ok (.iload_n 3, 1) := by decide +kernel
theorem dX12_hours_76 : decode cX12_hours 76 = .ok (.dup2, 1) := by decide +kernel
theorem dX12_hours_77 : decode cX12_hours 77 = .ok (.iaload, 1) := by decide +kernel
theorem dX12_hours_78 : decode cX12_hours 78 = .ok (.aload_n 0, 1) := by decide +kernel
theorem dX12_hours_79 : decode cX12_hours 79 = .ok (.aload_n 0, 1) := by decide +kernel
theorem dX12_hours_80 : decode cX12_hours 80 = .ok (.getfield 49, 3) := by decide +kernel
theorem dX12_hours_83 : decode cX12_hours 83 = .ok (.iload_n 3, 1) := by decide +kernel
theorem dX12_hours_84 : decode cX12_hours 84 = .ok (.invokevirtual 340, 3) := by decide +kernel
theorem dX12_hours_87 : decode cX12_hours 87 = .ok (.ior, 1) := by decide +kernel
theorem dX12_hours_88 : decode cX12_hours 88 = .ok (.iastore, 1) := by decide +kernel
theorem dX12_hours_89 : decode cX12_hours 89 = .ok (.iinc 3 1, 3) := by decide +kernel
theorem dX12_hours_92 : decode cX12_hours 92 = .ok (.goto (-29), 3) := by decide +kernel
theorem dX12_hours_95 : decode cX12_hours 95 = .ok (.iinc 2 1, 3) := by decide +kernel
theorem dX12_hours_98 : decode cX12_hours 98 = .ok (.goto (-50), 3) := by decide +kernel
theorem dX12_hours_101 : decode cX12_hours 101 = .ok (.aload_n 0, 1) := by decide +kernel
theorem dX12_hours_102 : decode cX12_hours 102 = .ok (.iconst 0, 1) := by decide +kernel
theorem dX12_hours_103 : decode cX12_hours 103 = .ok (.putfield 15, 3) := by decide +kernel
theorem dX12_hours_106 : decode cX12_hours 106 = .ok (.iconst 0, 1) := by decide +kernel
theorem dX12_hours_107 : decode cX12_hours 107 = .ok (.istore_n 2, 1) := by decide +kernel
theorem dX12_hours_108 : decode cX12_hours 108 = .ok (.iload_n 2, 1) := by decide +kernel
theorem dX12_hours_109 : decode cX12_hours 109 = .ok (.aload_n 0, 1) := by decide +kernel
theorem dX12_hours_110 : decode cX12_hours 110 = .ok (.getfield 150, 3) := by decide +kernel
theorem dX12_hours_113 : decode cX12_hours 113 = .ok (.if_icmp .ge 20, 3) := by decide +kernel
theorem dX12_hours_116 : decode cX12_hours 116 = .ok (.aload_n 0, 1) := by decide +kernel
theorem dX12_hours_117 : decode cX12_hours 117 = .ok (.aload_n 0, 1) := by decide +kernel
theorem dX12_hours_118 : decode cX12_hours 118 = .ok (.getfield 76, 3) := by decide +kernel
theorem dX12_hours_121 : decode cX12_hours 121 = .ok (.iload_n 2, 1) := by decide +kernel
theorem dX12_hours_122 : decode cX12_hours 122 = .ok (.iaload, 1) := by decide +kernel
theorem dX12_hours_123 : decode cX12_hours 123 = .ok (.i2l, 1) := by decide +kernel
theorem dX12_hours_124 : decode cX12_hours 124 = .ok (.invokevirtual 387, 3) := by decide +kernel
theorem dX12_hours_127 : decode cX12_hours 127 = .ok (.iinc 2 1, 3) := by decide +kernel
theorem dX12_hours_130 : decode cX12_hours 130 = .ok (.goto (-22), 3) := by decide +kernel
theorem dX12_hours_133 : decode cX12_hours 133 = .ok (.aload_n 0, 1) := by decide +kernel
theorem dX12_hours_134 : decode cX12_hours 134 = .ok (.aload_n 0, 1) := by decide +kernel
theorem dX12_hours_135 : decode cX12_hours 135 = .ok (.getfield 49, 3) := by decide +kernel
theorem dX12_hours_138 : decode cX12_hours 138 = .ok (.bipush 25, 2) := by decide +kernel
theorem dX12_hours_140 : decode cX12_hours 140 = .ok (.iaload, 1) := by decide +kernel
theorem dX12_hours_141 : decode cX12_hours 141 = .ok (.invokevirtual 354, 3) := by decide +kernel
theorem dX12_hours_144 : decode cX12_hours 144 = .ok (.ireturn, 1) := by decide +kernel
theorem dX12_readsAct_0 : decode cX12_readsAct 0 = .ok (.aload_n 0, 1) := by decide +kernel
theorem dX12_readsAct_1 : decode cX12_readsAct 1 = .ok (.getfield 391, 3) := by decide +kernel
theorem dX12_readsAct_4 : decode cX12_readsAct 4 = .ok (.istore_n 1, 1) := by decide +kernel
theorem dX12_readsAct_5 : decode cX12_readsAct 5 = .ok (.aload_n 0, 1) := by decide +kernel
theorem dX12_readsAct_6 : decode cX12_readsAct 6 = .ok (.getfield 79, 3) := by decide +kernel
theorem dX12_readsAct_9 : decode cX12_readsAct 9 = .ok (.iload_n 1, 1) := by decide +kernel
theorem dX12_readsAct_10 : decode cX12_readsAct 10 = .ok (.aload_n 0, 1) := by decide +kernel
theorem dX12_readsAct_11 : decode cX12_readsAct 11 = .ok (.ldc_w 394, 3) := by decide +kernel
theorem dX12_readsAct_14 : decode cX12_readsAct 14 = .ok (.invokevirtual 203, 3) := by decide +kernel
theorem dX12_readsAct_17 : decode cX12_readsAct 17 = .ok (.iastore, 1) := by decide +kernel
theorem dX12_readsAct_18 : decode cX12_readsAct 18 = .ok (.aload_n 0, 1) := by decide +kernel
theorem dX12_readsAct_19 : decode cX12_readsAct 19 = .ok (.dup, 1) := by decide +kernel
theorem dX12_readsAct_20 : decode cX12_readsAct 20 = .ok (.getfield 391, 3) := by decide +kernel
theorem dX12_readsAct_23 : decode cX12_readsAct 23 = .ok (.iconst 1, 1) := by decide +kernel
theorem dX12_readsAct_24 : decode cX12_readsAct 24 = .ok (.iadd, 1) := by decide +kernel
theorem dX12_readsAct_25 : decode cX12_readsAct 25 = .ok (.putfield 391, 3) := by decide +kernel
theorem dX12_readsAct_28 : decode cX12_readsAct 28 = .ok (.aload_n 0, 1) := by decide +kernel
theorem dX12_readsAct_29 : decode cX12_readsAct 29 = .ok (.getfield 79, 3) := by decide +kernel
theorem dX12_readsAct_32 : decode cX12_readsAct 32 = .ok (.iload_n 1, 1) := by decide +kernel
theorem dX12_readsAct_33 : decode cX12_readsAct 33 = .ok (.iaload, 1) := by decide +kernel
theorem dX12_readsAct_34 : decode cX12_readsAct 34 = .ok (.ifCond .ge 5, 3) := by decide +kernel
theorem dX12_readsAct_37 : decode cX12_readsAct 37 = .ok (.iconst 0, 1) := by decide +kernel
theorem dX12_readsAct_38 : decode cX12_readsAct 38 = .ok (.ireturn, 1) := by decide +kernel
theorem dX12_readsAct_39 : decode cX12_readsAct 39 = .ok (.aload_n 0, 1) := by decide +kernel
theorem dX12_readsAct_40 : decode cX12_readsAct 40 = .ok (.getfield 82, 3) := by decide +kernel
theorem dX12_readsAct_43 : decode cX12_readsAct 43 = .ok (.iload_n 1, 1) := by decide +kernel
theorem dX12_readsAct_44 : decode cX12_readsAct 44 = .ok (.aload_n 0, 1) := by decide +kernel
theorem dX12_readsAct_45 : decode cX12_readsAct 45 = .ok (.iconst 1, 1) := by decide +kernel
theorem dX12_readsAct_46 : decode cX12_readsAct 46 = .ok (.invokevirtual 221, 3) := by decide +kernel
theorem dX12_readsAct_49 : decode cX12_readsAct 49 = .ok (.iastore, 1) := by decide +kernel
theorem dX12_readsAct_50 : decode cX12_readsAct 50 = .ok (.aload_n 0, 1) := by decide +kernel
theorem dX12_readsAct_51 : decode cX12_readsAct 51 = .ok (.getfield 79, 3) := by decide +kernel
theorem dX12_readsAct_54 : decode cX12_readsAct 54 = .ok (.iload_n 1, 1) := by decide +kernel
theorem dX12_readsAct_55 : decode cX12_readsAct 55 = .ok (.iaload, 1) := by decide +kernel
theorem dX12_readsAct_56 : decode cX12_readsAct 56 = .ok (.iconst 1, 1) := by decide +kernel
theorem dX12_readsAct_57 : decode cX12_readsAct 57 = .ok (.if_icmp .eq 13, 3) := by decide +kernel
theorem dX12_readsAct_60 : decode cX12_readsAct 60 = .ok (.aload_n 0, 1) := by decide +kernel
theorem dX12_readsAct_61 : decode cX12_readsAct 61 = .ok (.getfield 79, 3) := by decide +kernel
theorem dX12_readsAct_64 : decode cX12_readsAct 64 = .ok (.iload_n 1, 1) := by decide +kernel
theorem dX12_readsAct_65 : decode cX12_readsAct 65 = .ok (.iaload, 1) := by decide +kernel
theorem dX12_readsAct_66 : decode cX12_readsAct 66 = .ok (.iconst 4, 1) := by decide +kernel
theorem dX12_readsAct_67 : decode cX12_readsAct 67 = .ok (.if_icmp .ne 7, 3) := by decide +kernel
theorem dX12_readsAct_70 : decode cX12_readsAct 70 = .ok (.iconst 1, 1) := by decide +kernel
theorem dX12_readsAct_71 : decode cX12_readsAct 71 = .ok (.goto 4, 3) := by decide +kernel
theorem dX12_readsAct_74 : decode cX12_readsAct 74 = .ok (.iconst 0, 1) := by decide +kernel
theorem dX12_readsAct_75 : decode cX12_readsAct 75 = .ok (.istore_n 2, 1) := by decide +kernel
theorem dX12_readsAct_76 : decode cX12_readsAct 76 = .ok (.aload_n 0, 1) := by decide +kernel
theorem dX12_readsAct_77 : decode cX12_readsAct 77 = .ok (.getfield 85, 3) := by decide +kernel
theorem dX12_readsAct_80 : decode cX12_readsAct 80 = .ok (.iload_n 1, 1) := by decide +kernel
theorem dX12_readsAct_81 : decode cX12_readsAct 81 = .ok (.aload_n 0, 1) := by decide +kernel
theorem dX12_readsAct_82 : decode cX12_readsAct 82 = .ok (.getfield 82, 3) := by decide +kernel
theorem dX12_readsAct_85 : decode cX12_readsAct 85 = .ok (.iload_n 1, 1) := by decide +kernel
theorem dX12_readsAct_86 : decode cX12_readsAct 86 = .ok (.iaload, 1) := by decide +kernel
theorem dX12_readsAct_87 : decode cX12_readsAct 87 = .ok (.ifCond .ge 7, 3) := by decide +kernel
theorem dX12_readsAct_90 : decode cX12_readsAct 90 = .ok (.iconst (-1), 1) := by decide +kernel
theorem dX12_readsAct_91 : decode cX12_readsAct 91 = .ok (.goto 16, 3) := by decide +kernel
theorem dX12_readsAct_94 : decode cX12_readsAct 94 = .ok (.iload_n 2, 1) := by decide +kernel
theorem dX12_readsAct_95 : decode cX12_readsAct 95 = .ok (.ifCond .eq 11, 3) := by decide +kernel
theorem dX12_readsAct_98 : decode cX12_readsAct 98 = .ok (.aload_n 0, 1) := by decide +kernel
theorem dX12_readsAct_99 : decode cX12_readsAct 99 = .ok (.iconst 1, 1) := by decide +kernel
theorem dX12_readsAct_100 : decode cX12_readsAct 100 = .ok (.invokevirtual 221, 3) := by decide +kernel
theorem dX12_readsAct_103 : decode cX12_readsAct 103 = .ok (.goto 4, 3) := by decide +kernel
theorem dX12_readsAct_106 : decode cX12_readsAct 106 = .ok (.iconst 0, 1) := by decide +kernel
theorem dX12_readsAct_107 : decode cX12_readsAct 107 = .ok (.iastore, 1) := by decide +kernel
theorem dX12_readsAct_108 : decode cX12_readsAct 108 = .ok (.aload_n 0, 1) := by decide +kernel
theorem dX12_readsAct_109 : decode cX12_readsAct 109 = .ok (.getfield 85, 3) := by decide +kernel
theorem dX12_readsAct_112 : decode cX12_readsAct 112 = .ok (.iload_n 1, 1) := by decide +kernel
theorem dX12_readsAct_113 : decode cX12_readsAct 113 = .ok (.iaload, 1) := by decide +kernel
theorem dX12_readsAct_114 : decode cX12_readsAct 114 = .ok (.ifCond .lt 13, 3) := by decide +kernel
theorem dX12_readsAct_117 : decode cX12_readsAct 117 = .ok (.aload_n 0, 1) := by decide +kernel
theorem dX12_readsAct_118 : decode cX12_readsAct 118 = .ok (.getfield 79, 3) := by decide +kernel
theorem dX12_readsAct_121 : decode cX12_readsAct 121 = .ok (.iload_n 1, 1) := by decide +kernel
theorem dX12_readsAct_122 : decode cX12_readsAct 122 = .ok (.iaload, 1) := by decide +kernel
theorem dX12_readsAct_123 : decode cX12_readsAct 123 = .ok (.iconst 4, 1) := by decide +kernel
theorem dX12_readsAct_124 : decode cX12_readsAct 124 = .ok (.if_icmp .eq 18, 3) := by decide +kernel
theorem dX12_readsAct_127 : decode cX12_readsAct 127 = .ok (.aload_n 0, 1) := by decide +kernel
theorem dX12_readsAct_128 : decode cX12_readsAct 128 = .ok (.getfield 85, 3) := by decide +kernel
theorem dX12_readsAct_131 : decode cX12_readsAct 131 = .ok (.iload_n 1, 1) := by decide +kernel
theorem dX12_readsAct_132 : decode cX12_readsAct 132 = .ok (.iaload, 1) := by decide +kernel
theorem dX12_readsAct_133 : decode cX12_readsAct 133 = .ok (.ifCond .lt 7, 3) := by decide +kernel
theorem dX12_readsAct_136 : decode cX12_readsAct 136 = .ok (.iconst 1, 1) := by decide +kernel
theorem dX12_readsAct_137 : decode cX12_readsAct 137 = .ok (.goto 4, 3) := by decide +kernel
theorem dX12_readsAct_140 : decode cX12_readsAct 140 = .ok (.iconst 0, 1) := by decide +kernel
theorem dX12_readsAct_141 : decode cX12_readsAct 141 = .ok (.ireturn, 1) := by decide +kernel
theorem dX12_readsAct_142 : decode cX12_readsAct 142 = .ok (.aload_n 0, 1) := by decide +kernel
theorem dX12_readsAct_143 : decode cX12_readsAct 143 = .ok (.getfield 88, 3) := by decide +kernel
theorem dX12_readsAct_146 : decode cX12_readsAct 146 = .ok (.iload_n 1, 1) := by decide +kernel
theorem dX12_readsAct_147 : decode cX12_readsAct 147 = .ok (.aload_n 0, 1) := by decide +kernel
theorem dX12_readsAct_148 : decode cX12_readsAct 148 = .ok (.iconst 1, 1) := by decide +kernel
theorem dX12_readsAct_149 : decode cX12_readsAct 149 = .ok (.invokevirtual 221, 3) := by decide +kernel
theorem dX12_readsAct_152 : decode cX12_readsAct 152 = .ok (.iastore, 1) := by decide +kernel
theorem dX12_readsAct_153 : decode cX12_readsAct 153 = .ok (.aload_n 0, 1) := by decide +kernel
theorem dX12_readsAct_154 : decode cX12_readsAct 154 = .ok (.getfield 91, 3) := by decide +kernel
theorem dX12_readsAct_157 : decode cX12_readsAct 157 = .ok (.iload_n 1, 1) := by decide +kernel
theorem dX12_readsAct_158 : decode cX12_readsAct 158 = .ok (.aload_n 0, 1) := by decide +kernel
theorem dX12_readsAct_159 : decode cX12_readsAct 159 = .ok (.getfield 88, 3) := by decide +kernel
theorem dX12_readsAct_162 : decode cX12_readsAct 162 = .ok (.iload_n 1, 1) := by decide +kernel
theorem dX12_readsAct_163 : decode cX12_readsAct 163 = .ok (.iaload, 1) := by decide +kernel
theorem dX12_readsAct_164 : decode cX12_readsAct 164 = .ok (.ifCond .ge 7, 3) := by decide +kernel
theorem dX12_readsAct_167 : decode cX12_readsAct 167 = .ok (.iconst (-1), 1) := by decide +kernel
theorem dX12_readsAct_168 : decode cX12_readsAct 168 = .ok (.goto 9, 3) := by decide +kernel
theorem dX12_readsAct_171 : decode cX12_readsAct 171 = .ok (.aload_n 0, 1) := by decide +kernel
theorem dX12_readsAct_172 : decode cX12_readsAct 172 = .ok (.ldc 227, 2) := by decide +kernel
theorem dX12_readsAct_174 : decode cX12_readsAct 174 = .ok (.invokevirtual 203, 3) := by decide +kernel
theorem dX12_readsAct_177 : decode cX12_readsAct 177 = .ok (.iastore, 1) := by decide +kernel
theorem dX12_readsAct_178 : decode cX12_readsAct 178 = .ok (.aload_n 0, 1) := by decide +kernel
theorem dX12_readsAct_179 : decode cX12_readsAct 179 = .ok (.getfield 91, 3) := by decide +kernel
theorem dX12_readsAct_182 : decode cX12_readsAct 182 = .ok (.iload_n 1, 1) := by decide +kernel
theorem dX12_readsAct_183 : decode cX12_readsAct 183 = .ok (.iaload, 1) := by decide +kernel
theorem dX12_readsAct_184 : decode cX12_readsAct 184 = .ok (.ifCond .lt 7, 3) := by decide +kernel
theorem dX12_readsAct_187 : decode cX12_readsAct 187 = .ok (.iconst 1, 1) := by decide +kernel
theorem dX12_readsAct_188 : decode cX12_readsAct 188 = .ok (.goto 4, 3) := by decide +kernel
theorem dX12_readsAct_191 : decode cX12_readsAct 191 = .ok (.iconst 0, 1) := by decide +kernel
theorem dX12_readsAct_192 : decode cX12_readsAct 192 = .ok (.ireturn, 1) := by decide +kernel
theorem dX12_does_0 : decode cX12_does 0 = .ok (.aload_n 0, 1) := by decide +kernel
theorem dX12_does_1 : decode cX12_does 1 = .ok (.getfield 82, 3) := by decide +kernel
theorem dX12_does_4 : decode cX12_does 4 = .ok (.iload_n 1, 1) := by decide +kernel
theorem dX12_does_5 : decode cX12_does 5 = .ok (.iaload, 1) := by decide +kernel
theorem dX12_does_6 : decode cX12_does 6 = .ok (.istore_n 2, 1) := by decide +kernel
theorem dX12_does_7 : decode cX12_does 7 = .ok (.aload_n 0, 1) := by decide +kernel
theorem dX12_does_8 : decode cX12_does 8 = .ok (.getfield 79, 3) := by decide +kernel
theorem dX12_does_11 : decode cX12_does 11 = .ok (.iload_n 1, 1) := by decide +kernel
theorem dX12_does_12 : decode cX12_does 12 = .ok (.iaload, 1) := by decide +kernel
theorem dX12_does_13 : decode cX12_does 13 = .ok (.tableswitch 98 0 3 #[31, 42, 66, 80], 31) := by decide +kernel
theorem dX12_does_44 : decode cX12_does 44 = .ok (.aload_n 0, 1) := by decide +kernel
theorem dX12_does_45 : decode cX12_does 45 = .ok (.aload_n 0, 1) := by decide +kernel
theorem dX12_does_46 : decode cX12_does 46 = .ok (.getfield 49, 3) := by decide +kernel
theorem dX12_does_49 : decode cX12_does 49 = .ok (.iload_n 2, 1) := by decide +kernel
theorem dX12_does_50 : decode cX12_does 50 = .ok (.invokevirtual 396, 3) := by decide +kernel
theorem dX12_does_53 : decode cX12_does 53 = .ok (.iconst 1, 1) := by decide +kernel
theorem dX12_does_54 : decode cX12_does 54 = .ok (.ireturn, 1) := by decide +kernel
theorem dX12_does_55 : decode cX12_does 55 = .ok (.aload_n 0, 1) := by decide +kernel
theorem dX12_does_56 : decode cX12_does 56 = .ok (.aload_n 0, 1) := by decide +kernel
theorem dX12_does_57 : decode cX12_does 57 = .ok (.getfield 49, 3) := by decide +kernel
theorem dX12_does_60 : decode cX12_does 60 = .ok (.iload_n 2, 1) := by decide +kernel
theorem dX12_does_61 : decode cX12_does 61 = .ok (.aload_n 0, 1) := by decide +kernel
theorem dX12_does_62 : decode cX12_does 62 = .ok (.getfield 85, 3) := by decide +kernel
theorem dX12_does_65 : decode cX12_does 65 = .ok (.iload_n 1, 1) := by decide +kernel
theorem dX12_does_66 : decode cX12_does 66 = .ok (.iaload, 1) := by decide +kernel
theorem dX12_does_67 : decode cX12_does 67 = .ok (.invokevirtual 370, 3) := by decide +kernel
theorem dX12_does_70 : decode cX12_does 70 = .ok (.ifCond .lt 7, 3) := by decide +kernel
theorem dX12_does_73 : decode cX12_does 73 = .ok (.iconst 1, 1) := by decide +kernel
theorem dX12_does_74 : decode cX12_does 74 = .ok (.goto 4, 3) := by decide +kernel
theorem dX12_does_77 : decode cX12_does 77 = .ok (.iconst 0, 1) := by decide +kernel
theorem dX12_does_78 : decode cX12_does 78 = .ok (.ireturn, 1) := by decide +kernel
theorem dX12_does_79 : decode cX12_does 79 = .ok (.aload_n 0, 1) := by decide +kernel
theorem dX12_does_80 : decode cX12_does 80 = .ok (.iload_n 2, 1) := by decide +kernel
theorem dX12_does_81 : decode cX12_does 81 = .ok (.invokevirtual 376, 3) := by decide +kernel
theorem dX12_does_84 : decode cX12_does 84 = .ok (.ifCond .lt 7, 3) := by decide +kernel
theorem dX12_does_87 : decode cX12_does 87 = .ok (.iconst 1, 1) := by decide +kernel
theorem dX12_does_88 : decode cX12_does 88 = .ok (.goto 4, 3) := by decide +kernel
theorem dX12_does_91 : decode cX12_does 91 = .ok (.iconst 0, 1) := by decide +kernel
theorem dX12_does_92 : decode cX12_does 92 = .ok (.ireturn, 1) := by decide +kernel
theorem dX12_does_93 : decode cX12_does 93 = .ok (.aload_n 0, 1) := by decide +kernel
theorem dX12_does_94 : decode cX12_does 94 = .ok (.aload_n 0, 1) := by decide +kernel
theorem dX12_does_95 : decode cX12_does 95 = .ok (.getfield 49, 3) := by decide +kernel
theorem dX12_does_98 : decode cX12_does 98 = .ok (.iload_n 2, 1) := by decide +kernel
theorem dX12_does_99 : decode cX12_does 99 = .ok (.invokevirtual 379, 3) := by decide +kernel
theorem dX12_does_102 : decode cX12_does 102 = .ok (.ifCond .lt 7, 3) := by decide +kernel
theorem dX12_does_105 : decode cX12_does 105 = .ok (.iconst 1, 1) := by decide +kernel
theorem dX12_does_106 : decode cX12_does 106 = .ok (.goto 4, 3) := by decide +kernel
theorem dX12_does_109 : decode cX12_does 109 = .ok (.iconst 0, 1) := by decide +kernel
theorem dX12_does_110 : decode cX12_does 110 = .ok (.ireturn, 1) := by decide +kernel
theorem dX12_does_111 : decode cX12_does 111 = .ok (.aload_n 0, 1) := by decide +kernel
theorem dX12_does_112 : decode cX12_does 112 = .ok (.getfield 85, 3) := by decide +kernel
theorem dX12_does_115 : decode cX12_does 115 = .ok (.iload_n 1, 1) := by decide +kernel
theorem dX12_does_116 : decode cX12_does 116 = .ok (.iaload, 1) := by decide +kernel
theorem dX12_does_117 : decode cX12_does 117 = .ok (.aload_n 0, 1) := by decide +kernel
theorem dX12_does_118 : decode cX12_does 118 = .ok (.getfield 24, 3) := by decide +kernel
theorem dX12_does_121 : decode cX12_does 121 = .ok (.if_icmp .ge 20, 3) := by decide +kernel
theorem dX12_does_124 : decode cX12_does 124 = .ok (.aload_n 0, 1) := by decide +kernel
theorem dX12_does_125 : decode cX12_does 125 = .ok (.getfield 88, 3) := by decide +kernel
theorem dX12_does_128 : decode cX12_does 128 = .ok (.iload_n 1, 1) := by decide +kernel
theorem dX12_does_129 : decode cX12_does 129 = .ok (.iaload, 1) := by decide +kernel
theorem dX12_does_130 : decode cX12_does 130 = .ok (.aload_n 0, 1) := by decide +kernel
theorem dX12_does_131 : decode cX12_does 131 = .ok (.getfield 27, 3) := by decide +kernel
theorem dX12_does_134 : decode cX12_does 134 = .ok (.if_icmp .ge 7, 3) := by decide +kernel
theorem dX12_does_137 : decode cX12_does 137 = .ok (.iconst 1, 1) := by decide +kernel
theorem dX12_does_138 : decode cX12_does 138 = .ok (.goto 4, 3) := by decide +kernel
theorem dX12_does_141 : decode cX12_does 141 = .ok (.iconst 0, 1) := by decide +kernel
theorem dX12_does_142 : decode cX12_does 142 = .ok (.istore_n 3, 1) := by decide +kernel
theorem dX12_does_143 : decode cX12_does 143 = .ok (.iload_n 3, 1) := by decide +kernel
theorem dX12_does_144 : decode cX12_does 144 = .ok (.ifCond .eq 39, 3) := by decide +kernel
theorem dX12_does_147 : decode cX12_does 147 = .ok (.aload_n 0, 1) := by decide +kernel
theorem dX12_does_148 : decode cX12_does 148 = .ok (.iload_n 2, 1) := by decide +kernel
theorem dX12_does_149 : decode cX12_does 149 = .ok (.aload_n 0, 1) := by decide +kernel
theorem dX12_does_150 : decode cX12_does 150 = .ok (.getfield 27, 3) := by decide +kernel
theorem dX12_does_153 : decode cX12_does 153 = .ok (.aload_n 0, 1) := by decide +kernel
theorem dX12_does_154 : decode cX12_does 154 = .ok (.getfield 85, 3) := by decide +kernel
theorem dX12_does_157 : decode cX12_does 157 = .ok (.iload_n 1, 1) := by decide +kernel
theorem dX12_does_158 : decode cX12_does 158 = .ok (.iaload, 1) := by decide +kernel
theorem dX12_does_159 : decode cX12_does 159 = .ok (.imul, 1) := by decide +kernel
theorem dX12_does_160 : decode cX12_does 160 = .ok (.aload_n 0, 1) := by decide +kernel
theorem dX12_does_161 : decode cX12_does 161 = .ok (.getfield 88, 3) := by decide +kernel
theorem dX12_does_164 : decode cX12_does 164 = .ok (.iload_n 1, 1) := by decide +kernel
theorem dX12_does_165 : decode cX12_does 165 = .ok (.iaload, 1) := by decide +kernel
theorem dX12_does_166 : decode cX12_does 166 = .ok (.iadd, 1) := by decide +kernel
theorem dX12_does_167 : decode cX12_does 167 = .ok (.aload_n 0, 1) := by decide +kernel
theorem dX12_does_168 : decode cX12_does 168 = .ok (.getfield 91, 3) := by decide +kernel
theorem dX12_does_171 : decode cX12_does 171 = .ok (.iload_n 1, 1) := by decide +kernel
theorem dX12_does_172 : decode cX12_does 172 = .ok (.iaload, 1) := by decide +kernel
theorem dX12_does_173 : decode cX12_does 173 = .ok (.invokevirtual 382, 3) := by decide +kernel
theorem dX12_does_176 : decode cX12_does 176 = .ok (.ifCond .lt 7, 3) := by decide +kernel
theorem dX12_does_179 : decode cX12_does 179 = .ok (.iconst 1, 1) := by decide +kernel
theorem dX12_does_180 : decode cX12_does 180 = .ok (.goto 4, 3) := by decide +kernel
theorem dX12_does_183 : decode cX12_does 183 = .ok (.iconst 0, 1) := by decide +kernel
theorem dX12_does_184 : decode cX12_does 184 = .ok (.ireturn, 1) := by decide +kernel
theorem dX12_day_0 : decode cX12_day 0 = .ok (.aload_n 0, 1) := by decide +kernel
theorem dX12_day_1 : decode cX12_day 1 = .ok (.iconst 0, 1) := by decide +kernel
theorem dX12_day_2 : decode cX12_day 2 = .ok (.putfield 3, 3) := by decide +kernel
theorem dX12_day_5 : decode cX12_day 5 = .ok (.aload_n 0, 1) := by decide +kernel
theorem dX12_day_6 : decode cX12_day 6 = .ok (.bipush 60, 2) := by decide +kernel
theorem dX12_day_8 : decode cX12_day 8 = .ok (.invokevirtual 206, 3) := by decide +kernel
theorem dX12_day_11 : decode cX12_day 11 = .ok (.istore_n 1, 1) := by decide +kernel
theorem dX12_day_12 : decode cX12_day 12 = .ok (.aload_n 0, 1) := by decide +kernel
theorem dX12_day_13 : decode cX12_day 13 = .ok (.iconst 0, 1) := by decide +kernel
theorem dX12_day_14 : decode cX12_day 14 = .ok (.putfield 391, 3) := by decide +kernel
theorem dX12_day_17 : decode cX12_day 17 = .ok (.iconst 1, 1) := by decide +kernel
theorem dX12_day_18 : decode cX12_day 18 = .ok (.istore_n 2, 1) := by decide +kernel
theorem dX12_day_19 : decode cX12_day 19 = .ok (.iload_n 2, 1) := by decide +kernel
theorem dX12_day_20 : decode cX12_day 20 = .ok (.ifCond .eq 22, 3) := by decide +kernel
theorem dX12_day_23 : decode cX12_day 23 = .ok (.aload_n 0, 1) := by decide +kernel
theorem dX12_day_24 : decode cX12_day 24 = .ok (.getfield 162, 3) := by decide +kernel
theorem dX12_day_27 : decode cX12_day 27 = .ok (.aload_n 0, 1) := by decide +kernel
theorem dX12_day_28 : decode cX12_day 28 = .ok (.getfield 172, 3) := by decide +kernel
theorem dX12_day_31 : decode cX12_day 31 = .ok (.if_icmp .ge 11, 3) := by decide +kernel
theorem dX12_day_34 : decode cX12_day 34 = .ok (.aload_n 0, 1) := by decide +kernel
theorem dX12_day_35 : decode cX12_day 35 = .ok (.invokevirtual 399, 3) := by decide +kernel
theorem dX12_day_38 : decode cX12_day 38 = .ok (.istore_n 2, 1) := by decide +kernel
theorem dX12_day_39 : decode cX12_day 39 = .ok (.goto (-20), 3) := by decide +kernel
theorem dX12_day_42 : decode cX12_day 42 = .ok (.aload_n 0, 1) := by decide +kernel
theorem dX12_day_43 : decode cX12_day 43 = .ok (.iload_n 1, 1) := by decide +kernel
theorem dX12_day_44 : decode cX12_day 44 = .ok (.bipush 60, 2) := by decide +kernel
theorem dX12_day_46 : decode cX12_day 46 = .ok (.iload_n 2, 1) := by decide +kernel
theorem dX12_day_47 : decode cX12_day 47 = .ok (.invokevirtual 248, 3) := by decide +kernel
theorem dX12_day_50 : decode cX12_day 50 = .ok (.istore_n 3, 1) := by decide +kernel
theorem dX12_day_51 : decode cX12_day 51 = .ok (.iload_n 3, 1) := by decide +kernel
theorem dX12_day_52 : decode cX12_day 52 = .ok (.ifCond .ge 5, 3) := by decide +kernel
theorem dX12_day_55 : decode cX12_day 55 = .ok (.iload_n 3, 1) := by decide +kernel
theorem dX12_day_56 : decode cX12_day 56 = .ok (.ireturn, 1) := by decide +kernel
theorem dX12_day_57 : decode cX12_day 57 = .ok (.aload_n 0, 1) := by decide +kernel
theorem dX12_day_58 : decode cX12_day 58 = .ok (.invokevirtual 367, 3) := by decide +kernel
theorem dX12_day_61 : decode cX12_day 61 = .ok (.iconst 0, 1) := by decide +kernel
theorem dX12_day_62 : decode cX12_day 62 = .ok (.istore 4, 2) := by decide +kernel
theorem dX12_day_64 : decode cX12_day 64 = .ok (.iload 4, 2) := by decide +kernel
theorem dX12_day_66 : decode cX12_day 66 = .ok (.aload_n 0, 1) := by decide +kernel
theorem dX12_day_67 : decode cX12_day 67 = .ok (.getfield 391, 3) := by decide +kernel
theorem dX12_day_70 : decode cX12_day 70 = .ok (.if_icmp .ge 18, 3) := by decide +kernel
theorem dX12_day_73 : decode cX12_day 73 = .ok (.aload_n 0, 1) := by decide +kernel
theorem dX12_day_74 : decode cX12_day 74 = .ok (.iload 4, 2) := by decide +kernel
theorem dX12_day_76 : decode cX12_day 76 = .ok (.invokevirtual 402, 3) := by decide +kernel
theorem dX12_day_79 : decode cX12_day 79 = .ok (.ifCond .eq 9, 3) := by decide +kernel
theorem dX12_day_82 : decode cX12_day 82 = .ok (.iinc 4 1, 3) := by decide +kernel
theorem dX12_day_85 : decode cX12_day 85 = .ok (.goto (-21), 3) := by decide +kernel
theorem dX12_day_88 : decode cX12_day 88 = .ok (.aload_n 0, 1) := by decide +kernel
theorem dX12_day_89 : decode cX12_day 89 = .ok (.iconst 0, 1) := by decide +kernel
theorem dX12_day_90 : decode cX12_day 90 = .ok (.putfield 15, 3) := by decide +kernel
theorem dX12_day_93 : decode cX12_day 93 = .ok (.aload_n 0, 1) := by decide +kernel
theorem dX12_day_94 : decode cX12_day 94 = .ok (.iload 4, 2) := by decide +kernel
theorem dX12_day_96 : decode cX12_day 96 = .ok (.aload_n 0, 1) := by decide +kernel
theorem dX12_day_97 : decode cX12_day 97 = .ok (.getfield 391, 3) := by decide +kernel
theorem dX12_day_100 : decode cX12_day 100 = .ok (.if_icmp .ge 7, 3) := by decide +kernel
theorem dX12_day_103 : decode cX12_day 103 = .ok (.iconst 1, 1) := by decide +kernel
theorem dX12_day_104 : decode cX12_day 104 = .ok (.goto 4, 3) := by decide +kernel
theorem dX12_day_107 : decode cX12_day 107 = .ok (.iconst 0, 1) := by decide +kernel
theorem dX12_day_108 : decode cX12_day 108 = .ok (.invokestatic 175, 3) := by decide +kernel
theorem dX12_day_111 : decode cX12_day 111 = .ok (.i2l, 1) := by decide +kernel
theorem dX12_day_112 : decode cX12_day 112 = .ok (.invokevirtual 387, 3) := by decide +kernel
theorem dX12_day_115 : decode cX12_day 115 = .ok (.aload_n 0, 1) := by decide +kernel
theorem dX12_day_116 : decode cX12_day 116 = .ok (.aload_n 0, 1) := by decide +kernel
theorem dX12_day_117 : decode cX12_day 117 = .ok (.getfield 49, 3) := by decide +kernel
theorem dX12_day_120 : decode cX12_day 120 = .ok (.bipush 25, 2) := by decide +kernel
theorem dX12_day_122 : decode cX12_day 122 = .ok (.iaload, 1) := by decide +kernel
theorem dX12_day_123 : decode cX12_day 123 = .ok (.i2l, 1) := by decide +kernel
theorem dX12_day_124 : decode cX12_day 124 = .ok (.invokevirtual 387, 3) := by decide +kernel
theorem dX12_day_127 : decode cX12_day 127 = .ok (.iload 4, 2) := by decide +kernel
theorem dX12_day_129 : decode cX12_day 129 = .ok (.ifCond .le 12, 3) := by decide +kernel
theorem dX12_day_132 : decode cX12_day 132 = .ok (.aload_n 0, 1) := by decide +kernel
theorem dX12_day_133 : decode cX12_day 133 = .ok (.iload 4, 2) := by decide +kernel
theorem dX12_day_135 : decode cX12_day 135 = .ok (.invokevirtual 354, 3) := by decide +kernel
theorem dX12_day_138 : decode cX12_day 138 = .ok (.goto 4, 3) := by decide +kernel
theorem dX12_day_141 : decode cX12_day 141 = .ok (.iconst 0, 1) := by decide +kernel
theorem dX12_day_142 : decode cX12_day 142 = .ok (.ireturn, 1) := by decide +kernel
theorem dX12_copies_0 : decode cX12_copies 0 = .ok (.iconst 0, 1) := by decide +kernel
theorem dX12_copies_1 : decode cX12_copies 1 = .ok (.istore_n 1, 1) := by decide +kernel
theorem dX12_copies_2 : decode cX12_copies 2 = .ok (.iload_n 1, 1) := by decide +kernel
theorem dX12_copies_3 : decode cX12_copies 3 = .ok (.bipush 26, 2) := by decide +kernel
theorem dX12_copies_5 : decode cX12_copies 5 = .ok (.if_icmp .ge 21, 3) := by decide +kernel
theorem dX12_copies_8 : decode cX12_copies 8 = .ok (.aload_n 0, 1) := by decide +kernel
theorem dX12_copies_9 : decode cX12_copies 9 = .ok (.getfield 52, 3) := by decide +kernel
theorem dX12_copies_12 : decode cX12_copies 12 = .ok (.iload_n 1, 1) := by decide +kernel
theorem dX12_copies_13 : decode cX12_copies 13 = .ok (.aload_n 0, 1) := by decide +kernel
theorem dX12_copies_14 : decode cX12_copies 14 = .ok (.getfield 49, 3) := by decide +kernel
theorem dX12_copies_17 : decode cX12_copies 17 = .ok (.iload_n 1, 1) := by decide +kernel
theorem dX12_copies_18 : decode cX12_copies 18 = .ok (.iaload, 1) := by decide +kernel
theorem dX12_copies_19 : decode cX12_copies 19 = .ok (.iastore, 1) := by decide +kernel
theorem dX12_copies_20 : decode cX12_copies 20 = .ok (.iinc 1 1, 3) := by decide +kernel
theorem dX12_copies_23 : decode cX12_copies 23 = .ok (.goto (-21), 3) := by decide +kernel
theorem dX12_copies_26 : decode cX12_copies 26 = .ok (.return_, 1) := by decide +kernel
theorem dX12_ahead_0 : decode cX12_ahead 0 = .ok (.aload_n 0, 1) := by decide +kernel
theorem dX12_ahead_1 : decode cX12_ahead 1 = .ok (.iconst 0, 1) := by decide +kernel
theorem dX12_ahead_2 : decode cX12_ahead 2 = .ok (.putfield 3, 3) := by decide +kernel
theorem dX12_ahead_5 : decode cX12_ahead 5 = .ok (.aload_n 0, 1) := by decide +kernel
theorem dX12_ahead_6 : decode cX12_ahead 6 = .ok (.iload_n 1, 1) := by decide +kernel
theorem dX12_ahead_7 : decode cX12_ahead 7 = .ok (.invokevirtual 346, 3) := by decide +kernel
theorem dX12_ahead_10 : decode cX12_ahead 10 = .ok (.ifCond .eq 15, 3) := by decide +kernel
theorem dX12_ahead_13 : decode cX12_ahead 13 = .ok (.iload_n 2, 1) := by decide +kernel
theorem dX12_ahead_14 : decode cX12_ahead 14 = .ok (.i2l, 1) := by decide +kernel
theorem dX12_ahead_15 : decode cX12_ahead 15 = .ok (.lconst 0, 1) := by decide +kernel
theorem dX12_ahead_16 : decode cX12_ahead 16 = .ok (.ldc2_w 405, 3) := by decide +kernel
theorem dX12_ahead_19 : decode cX12_ahead 19 = .ok (.invokestatic 143, 3) := by decide +kernel
theorem dX12_ahead_22 : decode cX12_ahead 22 = .ok (.ifCond .ne 5, 3) := by decide +kernel
theorem dX12_ahead_25 : decode cX12_ahead 25 = .ok (.iconst (-1), 1) := by decide +kernel
theorem dX12_ahead_26 : decode cX12_ahead 26 = .ok (.ireturn, 1) := by decide +kernel
theorem dX12_ahead_27 : decode cX12_ahead 27 = .ok (.aload_n 0, 1) := by decide +kernel
theorem dX12_ahead_28 : decode cX12_ahead 28 = .ok (.invokevirtual 407, 3) := by decide +kernel
theorem dX12_ahead_31 : decode cX12_ahead 31 = .ok (.aload_n 0, 1) := by decide +kernel
theorem dX12_ahead_32 : decode cX12_ahead 32 = .ok (.aload_n 0, 1) := by decide +kernel
theorem dX12_ahead_33 : decode cX12_ahead 33 = .ok (.getfield 52, 3) := by decide +kernel
theorem dX12_ahead_36 : decode cX12_ahead 36 = .ok (.iload_n 2, 1) := by decide +kernel
theorem dX12_ahead_37 : decode cX12_ahead 37 = .ok (.invokevirtual 396, 3) := by decide +kernel
theorem dX12_ahead_40 : decode cX12_ahead 40 = .ok (.aload_n 0, 1) := by decide +kernel
theorem dX12_ahead_41 : decode cX12_ahead 41 = .ok (.aload_n 0, 1) := by decide +kernel
theorem dX12_ahead_42 : decode cX12_ahead 42 = .ok (.getfield 52, 3) := by decide +kernel
theorem dX12_ahead_45 : decode cX12_ahead 45 = .ok (.iload_n 1, 1) := by decide +kernel
theorem dX12_ahead_46 : decode cX12_ahead 46 = .ok (.invokevirtual 340, 3) := by decide +kernel
theorem dX12_ahead_49 : decode cX12_ahead 49 = .ok (.istore_n 3, 1) := by decide +kernel
theorem dX12_ahead_50 : decode cX12_ahead 50 = .ok (.aload_n 0, 1) := by decide +kernel
theorem dX12_ahead_51 : decode cX12_ahead 51 = .ok (.iconst 0, 1) := by decide +kernel
theorem dX12_ahead_52 : decode cX12_ahead 52 = .ok (.putfield 15, 3) := by decide +kernel
theorem dX12_ahead_55 : decode cX12_ahead 55 = .ok (.aload_n 0, 1) := by decide +kernel
theorem dX12_ahead_56 : decode cX12_ahead 56 = .ok (.iload_n 3, 1) := by decide +kernel
theorem dX12_ahead_57 : decode cX12_ahead 57 = .ok (.invokestatic 300, 3) := by decide +kernel
theorem dX12_ahead_60 : decode cX12_ahead 60 = .ok (.i2l, 1) := by decide +kernel
theorem dX12_ahead_61 : decode cX12_ahead 61 = .ok (.invokevirtual 387, 3) := by decide +kernel
theorem dX12_ahead_64 : decode cX12_ahead 64 = .ok (.aload_n 0, 1) := by decide +kernel
theorem dX12_ahead_65 : decode cX12_ahead 65 = .ok (.aload_n 0, 1) := by decide +kernel
theorem dX12_ahead_66 : decode cX12_ahead 66 = .ok (.aload_n 0, 1) := by decide +kernel
theorem dX12_ahead_67 : decode cX12_ahead 67 = .ok (.getfield 52, 3) := by decide +kernel
theorem dX12_ahead_70 : decode cX12_ahead 70 = .ok (.iload_n 1, 1) := by decide +kernel
theorem dX12_ahead_71 : decode cX12_ahead 71 = .ok (.invokevirtual 325, 3) := by decide +kernel
theorem dX12_ahead_74 : decode cX12_ahead 74 = .ok (.ifCond .ne 7, 3) := by decide +kernel
theorem dX12_ahead_77 : decode cX12_ahead 77 = .ok (.lconst 0, 1) := by decide +kernel
theorem dX12_ahead_78 : decode cX12_ahead 78 = .ok (.goto 13, 3) := by decide +kernel
theorem dX12_ahead_81 : decode cX12_ahead 81 = .ok (.aload_n 0, 1) := by decide +kernel
theorem dX12_ahead_82 : decode cX12_ahead 82 = .ok (.aload_n 0, 1) := by decide +kernel
theorem dX12_ahead_83 : decode cX12_ahead 83 = .ok (.getfield 52, 3) := by decide +kernel
theorem dX12_ahead_86 : decode cX12_ahead 86 = .ok (.iload_n 1, 1) := by decide +kernel
theorem dX12_ahead_87 : decode cX12_ahead 87 = .ok (.invokevirtual 318, 3) := by decide +kernel
theorem dX12_ahead_90 : decode cX12_ahead 90 = .ok (.i2l, 1) := by decide +kernel
theorem dX12_ahead_91 : decode cX12_ahead 91 = .ok (.invokevirtual 387, 3) := by decide +kernel
theorem dX12_ahead_94 : decode cX12_ahead 94 = .ok (.iload_n 3, 1) := by decide +kernel
theorem dX12_ahead_95 : decode cX12_ahead 95 = .ok (.ireturn, 1) := by decide +kernel
theorem dX12_first_0 : decode cX12_first 0 = .ok (.aload_n 0, 1) := by decide +kernel
theorem dX12_first_1 : decode cX12_first 1 = .ok (.iconst 0, 1) := by decide +kernel
theorem dX12_first_2 : decode cX12_first 2 = .ok (.putfield 3, 3) := by decide +kernel
theorem dX12_first_5 : decode cX12_first 5 = .ok (.aload_n 0, 1) := by decide +kernel
theorem dX12_first_6 : decode cX12_first 6 = .ok (.iload_n 1, 1) := by decide +kernel
theorem dX12_first_7 : decode cX12_first 7 = .ok (.invokevirtual 346, 3) := by decide +kernel
theorem dX12_first_10 : decode cX12_first 10 = .ok (.ifCond .eq 11, 3) := by decide +kernel
theorem dX12_first_13 : decode cX12_first 13 = .ok (.aload_n 0, 1) := by decide +kernel
theorem dX12_first_14 : decode cX12_first 14 = .ok (.iload_n 2, 1) := by decide +kernel
theorem dX12_first_15 : decode cX12_first 15 = .ok (.invokevirtual 332, 3) := by decide +kernel
theorem dX12_first_18 : decode cX12_first 18 = .ok (.ifCond .ne 5, 3) := by decide +kernel
theorem dX12_first_21 : decode cX12_first 21 = .ok (.iconst (-1), 1) := by decide +kernel
theorem dX12_first_22 : decode cX12_first 22 = .ok (.ireturn, 1) := by decide +kernel
theorem dX12_first_23 : decode cX12_first 23 = .ok (.aload_n 0, 1) := by decide +kernel
theorem dX12_first_24 : decode cX12_first 24 = .ok (.invokevirtual 407, 3) := by decide +kernel
theorem dX12_first_27 : decode cX12_first 27 = .ok (.iconst 0, 1) := by decide +kernel
theorem dX12_first_28 : decode cX12_first 28 = .ok (.istore_n 3, 1) := by decide +kernel
theorem dX12_first_29 : decode cX12_first 29 = .ok (.iload_n 3, 1) := by decide +kernel
theorem dX12_first_30 : decode cX12_first 30 = .ok (.bipush 99, 2) := by decide +kernel
theorem dX12_first_32 : decode cX12_first 32 = .ok (.if_icmp .gt 51, 3) := by decide +kernel
theorem dX12_first_35 : decode cX12_first 35 = .ok (.aload_n 0, 1) := by decide +kernel
theorem dX12_first_36 : decode cX12_first 36 = .ok (.aload_n 0, 1) := by decide +kernel
theorem dX12_first_37 : decode cX12_first 37 = .ok (.getfield 52, 3) := by decide +kernel
theorem dX12_first_40 : decode cX12_first 40 = .ok (.iload_n 1, 1) := by decide +kernel
theorem dX12_first_41 : decode cX12_first 41 = .ok (.invokevirtual 340, 3) := by decide +kernel
theorem dX12_first_44 : decode cX12_first 44 = .ok (.iload_n 2, 1) := by decide +kernel
theorem dX12_first_45 : decode cX12_first 45 = .ok (.invokestatic 296, 3) := by decide +kernel
theorem dX12_first_48 : decode cX12_first 48 = .ok (.ifCond .eq 21, 3) := by decide +kernel
theorem dX12_first_51 : decode cX12_first 51 = .ok (.aload_n 0, 1) := by decide +kernel
theorem dX12_first_52 : decode cX12_first 52 = .ok (.iconst 0, 1) := by decide +kernel
theorem dX12_first_53 : decode cX12_first 53 = .ok (.putfield 15, 3) := by decide +kernel
theorem dX12_first_56 : decode cX12_first 56 = .ok (.aload_n 0, 1) := by decide +kernel
theorem dX12_first_57 : decode cX12_first 57 = .ok (.aload_n 0, 1) := by decide +kernel
theorem dX12_first_58 : decode cX12_first 58 = .ok (.getfield 52, 3) := by decide +kernel
theorem dX12_first_61 : decode cX12_first 61 = .ok (.iload_n 2, 1) := by decide +kernel
theorem dX12_first_62 : decode cX12_first 62 = .ok (.iaload, 1) := by decide +kernel
theorem dX12_first_63 : decode cX12_first 63 = .ok (.i2l, 1) := by decide +kernel
theorem dX12_first_64 : decode cX12_first 64 = .ok (.invokevirtual 387, 3) := by decide +kernel
theorem dX12_first_67 : decode cX12_first 67 = .ok (.iload_n 3, 1) := by decide +kernel
theorem dX12_first_68 : decode cX12_first 68 = .ok (.ireturn, 1) := by decide +kernel
theorem dX12_first_69 : decode cX12_first 69 = .ok (.aload_n 0, 1) := by decide +kernel
theorem dX12_first_70 : decode cX12_first 70 = .ok (.aload_n 0, 1) := by decide +kernel
theorem dX12_first_71 : decode cX12_first 71 = .ok (.getfield 52, 3) := by decide +kernel
theorem dX12_first_74 : decode cX12_first 74 = .ok (.invokevirtual 360, 3) := by decide +kernel
theorem dX12_first_77 : decode cX12_first 77 = .ok (.iinc 3 1, 3) := by decide +kernel
theorem dX12_first_80 : decode cX12_first 80 = .ok (.goto (-51), 3) := by decide +kernel
theorem dX12_first_83 : decode cX12_first 83 = .ok (.bipush (-2), 2) := by decide +kernel
theorem dX12_first_85 : decode cX12_first 85 = .ok (.ireturn, 1) := by decide +kernel
theorem dX12_meets_0 : decode cX12_meets 0 = .ok (.aload_n 0, 1) := by decide +kernel
theorem dX12_meets_1 : decode cX12_meets 1 = .ok (.iconst 0, 1) := by decide +kernel
theorem dX12_meets_2 : decode cX12_meets 2 = .ok (.putfield 3, 3) := by decide +kernel
theorem dX12_meets_5 : decode cX12_meets 5 = .ok (.aload_n 0, 1) := by decide +kernel
theorem dX12_meets_6 : decode cX12_meets 6 = .ok (.iload_n 1, 1) := by decide +kernel
theorem dX12_meets_7 : decode cX12_meets 7 = .ok (.invokevirtual 346, 3) := by decide +kernel
theorem dX12_meets_10 : decode cX12_meets 10 = .ok (.ifCond .ne 5, 3) := by decide +kernel
theorem dX12_meets_13 : decode cX12_meets 13 = .ok (.iconst (-1), 1) := by decide +kernel
theorem dX12_meets_14 : decode cX12_meets 14 = .ok (.ireturn, 1) := by decide +kernel
theorem dX12_meets_15 : decode cX12_meets 15 = .ok (.aload_n 0, 1) := by decide +kernel
theorem dX12_meets_16 : decode cX12_meets 16 = .ok (.invokevirtual 407, 3) := by decide +kernel
theorem dX12_meets_19 : decode cX12_meets 19 = .ok (.iconst 0, 1) := by decide +kernel
theorem dX12_meets_20 : decode cX12_meets 20 = .ok (.istore_n 2, 1) := by decide +kernel
theorem dX12_meets_21 : decode cX12_meets 21 = .ok (.iload_n 2, 1) := by decide +kernel
theorem dX12_meets_22 : decode cX12_meets 22 = .ok (.bipush 99, 2) := by decide +kernel
theorem dX12_meets_24 : decode cX12_meets 24 = .ok (.if_icmp .gt 135, 3) := by decide +kernel
theorem dX12_meets_27 : decode cX12_meets 27 = .ok (.aload_n 0, 1) := by decide +kernel
theorem dX12_meets_28 : decode cX12_meets 28 = .ok (.aload_n 0, 1) := by decide +kernel
theorem dX12_meets_29 : decode cX12_meets 29 = .ok (.getfield 52, 3) := by decide +kernel
theorem dX12_meets_32 : decode cX12_meets 32 = .ok (.iload_n 1, 1) := by decide +kernel
theorem dX12_meets_33 : decode cX12_meets 33 = .ok (.invokevirtual 340, 3) := by decide +kernel
theorem dX12_meets_36 : decode cX12_meets 36 = .ok (.istore_n 3, 1) := by decide +kernel
theorem dX12_meets_37 : decode cX12_meets 37 = .ok (.iconst 0, 1) := by decide +kernel
theorem dX12_meets_38 : decode cX12_meets 38 = .ok (.istore 4, 2) := by decide +kernel
theorem dX12_meets_40 : decode cX12_meets 40 = .ok (.iload 4, 2) := by decide +kernel
theorem dX12_meets_42 : decode cX12_meets 42 = .ok (.aload_n 0, 1) := by decide +kernel
theorem dX12_meets_43 : decode cX12_meets 43 = .ok (.getfield 24, 3) := by decide +kernel
theorem dX12_meets_46 : decode cX12_meets 46 = .ok (.aload_n 0, 1) := by decide +kernel
theorem dX12_meets_47 : decode cX12_meets 47 = .ok (.getfield 27, 3) := by decide +kernel
theorem dX12_meets_50 : decode cX12_meets 50 = .ok (.imul, 1) := by decide +kernel
theorem dX12_meets_51 : decode cX12_meets 51 = .ok (.if_icmp .ge 94, 3) := by decide +kernel
theorem dX12_meets_54 : decode cX12_meets 54 = .ok (.iconst 0, 1) := by decide +kernel
theorem dX12_meets_55 : decode cX12_meets 55 = .ok (.istore 5, 2) := by decide +kernel
theorem dX12_meets_57 : decode cX12_meets 57 = .ok (.iconst 0, 1) := by decide +kernel
theorem dX12_meets_58 : decode cX12_meets 58 = .ok (.istore 6, 2) := by decide +kernel
theorem dX12_meets_60 : decode cX12_meets 60 = .ok (.iload 6, 2) := by decide +kernel
theorem dX12_meets_62 : decode cX12_meets 62 = .ok (.aload_n 0, 1) := by decide +kernel
theorem dX12_meets_63 : decode cX12_meets 63 = .ok (.getfield 140, 3) := by decide +kernel
theorem dX12_meets_66 : decode cX12_meets 66 = .ok (.if_icmp .ge 43, 3) := by decide +kernel
theorem dX12_meets_69 : decode cX12_meets 69 = .ok (.iload 5, 2) := by decide +kernel
theorem dX12_meets_71 : decode cX12_meets 71 = .ok (.iload_n 3, 1) := by decide +kernel
theorem dX12_meets_72 : decode cX12_meets 72 = .ok (.iload 6, 2) := by decide +kernel
theorem dX12_meets_74 : decode cX12_meets 74 = .ok (.invokestatic 296, 3) := by decide +kernel
theorem dX12_meets_77 : decode cX12_meets 77 = .ok (.ifCond .eq 22, 3) := by decide +kernel
theorem dX12_meets_80 : decode cX12_meets 80 = .ok (.aload_n 0, 1) := by decide +kernel
theorem dX12_meets_81 : decode cX12_meets 81 = .ok (.getfield 52, 3) := by decide +kernel
theorem dX12_meets_84 : decode cX12_meets 84 = .ok (.iload 6, 2) := by decide +kernel
theorem dX12_meets_86 : decode cX12_meets 86 = .ok (.iaload, 1) := by decide +kernel
theorem dX12_meets_87 : decode cX12_meets 87 = .ok (.iload 4, 2) := by decide +kernel
theorem dX12_meets_89 : decode cX12_meets 89 = .ok (.if_icmp .ne 10, 3) := by decide +kernel
theorem dX12_meets_92 : decode cX12_meets 92 = .ok (.iconst 1, 1) := by decide +kernel
theorem dX12_meets_93 : decode cX12_meets 93 = .ok (.iload 6, 2) := by decide +kernel
theorem dX12_meets_95 : decode cX12_meets 95 = .ok (.ishl, 1) := by decide +kernel
theorem dX12_meets_96 : decode cX12_meets 96 = .ok (.goto 4, 3) := by decide +kernel
theorem dX12_meets_99 : decode cX12_meets 99 = .ok (.iconst 0, 1) := by decide +kernel
theorem dX12_meets_100 : decode cX12_meets 100 = .ok (.ior, 1) := by decide +kernel
theorem dX12_meets_101 : decode cX12_meets 101 = .ok (.istore 5, 2) := by decide +kernel
theorem dX12_meets_103 : decode cX12_meets 103 = .ok (.iinc 6 1, 3) := by decide +kernel
theorem dX12_meets_106 : decode cX12_meets 106 = .ok (.goto (-46), 3) := by decide +kernel
theorem dX12_meets_109 : decode cX12_meets 109 = .ok (.iload 5, 2) := by decide +kernel
theorem dX12_meets_111 : decode cX12_meets 111 = .ok (.invokestatic 300, 3) := by decide +kernel
theorem dX12_meets_114 : decode cX12_meets 114 = .ok (.iconst 1, 1) := by decide +kernel
theorem dX12_meets_115 : decode cX12_meets 115 = .ok (.if_icmp .le 24, 3) := by decide +kernel
theorem dX12_meets_118 : decode cX12_meets 118 = .ok (.aload_n 0, 1) := by decide +kernel
theorem dX12_meets_119 : decode cX12_meets 119 = .ok (.iconst 0, 1) := by decide +kernel
theorem dX12_meets_120 : decode cX12_meets 120 = .ok (.putfield 15, 3) := by decide +kernel
theorem dX12_meets_123 : decode cX12_meets 123 = .ok (.aload_n 0, 1) := by decide +kernel
theorem dX12_meets_124 : decode cX12_meets 124 = .ok (.iload 4, 2) := by decide +kernel
theorem dX12_meets_126 : decode cX12_meets 126 = .ok (.i2l, 1) := by decide +kernel
theorem dX12_meets_127 : decode cX12_meets 127 = .ok (.invokevirtual 387, 3) := by decide +kernel
theorem dX12_meets_130 : decode cX12_meets 130 = .ok (.aload_n 0, 1) := by decide +kernel
theorem dX12_meets_131 : decode cX12_meets 131 = .ok (.iload 5, 2) := by decide +kernel
theorem dX12_meets_133 : decode cX12_meets 133 = .ok (.i2l, 1) := by decide +kernel
theorem dX12_meets_134 : decode cX12_meets 134 = .ok (.invokevirtual 387, 3) := by decide +kernel
theorem dX12_meets_137 : decode cX12_meets 137 = .ok (.iload_n 2, 1) := by decide +kernel
theorem dX12_meets_138 : decode cX12_meets 138 = .ok (.ireturn, 1) := by decide +kernel
theorem dX12_meets_139 : decode cX12_meets 139 = .ok (.iinc 4 1, 3) := by decide +kernel
theorem dX12_meets_142 : decode cX12_meets 142 = .ok (.goto (-102), 3) := by decide +kernel
theorem dX12_meets_145 : decode cX12_meets 145 = .ok (.aload_n 0, 1) := by decide +kernel
theorem dX12_meets_146 : decode cX12_meets 146 = .ok (.aload_n 0, 1) := by decide +kernel
theorem dX12_meets_147 : decode cX12_meets 147 = .ok (.getfield 52, 3) := by decide +kernel
theorem dX12_meets_150 : decode cX12_meets 150 = .ok (.invokevirtual 360, 3) := by decide +kernel
theorem dX12_meets_153 : decode cX12_meets 153 = .ok (.iinc 2 1, 3) := by decide +kernel
theorem dX12_meets_156 : decode cX12_meets 156 = .ok (.goto (-135), 3) := by decide +kernel
theorem dX12_meets_159 : decode cX12_meets 159 = .ok (.bipush (-2), 2) := by decide +kernel
theorem dX12_meets_161 : decode cX12_meets 161 = .ok (.ireturn, 1) := by decide +kernel
theorem dX12_doubts_0 : decode cX12_doubts 0 = .ok (.aload_n 0, 1) := by decide +kernel
theorem dX12_doubts_1 : decode cX12_doubts 1 = .ok (.iconst 0, 1) := by decide +kernel
theorem dX12_doubts_2 : decode cX12_doubts 2 = .ok (.putfield 3, 3) := by decide +kernel
theorem dX12_doubts_5 : decode cX12_doubts 5 = .ok (.aload_n 0, 1) := by decide +kernel
theorem dX12_doubts_6 : decode cX12_doubts 6 = .ok (.iload_n 1, 1) := by decide +kernel
theorem dX12_doubts_7 : decode cX12_doubts 7 = .ok (.invokevirtual 346, 3) := by decide +kernel
theorem dX12_doubts_10 : decode cX12_doubts 10 = .ok (.ifCond .eq 16, 3) := by decide +kernel
theorem dX12_doubts_13 : decode cX12_doubts 13 = .ok (.aload_n 0, 1) := by decide +kernel
theorem dX12_doubts_14 : decode cX12_doubts 14 = .ok (.iload_n 2, 1) := by decide +kernel
theorem dX12_doubts_15 : decode cX12_doubts 15 = .ok (.invokevirtual 346, 3) := by decide +kernel
theorem dX12_doubts_18 : decode cX12_doubts 18 = .ok (.ifCond .eq 8, 3) := by decide +kernel
theorem dX12_doubts_21 : decode cX12_doubts 21 = .ok (.iload_n 1, 1) := by decide +kernel
theorem dX12_doubts_22 : decode cX12_doubts 22 = .ok (.iload_n 2, 1) := by decide +kernel
theorem dX12_doubts_23 : decode cX12_doubts 23 = .ok (.if_icmp .ne 5, 3) := by decide +kernel
theorem dX12_doubts_26 : decode cX12_doubts 26 = .ok (.iconst (-1), 1) := by decide +kernel
theorem dX12_doubts_27 : decode cX12_doubts 27 = .ok (.ireturn, 1) := by decide +kernel
theorem dX12_doubts_28 : decode cX12_doubts 28 = .ok (.aload_n 0, 1) := by decide +kernel
theorem dX12_doubts_29 : decode cX12_doubts 29 = .ok (.aload_n 0, 1) := by decide +kernel
theorem dX12_doubts_30 : decode cX12_doubts 30 = .ok (.getfield 49, 3) := by decide +kernel
theorem dX12_doubts_33 : decode cX12_doubts 33 = .ok (.iload_n 1, 1) := by decide +kernel
theorem dX12_doubts_34 : decode cX12_doubts 34 = .ok (.invokevirtual 318, 3) := by decide +kernel
theorem dX12_doubts_37 : decode cX12_doubts 37 = .ok (.aload_n 0, 1) := by decide +kernel
theorem dX12_doubts_38 : decode cX12_doubts 38 = .ok (.aload_n 0, 1) := by decide +kernel
theorem dX12_doubts_39 : decode cX12_doubts 39 = .ok (.getfield 49, 3) := by decide +kernel
theorem dX12_doubts_42 : decode cX12_doubts 42 = .ok (.iload_n 2, 1) := by decide +kernel
theorem dX12_doubts_43 : decode cX12_doubts 43 = .ok (.invokevirtual 318, 3) := by decide +kernel
theorem dX12_doubts_46 : decode cX12_doubts 46 = .ok (.iand, 1) := by decide +kernel
theorem dX12_doubts_47 : decode cX12_doubts 47 = .ok (.istore_n 3, 1) := by decide +kernel
theorem dX12_doubts_48 : decode cX12_doubts 48 = .ok (.aload_n 0, 1) := by decide +kernel
theorem dX12_doubts_49 : decode cX12_doubts 49 = .ok (.aload_n 0, 1) := by decide +kernel
theorem dX12_doubts_50 : decode cX12_doubts 50 = .ok (.getfield 49, 3) := by decide +kernel
theorem dX12_doubts_53 : decode cX12_doubts 53 = .ok (.iload_n 1, 1) := by decide +kernel
theorem dX12_doubts_54 : decode cX12_doubts 54 = .ok (.invokevirtual 340, 3) := by decide +kernel
theorem dX12_doubts_57 : decode cX12_doubts 57 = .ok (.aload_n 0, 1) := by decide +kernel
theorem dX12_doubts_58 : decode cX12_doubts 58 = .ok (.aload_n 0, 1) := by decide +kernel
theorem dX12_doubts_59 : decode cX12_doubts 59 = .ok (.getfield 49, 3) := by decide +kernel
theorem dX12_doubts_62 : decode cX12_doubts 62 = .ok (.iload_n 2, 1) := by decide +kernel
theorem dX12_doubts_63 : decode cX12_doubts 63 = .ok (.invokevirtual 340, 3) := by decide +kernel
theorem dX12_doubts_66 : decode cX12_doubts 66 = .ok (.ixor, 1) := by decide +kernel
theorem dX12_doubts_67 : decode cX12_doubts 67 = .ok (.iload_n 3, 1) := by decide +kernel
theorem dX12_doubts_68 : decode cX12_doubts 68 = .ok (.iand, 1) := by decide +kernel
theorem dX12_doubts_69 : decode cX12_doubts 69 = .ok (.istore 4, 2) := by decide +kernel
theorem dX12_doubts_71 : decode cX12_doubts 71 = .ok (.aload_n 0, 1) := by decide +kernel
theorem dX12_doubts_72 : decode cX12_doubts 72 = .ok (.iconst 0, 1) := by decide +kernel
theorem dX12_doubts_73 : decode cX12_doubts 73 = .ok (.putfield 15, 3) := by decide +kernel
theorem dX12_doubts_76 : decode cX12_doubts 76 = .ok (.aload_n 0, 1) := by decide +kernel
theorem dX12_doubts_77 : decode cX12_doubts 77 = .ok (.iload 4, 2) := by decide +kernel
theorem dX12_doubts_79 : decode cX12_doubts 79 = .ok (.aload_n 0, 1) := by decide +kernel
theorem dX12_doubts_80 : decode cX12_doubts 80 = .ok (.aload_n 0, 1) := by decide +kernel
theorem dX12_doubts_81 : decode cX12_doubts 81 = .ok (.getfield 49, 3) := by decide +kernel
theorem dX12_doubts_84 : decode cX12_doubts 84 = .ok (.iload_n 1, 1) := by decide +kernel
theorem dX12_doubts_85 : decode cX12_doubts 85 = .ok (.invokevirtual 340, 3) := by decide +kernel
theorem dX12_doubts_88 : decode cX12_doubts 88 = .ok (.iand, 1) := by decide +kernel
theorem dX12_doubts_89 : decode cX12_doubts 89 = .ok (.i2l, 1) := by decide +kernel
theorem dX12_doubts_90 : decode cX12_doubts 90 = .ok (.invokevirtual 387, 3) := by decide +kernel
theorem dX12_doubts_93 : decode cX12_doubts 93 = .ok (.aload_n 0, 1) := by decide +kernel
theorem dX12_doubts_94 : decode cX12_doubts 94 = .ok (.iload_n 3, 1) := by decide +kernel
theorem dX12_doubts_95 : decode cX12_doubts 95 = .ok (.i2l, 1) := by decide +kernel
theorem dX12_doubts_96 : decode cX12_doubts 96 = .ok (.invokevirtual 387, 3) := by decide +kernel
theorem dX12_doubts_99 : decode cX12_doubts 99 = .ok (.iload 4, 2) := by decide +kernel
theorem dX12_doubts_101 : decode cX12_doubts 101 = .ok (.ireturn, 1) := by decide +kernel
theorem dX12_watch_0 : decode cX12_watch 0 = .ok (.aload_n 0, 1) := by decide +kernel
theorem dX12_watch_1 : decode cX12_watch 1 = .ok (.iconst 0, 1) := by decide +kernel
theorem dX12_watch_2 : decode cX12_watch 2 = .ok (.putfield 3, 3) := by decide +kernel
theorem dX12_watch_5 : decode cX12_watch 5 = .ok (.iload_n 1, 1) := by decide +kernel
theorem dX12_watch_6 : decode cX12_watch 6 = .ok (.i2l, 1) := by decide +kernel
theorem dX12_watch_7 : decode cX12_watch 7 = .ok (.lconst 0, 1) := by decide +kernel
theorem dX12_watch_8 : decode cX12_watch 8 = .ok (.aload_n 0, 1) := by decide +kernel
theorem dX12_watch_9 : decode cX12_watch 9 = .ok (.getfield 140, 3) := by decide +kernel
theorem dX12_watch_12 : decode cX12_watch 12 = .ok (.invokestatic 410, 3) := by decide +kernel
theorem dX12_watch_15 : decode cX12_watch 15 = .ok (.i2l, 1) := by decide +kernel
theorem dX12_watch_16 : decode cX12_watch 16 = .ok (.invokestatic 143, 3) := by decide +kernel
theorem dX12_watch_19 : decode cX12_watch 19 = .ok (.ifCond .ne 5, 3) := by decide +kernel
theorem dX12_watch_22 : decode cX12_watch 22 = .ok (.iconst (-1), 1) := by decide +kernel
theorem dX12_watch_23 : decode cX12_watch 23 = .ok (.ireturn, 1) := by decide +kernel
theorem dX12_watch_24 : decode cX12_watch 24 = .ok (.iconst (-1), 1) := by decide +kernel
theorem dX12_watch_25 : decode cX12_watch 25 = .ok (.istore_n 2, 1) := by decide +kernel
theorem dX12_watch_26 : decode cX12_watch 26 = .ok (.iconst 0, 1) := by decide +kernel
theorem dX12_watch_27 : decode cX12_watch 27 = .ok (.istore_n 3, 1) := by decide +kernel
theorem dX12_watch_28 : decode cX12_watch 28 = .ok (.iload_n 3, 1) := by decide +kernel
theorem dX12_watch_29 : decode cX12_watch 29 = .ok (.iconst 1, 1) := by decide +kernel
theorem dX12_watch_30 : decode cX12_watch 30 = .ok (.aload_n 0, 1) := by decide +kernel
theorem dX12_watch_31 : decode cX12_watch 31 = .ok (.getfield 150, 3) := by decide +kernel
theorem dX12_watch_34 : decode cX12_watch 34 = .ok (.ishl, 1) := by decide +kernel
theorem dX12_watch_35 : decode cX12_watch 35 = .ok (.if_icmp .ge 100, 3) := by decide +kernel
theorem dX12_watch_38 : decode cX12_watch 38 = .ok (.iconst 0, 1) := by decide +kernel
theorem dX12_watch_39 : decode cX12_watch 39 = .ok (.istore 4, 2) := by decide +kernel
theorem dX12_watch_41 : decode cX12_watch 41 = .ok (.iconst 0, 1) := by decide +kernel
theorem dX12_watch_42 : decode cX12_watch 42 = .ok (.istore 5, 2) := by decide +kernel
theorem dX12_watch_44 : decode cX12_watch 44 = .ok (.iload 5, 2) := by decide +kernel
theorem dX12_watch_46 : decode cX12_watch 46 = .ok (.aload_n 0, 1) := by decide +kernel
theorem dX12_watch_47 : decode cX12_watch 47 = .ok (.getfield 150, 3) := by decide +kernel
theorem dX12_watch_50 : decode cX12_watch 50 = .ok (.if_icmp .ge 37, 3) := by decide +kernel
theorem dX12_watch_53 : decode cX12_watch 53 = .ok (.iload 4, 2) := by decide +kernel
theorem dX12_watch_55 : decode cX12_watch 55 = .ok (.iload_n 3, 1) := by decide +kernel
theorem dX12_watch_56 : decode cX12_watch 56 = .ok (.iload 5, 2) := by decide +kernel
theorem dX12_watch_58 : decode cX12_watch 58 = .ok (.invokestatic 296, 3) := by decide +kernel
theorem dX12_watch_61 : decode cX12_watch 61 = .ok (.ifCond .eq 16, 3) := by decide +kernel
theorem dX12_watch_64 : decode cX12_watch 64 = .ok (.aload_n 0, 1) := by decide +kernel
theorem dX12_watch_65 : decode cX12_watch 65 = .ok (.aload_n 0, 1) := by decide +kernel
theorem dX12_watch_66 : decode cX12_watch 66 = .ok (.getfield 49, 3) := by decide +kernel
theorem dX12_watch_69 : decode cX12_watch 69 = .ok (.iload 5, 2) := by decide +kernel
theorem dX12_watch_71 : decode cX12_watch 71 = .ok (.invokevirtual 340, 3) := by decide +kernel
theorem dX12_watch_74 : decode cX12_watch 74 = .ok (.goto 4, 3) := by decide +kernel
theorem dX12_watch_77 : decode cX12_watch 77 = .ok (.iconst 0, 1) := by decide +kernel
theorem dX12_watch_78 : decode cX12_watch 78 = .ok (.ior, 1) := by decide +kernel
theorem dX12_watch_79 : decode cX12_watch 79 = .ok (.istore 4, 2) := by decide +kernel
theorem dX12_watch_81 : decode cX12_watch 81 = .ok (.iinc 5 1, 3) := by decide +kernel
theorem dX12_watch_84 : decode cX12_watch 84 = .ok (.goto (-40), 3) := by decide +kernel
theorem dX12_watch_87 : decode cX12_watch 87 = .ok (.iload_n 2, 1) := by decide +kernel
theorem dX12_watch_88 : decode cX12_watch 88 = .ok (.ifCond .lt 14, 3) := by decide +kernel
theorem dX12_watch_91 : decode cX12_watch 91 = .ok (.iload_n 3, 1) := by decide +kernel
theorem dX12_watch_92 : decode cX12_watch 92 = .ok (.invokestatic 300, 3) := by decide +kernel
theorem dX12_watch_95 : decode cX12_watch 95 = .ok (.iload_n 2, 1) := by decide +kernel
theorem dX12_watch_96 : decode cX12_watch 96 = .ok (.invokestatic 300, 3) := by decide +kernel
theorem dX12_watch_99 : decode cX12_watch 99 = .ok (.if_icmp .ge 7, 3) := by decide +kernel
theorem dX12_watch_102 : decode cX12_watch 102 = .ok (.iconst 1, 1) := by decide +kernel
theorem dX12_watch_103 : decode cX12_watch 103 = .ok (.goto 4, 3) := by decide +kernel
theorem dX12_watch_106 : decode cX12_watch 106 = .ok (.iconst 0, 1) := by decide +kernel
theorem dX12_watch_107 : decode cX12_watch 107 = .ok (.istore 5, 2) := by decide +kernel
theorem dX12_watch_109 : decode cX12_watch 109 = .ok (.iload 5, 2) := by decide +kernel
theorem dX12_watch_111 : decode cX12_watch 111 = .ok (.ifCond .eq 16, 3) := by decide +kernel
theorem dX12_watch_114 : decode cX12_watch 114 = .ok (.iload_n 1, 1) := by decide +kernel
theorem dX12_watch_115 : decode cX12_watch 115 = .ok (.iload 4, 2) := by decide +kernel
theorem dX12_watch_117 : decode cX12_watch 117 = .ok (.iconst (-1), 1) := by decide +kernel
theorem dX12_watch_118 : decode cX12_watch 118 = .ok (.ixor, 1) := by decide +kernel
theorem dX12_watch_119 : decode cX12_watch 119 = .ok (.iand, 1) := by decide +kernel
theorem dX12_watch_120 : decode cX12_watch 120 = .ok (.ifCond .ne 7, 3) := by decide +kernel
theorem dX12_watch_123 : decode cX12_watch 123 = .ok (.iload_n 3, 1) := by decide +kernel
theorem dX12_watch_124 : decode cX12_watch 124 = .ok (.goto 4, 3) := by decide +kernel
theorem dX12_watch_127 : decode cX12_watch 127 = .ok (.iload_n 2, 1) := by decide +kernel
theorem dX12_watch_128 : decode cX12_watch 128 = .ok (.istore_n 2, 1) := by decide +kernel
theorem dX12_watch_129 : decode cX12_watch 129 = .ok (.iinc 3 1, 3) := by decide +kernel
theorem dX12_watch_132 : decode cX12_watch 132 = .ok (.goto (-104), 3) := by decide +kernel
theorem dX12_watch_135 : decode cX12_watch 135 = .ok (.iload_n 2, 1) := by decide +kernel
theorem dX12_watch_136 : decode cX12_watch 136 = .ok (.ifCond .ge 6, 3) := by decide +kernel
theorem dX12_watch_139 : decode cX12_watch 139 = .ok (.bipush (-2), 2) := by decide +kernel
theorem dX12_watch_141 : decode cX12_watch 141 = .ok (.ireturn, 1) := by decide +kernel
theorem dX12_watch_142 : decode cX12_watch 142 = .ok (.aload_n 0, 1) := by decide +kernel
theorem dX12_watch_143 : decode cX12_watch 143 = .ok (.iconst 0, 1) := by decide +kernel
theorem dX12_watch_144 : decode cX12_watch 144 = .ok (.putfield 15, 3) := by decide +kernel
theorem dX12_watch_147 : decode cX12_watch 147 = .ok (.aload_n 0, 1) := by decide +kernel
theorem dX12_watch_148 : decode cX12_watch 148 = .ok (.iload_n 2, 1) := by decide +kernel
theorem dX12_watch_149 : decode cX12_watch 149 = .ok (.i2l, 1) := by decide +kernel
theorem dX12_watch_150 : decode cX12_watch 150 = .ok (.invokevirtual 387, 3) := by decide +kernel
theorem dX12_watch_153 : decode cX12_watch 153 = .ok (.iload_n 2, 1) := by decide +kernel
theorem dX12_watch_154 : decode cX12_watch 154 = .ok (.invokestatic 300, 3) := by decide +kernel
theorem dX12_watch_157 : decode cX12_watch 157 = .ok (.ireturn, 1) := by decide +kernel
theorem dX12_hidden_0 : decode cX12_hidden 0 = .ok (.aload_n 0, 1) := by decide +kernel
theorem dX12_hidden_1 : decode cX12_hidden 1 = .ok (.iconst 0, 1) := by decide +kernel
theorem dX12_hidden_2 : decode cX12_hidden 2 = .ok (.putfield 3, 3) := by decide +kernel
theorem dX12_hidden_5 : decode cX12_hidden 5 = .ok (.iconst 0, 1) := by decide +kernel
theorem dX12_hidden_6 : decode cX12_hidden 6 = .ok (.istore_n 1, 1) := by decide +kernel
theorem dX12_hidden_7 : decode cX12_hidden 7 = .ok (.aload_n 0, 1) := by decide +kernel
theorem dX12_hidden_8 : decode cX12_hidden 8 = .ok (.getfield 140, 3) := by decide +kernel
theorem dX12_hidden_11 : decode cX12_hidden 11 = .ok (.invokestatic 410, 3) := by decide +kernel
theorem dX12_hidden_14 : decode cX12_hidden 14 = .ok (.istore_n 2, 1) := by decide +kernel
theorem dX12_hidden_15 : decode cX12_hidden 15 = .ok (.iconst 0, 1) := by decide +kernel
theorem dX12_hidden_16 : decode cX12_hidden 16 = .ok (.istore_n 3, 1) := by decide +kernel
theorem dX12_hidden_17 : decode cX12_hidden 17 = .ok (.iload_n 3, 1) := by decide +kernel
theorem dX12_hidden_18 : decode cX12_hidden 18 = .ok (.aload_n 0, 1) := by decide +kernel
theorem dX12_hidden_19 : decode cX12_hidden 19 = .ok (.getfield 150, 3) := by decide +kernel
theorem dX12_hidden_22 : decode cX12_hidden 22 = .ok (.if_icmp .ge 33, 3) := by decide +kernel
theorem dX12_hidden_25 : decode cX12_hidden 25 = .ok (.iload_n 1, 1) := by decide +kernel
theorem dX12_hidden_26 : decode cX12_hidden 26 = .ok (.aload_n 0, 1) := by decide +kernel
theorem dX12_hidden_27 : decode cX12_hidden 27 = .ok (.aload_n 0, 1) := by decide +kernel
theorem dX12_hidden_28 : decode cX12_hidden 28 = .ok (.getfield 49, 3) := by decide +kernel
theorem dX12_hidden_31 : decode cX12_hidden 31 = .ok (.iload_n 3, 1) := by decide +kernel
theorem dX12_hidden_32 : decode cX12_hidden 32 = .ok (.invokevirtual 340, 3) := by decide +kernel
theorem dX12_hidden_35 : decode cX12_hidden 35 = .ok (.ior, 1) := by decide +kernel
theorem dX12_hidden_36 : decode cX12_hidden 36 = .ok (.istore_n 1, 1) := by decide +kernel
theorem dX12_hidden_37 : decode cX12_hidden 37 = .ok (.iload_n 2, 1) := by decide +kernel
theorem dX12_hidden_38 : decode cX12_hidden 38 = .ok (.aload_n 0, 1) := by decide +kernel
theorem dX12_hidden_39 : decode cX12_hidden 39 = .ok (.aload_n 0, 1) := by decide +kernel
theorem dX12_hidden_40 : decode cX12_hidden 40 = .ok (.getfield 49, 3) := by decide +kernel
theorem dX12_hidden_43 : decode cX12_hidden 43 = .ok (.iload_n 3, 1) := by decide +kernel
theorem dX12_hidden_44 : decode cX12_hidden 44 = .ok (.invokevirtual 340, 3) := by decide +kernel
theorem dX12_hidden_47 : decode cX12_hidden 47 = .ok (.iand, 1) := by decide +kernel
theorem dX12_hidden_48 : decode cX12_hidden 48 = .ok (.istore_n 2, 1) := by decide +kernel
theorem dX12_hidden_49 : decode cX12_hidden 49 = .ok (.iinc 3 1, 3) := by decide +kernel
theorem dX12_hidden_52 : decode cX12_hidden 52 = .ok (.goto (-35), 3) := by decide +kernel
theorem dX12_hidden_55 : decode cX12_hidden 55 = .ok (.aload_n 0, 1) := by decide +kernel
theorem dX12_hidden_56 : decode cX12_hidden 56 = .ok (.getfield 140, 3) := by decide +kernel
theorem dX12_hidden_59 : decode cX12_hidden 59 = .ok (.invokestatic 410, 3) := by decide +kernel
theorem dX12_hidden_62 : decode cX12_hidden 62 = .ok (.iload_n 1, 1) := by decide +kernel
theorem dX12_hidden_63 : decode cX12_hidden 63 = .ok (.iconst (-1), 1) := by decide +kernel
theorem dX12_hidden_64 : decode cX12_hidden 64 = .ok (.ixor, 1) := by decide +kernel
theorem dX12_hidden_65 : decode cX12_hidden 65 = .ok (.iand, 1) := by decide +kernel
theorem dX12_hidden_66 : decode cX12_hidden 66 = .ok (.istore_n 3, 1) := by decide +kernel
theorem dX12_hidden_67 : decode cX12_hidden 67 = .ok (.aload_n 0, 1) := by decide +kernel
theorem dX12_hidden_68 : decode cX12_hidden 68 = .ok (.iconst 0, 1) := by decide +kernel
theorem dX12_hidden_69 : decode cX12_hidden 69 = .ok (.putfield 15, 3) := by decide +kernel
theorem dX12_hidden_72 : decode cX12_hidden 72 = .ok (.aload_n 0, 1) := by decide +kernel
theorem dX12_hidden_73 : decode cX12_hidden 73 = .ok (.iload_n 3, 1) := by decide +kernel
theorem dX12_hidden_74 : decode cX12_hidden 74 = .ok (.invokestatic 300, 3) := by decide +kernel
theorem dX12_hidden_77 : decode cX12_hidden 77 = .ok (.i2l, 1) := by decide +kernel
theorem dX12_hidden_78 : decode cX12_hidden 78 = .ok (.invokevirtual 387, 3) := by decide +kernel
theorem dX12_hidden_81 : decode cX12_hidden 81 = .ok (.aload_n 0, 1) := by decide +kernel
theorem dX12_hidden_82 : decode cX12_hidden 82 = .ok (.iload_n 2, 1) := by decide +kernel
theorem dX12_hidden_83 : decode cX12_hidden 83 = .ok (.i2l, 1) := by decide +kernel
theorem dX12_hidden_84 : decode cX12_hidden 84 = .ok (.invokevirtual 387, 3) := by decide +kernel
theorem dX12_hidden_87 : decode cX12_hidden 87 = .ok (.iload_n 3, 1) := by decide +kernel
theorem dX12_hidden_88 : decode cX12_hidden 88 = .ok (.ireturn, 1) := by decide +kernel
theorem dX12_glaze_0 : decode cX12_glaze 0 = .ok (.aload_n 0, 1) := by decide +kernel
theorem dX12_glaze_1 : decode cX12_glaze 1 = .ok (.iconst 0, 1) := by decide +kernel
theorem dX12_glaze_2 : decode cX12_glaze 2 = .ok (.putfield 3, 3) := by decide +kernel
theorem dX12_glaze_5 : decode cX12_glaze 5 = .ok (.aload_n 0, 1) := by decide +kernel
theorem dX12_glaze_6 : decode cX12_glaze 6 = .ok (.iload_n 1, 1) := by decide +kernel
theorem dX12_glaze_7 : decode cX12_glaze 7 = .ok (.invokevirtual 346, 3) := by decide +kernel
theorem dX12_glaze_10 : decode cX12_glaze 10 = .ok (.ifCond .eq 37, 3) := by decide +kernel
theorem dX12_glaze_13 : decode cX12_glaze 13 = .ok (.iload_n 2, 1) := by decide +kernel
theorem dX12_glaze_14 : decode cX12_glaze 14 = .ok (.i2l, 1) := by decide +kernel
theorem dX12_glaze_15 : decode cX12_glaze 15 = .ok (.lconst 0, 1) := by decide +kernel
theorem dX12_glaze_16 : decode cX12_glaze 16 = .ok (.aload_n 0, 1) := by decide +kernel
theorem dX12_glaze_17 : decode cX12_glaze 17 = .ok (.getfield 140, 3) := by decide +kernel
theorem dX12_glaze_20 : decode cX12_glaze 20 = .ok (.invokestatic 410, 3) := by decide +kernel
theorem dX12_glaze_23 : decode cX12_glaze 23 = .ok (.i2l, 1) := by decide +kernel
theorem dX12_glaze_24 : decode cX12_glaze 24 = .ok (.invokestatic 143, 3) := by decide +kernel
theorem dX12_glaze_27 : decode cX12_glaze 27 = .ok (.ifCond .eq 20, 3) := by decide +kernel
theorem dX12_glaze_30 : decode cX12_glaze 30 = .ok (.iload_n 3, 1) := by decide +kernel
theorem dX12_glaze_31 : decode cX12_glaze 31 = .ok (.i2l, 1) := by decide +kernel
theorem dX12_glaze_32 : decode cX12_glaze 32 = .ok (.lconst 0, 1) := by decide +kernel
theorem dX12_glaze_33 : decode cX12_glaze 33 = .ok (.aload_n 0, 1) := by decide +kernel
theorem dX12_glaze_34 : decode cX12_glaze 34 = .ok (.getfield 140, 3) := by decide +kernel
theorem dX12_glaze_37 : decode cX12_glaze 37 = .ok (.invokestatic 410, 3) := by decide +kernel
theorem dX12_glaze_40 : decode cX12_glaze 40 = .ok (.i2l, 1) := by decide +kernel
theorem dX12_glaze_41 : decode cX12_glaze 41 = .ok (.invokestatic 143, 3) := by decide +kernel
theorem dX12_glaze_44 : decode cX12_glaze 44 = .ok (.ifCond .ne 5, 3) := by decide +kernel
theorem dX12_glaze_47 : decode cX12_glaze 47 = .ok (.iconst (-1), 1) := by decide +kernel
theorem dX12_glaze_48 : decode cX12_glaze 48 = .ok (.ireturn, 1) := by decide +kernel
theorem dX12_glaze_49 : decode cX12_glaze 49 = .ok (.iconst (-1), 1) := by decide +kernel
theorem dX12_glaze_50 : decode cX12_glaze 50 = .ok (.istore 4, 2) := by decide +kernel
theorem dX12_glaze_52 : decode cX12_glaze 52 = .ok (.iconst 0, 1) := by decide +kernel
theorem dX12_glaze_53 : decode cX12_glaze 53 = .ok (.istore 5, 2) := by decide +kernel
theorem dX12_glaze_55 : decode cX12_glaze 55 = .ok (.iload 5, 2) := by decide +kernel
theorem dX12_glaze_57 : decode cX12_glaze 57 = .ok (.iconst 1, 1) := by decide +kernel
theorem dX12_glaze_58 : decode cX12_glaze 58 = .ok (.aload_n 0, 1) := by decide +kernel
theorem dX12_glaze_59 : decode cX12_glaze 59 = .ok (.getfield 147, 3) := by decide +kernel
theorem dX12_glaze_62 : decode cX12_glaze 62 = .ok (.ishl, 1) := by decide +kernel
theorem dX12_glaze_63 : decode cX12_glaze 63 = .ok (.if_icmp .ge 65, 3) := by decide +kernel
theorem dX12_glaze_66 : decode cX12_glaze 66 = .ok (.iload 4, 2) := by decide +kernel
theorem dX12_glaze_68 : decode cX12_glaze 68 = .ok (.ifCond .lt 16, 3) := by decide +kernel
theorem dX12_glaze_71 : decode cX12_glaze 71 = .ok (.iload 5, 2) := by decide +kernel
theorem dX12_glaze_73 : decode cX12_glaze 73 = .ok (.invokestatic 300, 3) := by decide +kernel
theorem dX12_glaze_76 : decode cX12_glaze 76 = .ok (.iload 4, 2) := by decide +kernel
theorem dX12_glaze_78 : decode cX12_glaze 78 = .ok (.invokestatic 300, 3) := by decide +kernel
theorem dX12_glaze_81 : decode cX12_glaze 81 = .ok (.if_icmp .ge 41, 3) := by decide +kernel
theorem dX12_glaze_84 : decode cX12_glaze 84 = .ok (.aload_n 0, 1) := by decide +kernel
theorem dX12_glaze_85 : decode cX12_glaze 85 = .ok (.aload_n 0, 1) := by decide +kernel
theorem dX12_glaze_86 : decode cX12_glaze 86 = .ok (.getfield 49, 3) := by decide +kernel
theorem dX12_glaze_89 : decode cX12_glaze 89 = .ok (.iload_n 1, 1) := by decide +kernel
theorem dX12_glaze_90 : decode cX12_glaze 90 = .ok (.iload 5, 2) := by decide +kernel
theorem dX12_glaze_92 : decode cX12_glaze 92 = .ok (.invokevirtual 328, 3) := by decide +kernel
theorem dX12_glaze_95 : decode cX12_glaze 95 = .ok (.istore 6, 2) := by decide +kernel
theorem dX12_glaze_97 : decode cX12_glaze 97 = .ok (.iload_n 2, 1) := by decide +kernel
theorem dX12_glaze_98 : decode cX12_glaze 98 = .ok (.iload 6, 2) := by decide +kernel
theorem dX12_glaze_100 : decode cX12_glaze 100 = .ok (.iconst (-1), 1) := by decide +kernel
theorem dX12_glaze_101 : decode cX12_glaze 101 = .ok (.ixor, 1) := by decide +kernel
theorem dX12_glaze_102 : decode cX12_glaze 102 = .ok (.iand, 1) := by decide +kernel
theorem dX12_glaze_103 : decode cX12_glaze 103 = .ok (.ifCond .ne 15, 3) := by decide +kernel
theorem dX12_glaze_106 : decode cX12_glaze 106 = .ok (.iload_n 3, 1) := by decide +kernel
theorem dX12_glaze_107 : decode cX12_glaze 107 = .ok (.iload 6, 2) := by decide +kernel
theorem dX12_glaze_109 : decode cX12_glaze 109 = .ok (.iand, 1) := by decide +kernel
theorem dX12_glaze_110 : decode cX12_glaze 110 = .ok (.ifCond .ne 8, 3) := by decide +kernel
theorem dX12_glaze_113 : decode cX12_glaze 113 = .ok (.iload 5, 2) := by decide +kernel
theorem dX12_glaze_115 : decode cX12_glaze 115 = .ok (.goto 5, 3) := by decide +kernel
theorem dX12_glaze_118 : decode cX12_glaze 118 = .ok (.iload 4, 2) := by decide +kernel
theorem dX12_glaze_120 : decode cX12_glaze 120 = .ok (.istore 4, 2) := by decide +kernel
theorem dX12_glaze_122 : decode cX12_glaze 122 = .ok (.iinc 5 1, 3) := by decide +kernel
theorem dX12_glaze_125 : decode cX12_glaze 125 = .ok (.goto (-70), 3) := by decide +kernel
theorem dX12_glaze_128 : decode cX12_glaze 128 = .ok (.iload 4, 2) := by decide +kernel
theorem dX12_glaze_130 : decode cX12_glaze 130 = .ok (.ifCond .ge 6, 3) := by decide +kernel
theorem dX12_glaze_133 : decode cX12_glaze 133 = .ok (.bipush (-2), 2) := by decide +kernel
theorem dX12_glaze_135 : decode cX12_glaze 135 = .ok (.ireturn, 1) := by decide +kernel
theorem dX12_glaze_136 : decode cX12_glaze 136 = .ok (.aload_n 0, 1) := by decide +kernel
theorem dX12_glaze_137 : decode cX12_glaze 137 = .ok (.iconst 0, 1) := by decide +kernel
theorem dX12_glaze_138 : decode cX12_glaze 138 = .ok (.putfield 15, 3) := by decide +kernel
theorem dX12_glaze_141 : decode cX12_glaze 141 = .ok (.aload_n 0, 1) := by decide +kernel
theorem dX12_glaze_142 : decode cX12_glaze 142 = .ok (.iload 4, 2) := by decide +kernel
theorem dX12_glaze_144 : decode cX12_glaze 144 = .ok (.i2l, 1) := by decide +kernel
theorem dX12_glaze_145 : decode cX12_glaze 145 = .ok (.invokevirtual 387, 3) := by decide +kernel
theorem dX12_glaze_148 : decode cX12_glaze 148 = .ok (.iload 4, 2) := by decide +kernel
theorem dX12_glaze_150 : decode cX12_glaze 150 = .ok (.invokestatic 300, 3) := by decide +kernel
theorem dX12_glaze_153 : decode cX12_glaze 153 = .ok (.ireturn, 1) := by decide +kernel
theorem dX12_best_0 : decode cX12_best 0 = .ok (.aload_n 0, 1) := by decide +kernel
theorem dX12_best_1 : decode cX12_best 1 = .ok (.iconst 0, 1) := by decide +kernel
theorem dX12_best_2 : decode cX12_best 2 = .ok (.putfield 3, 3) := by decide +kernel
theorem dX12_best_5 : decode cX12_best 5 = .ok (.aload_n 0, 1) := by decide +kernel
theorem dX12_best_6 : decode cX12_best 6 = .ok (.iload_n 1, 1) := by decide +kernel
theorem dX12_best_7 : decode cX12_best 7 = .ok (.invokevirtual 346, 3) := by decide +kernel
theorem dX12_best_10 : decode cX12_best 10 = .ok (.ifCond .ne 5, 3) := by decide +kernel
theorem dX12_best_13 : decode cX12_best 13 = .ok (.iconst (-1), 1) := by decide +kernel
theorem dX12_best_14 : decode cX12_best 14 = .ok (.ireturn, 1) := by decide +kernel
theorem dX12_best_15 : decode cX12_best 15 = .ok (.aload_n 0, 1) := by decide +kernel
theorem dX12_best_16 : decode cX12_best 16 = .ok (.aload_n 0, 1) := by decide +kernel
theorem dX12_best_17 : decode cX12_best 17 = .ok (.getfield 49, 3) := by decide +kernel
theorem dX12_best_20 : decode cX12_best 20 = .ok (.iload_n 1, 1) := by decide +kernel
theorem dX12_best_21 : decode cX12_best 21 = .ok (.invokevirtual 325, 3) := by decide +kernel
theorem dX12_best_24 : decode cX12_best 24 = .ok (.istore_n 2, 1) := by decide +kernel
theorem dX12_best_25 : decode cX12_best 25 = .ok (.bipush (-2), 2) := by decide +kernel
theorem dX12_best_27 : decode cX12_best 27 = .ok (.istore_n 3, 1) := by decide +kernel
theorem dX12_best_28 : decode cX12_best 28 = .ok (.ldc_w 413, 3) := by decide +kernel
theorem dX12_best_31 : decode cX12_best 31 = .ok (.istore 4, 2) := by decide +kernel
theorem dX12_best_33 : decode cX12_best 33 = .ok (.iconst 0, 1) := by decide +kernel
theorem dX12_best_34 : decode cX12_best 34 = .ok (.istore 5, 2) := by decide +kernel
theorem dX12_best_36 : decode cX12_best 36 = .ok (.iload 5, 2) := by decide +kernel
theorem dX12_best_38 : decode cX12_best 38 = .ok (.aload_n 0, 1) := by decide +kernel
theorem dX12_best_39 : decode cX12_best 39 = .ok (.getfield 147, 3) := by decide +kernel
theorem dX12_best_42 : decode cX12_best 42 = .ok (.if_icmp .ge 63, 3) := by decide +kernel
theorem dX12_best_45 : decode cX12_best 45 = .ok (.iload_n 2, 1) := by decide +kernel
theorem dX12_best_46 : decode cX12_best 46 = .ok (.iload 5, 2) := by decide +kernel
theorem dX12_best_48 : decode cX12_best 48 = .ok (.invokestatic 296, 3) := by decide +kernel
theorem dX12_best_51 : decode cX12_best 51 = .ok (.ifCond .eq 48, 3) := by decide +kernel
theorem dX12_best_54 : decode cX12_best 54 = .ok (.aload_n 0, 1) := by decide +kernel
theorem dX12_best_55 : decode cX12_best 55 = .ok (.aload_n 0, 1) := by decide +kernel
theorem dX12_best_56 : decode cX12_best 56 = .ok (.getfield 49, 3) := by decide +kernel
theorem dX12_best_59 : decode cX12_best 59 = .ok (.iload_n 1, 1) := by decide +kernel
theorem dX12_best_60 : decode cX12_best 60 = .ok (.iload_n 2, 1) := by decide +kernel
theorem dX12_best_61 : decode cX12_best 61 = .ok (.iconst 1, 1) := by decide +kernel
theorem dX12_best_62 : decode cX12_best 62 = .ok (.iload 5, 2) := by decide +kernel
theorem dX12_best_64 : decode cX12_best 64 = .ok (.ishl, 1) := by decide +kernel
theorem dX12_best_65 : decode cX12_best 65 = .ok (.iconst (-1), 1) := by decide +kernel
theorem dX12_best_66 : decode cX12_best 66 = .ok (.ixor, 1) := by decide +kernel
theorem dX12_best_67 : decode cX12_best 67 = .ok (.iand, 1) := by decide +kernel
theorem dX12_best_68 : decode cX12_best 68 = .ok (.invokevirtual 328, 3) := by decide +kernel
theorem dX12_best_71 : decode cX12_best 71 = .ok (.invokestatic 300, 3) := by decide +kernel
theorem dX12_best_74 : decode cX12_best 74 = .ok (.istore 6, 2) := by decide +kernel
theorem dX12_best_76 : decode cX12_best 76 = .ok (.iload 6, 2) := by decide +kernel
theorem dX12_best_78 : decode cX12_best 78 = .ok (.iload 4, 2) := by decide +kernel
theorem dX12_best_80 : decode cX12_best 80 = .ok (.if_icmp .ge 8, 3) := by decide +kernel
theorem dX12_best_83 : decode cX12_best 83 = .ok (.iload 5, 2) := by decide +kernel
theorem dX12_best_85 : decode cX12_best 85 = .ok (.goto 4, 3) := by decide +kernel
theorem dX12_best_88 : decode cX12_best 88 = .ok (.iload_n 3, 1) := by decide +kernel
theorem dX12_best_89 : decode cX12_best 89 = .ok (.istore_n 3, 1) := by decide +kernel
theorem dX12_best_90 : decode cX12_best 90 = .ok (.iload 4, 2) := by decide +kernel
theorem dX12_best_92 : decode cX12_best 92 = .ok (.iload 6, 2) := by decide +kernel
theorem dX12_best_94 : decode cX12_best 94 = .ok (.invokestatic 168, 3) := by decide +kernel
theorem dX12_best_97 : decode cX12_best 97 = .ok (.istore 4, 2) := by decide +kernel
theorem dX12_best_99 : decode cX12_best 99 = .ok (.iinc 5 1, 3) := by decide +kernel
theorem dX12_best_102 : decode cX12_best 102 = .ok (.goto (-66), 3) := by decide +kernel
theorem dX12_best_105 : decode cX12_best 105 = .ok (.iload_n 3, 1) := by decide +kernel
theorem dX12_best_106 : decode cX12_best 106 = .ok (.ifCond .lt 32, 3) := by decide +kernel
theorem dX12_best_109 : decode cX12_best 109 = .ok (.aload_n 0, 1) := by decide +kernel
theorem dX12_best_110 : decode cX12_best 110 = .ok (.iconst 0, 1) := by decide +kernel
theorem dX12_best_111 : decode cX12_best 111 = .ok (.putfield 15, 3) := by decide +kernel
theorem dX12_best_114 : decode cX12_best 114 = .ok (.aload_n 0, 1) := by decide +kernel
theorem dX12_best_115 : decode cX12_best 115 = .ok (.iload 4, 2) := by decide +kernel
theorem dX12_best_117 : decode cX12_best 117 = .ok (.i2l, 1) := by decide +kernel
theorem dX12_best_118 : decode cX12_best 118 = .ok (.invokevirtual 387, 3) := by decide +kernel
theorem dX12_best_121 : decode cX12_best 121 = .ok (.aload_n 0, 1) := by decide +kernel
theorem dX12_best_122 : decode cX12_best 122 = .ok (.aload_n 0, 1) := by decide +kernel
theorem dX12_best_123 : decode cX12_best 123 = .ok (.aload_n 0, 1) := by decide +kernel
theorem dX12_best_124 : decode cX12_best 124 = .ok (.getfield 49, 3) := by decide +kernel
theorem dX12_best_127 : decode cX12_best 127 = .ok (.iload_n 1, 1) := by decide +kernel
theorem dX12_best_128 : decode cX12_best 128 = .ok (.invokevirtual 340, 3) := by decide +kernel
theorem dX12_best_131 : decode cX12_best 131 = .ok (.invokestatic 300, 3) := by decide +kernel
theorem dX12_best_134 : decode cX12_best 134 = .ok (.i2l, 1) := by decide +kernel
theorem dX12_best_135 : decode cX12_best 135 = .ok (.invokevirtual 387, 3) := by decide +kernel
theorem dX12_best_138 : decode cX12_best 138 = .ok (.iload_n 3, 1) := by decide +kernel
theorem dX12_best_139 : decode cX12_best 139 = .ok (.ireturn, 1) := by decide +kernel
theorem dX12_adds_0 : decode cX12_adds 0 = .ok (.aload_n 0, 1) := by decide +kernel
theorem dX12_adds_1 : decode cX12_adds 1 = .ok (.iconst 0, 1) := by decide +kernel
theorem dX12_adds_2 : decode cX12_adds 2 = .ok (.putfield 3, 3) := by decide +kernel
theorem dX12_adds_5 : decode cX12_adds 5 = .ok (.aload_n 0, 1) := by decide +kernel
theorem dX12_adds_6 : decode cX12_adds 6 = .ok (.iload_n 1, 1) := by decide +kernel
theorem dX12_adds_7 : decode cX12_adds 7 = .ok (.invokevirtual 343, 3) := by decide +kernel
theorem dX12_adds_10 : decode cX12_adds 10 = .ok (.ifCond .ne 5, 3) := by decide +kernel
theorem dX12_adds_13 : decode cX12_adds 13 = .ok (.iconst (-1), 1) := by decide +kernel
theorem dX12_adds_14 : decode cX12_adds 14 = .ok (.ireturn, 1) := by decide +kernel
theorem dX12_adds_15 : decode cX12_adds 15 = .ok (.aload_n 0, 1) := by decide +kernel
theorem dX12_adds_16 : decode cX12_adds 16 = .ok (.getfield 49, 3) := by decide +kernel
theorem dX12_adds_19 : decode cX12_adds 19 = .ok (.bipush 16, 2) := by decide +kernel
theorem dX12_adds_21 : decode cX12_adds 21 = .ok (.iload_n 1, 1) := by decide +kernel
theorem dX12_adds_22 : decode cX12_adds 22 = .ok (.iadd, 1) := by decide +kernel
theorem dX12_adds_23 : decode cX12_adds 23 = .ok (.iaload, 1) := by decide +kernel
theorem dX12_adds_24 : decode cX12_adds 24 = .ok (.istore_n 2, 1) := by decide +kernel
theorem dX12_adds_25 : decode cX12_adds 25 = .ok (.iload_n 2, 1) := by decide +kernel
theorem dX12_adds_26 : decode cX12_adds 26 = .ok (.ifCond .ge 6, 3) := by decide +kernel
theorem dX12_adds_29 : decode cX12_adds 29 = .ok (.bipush (-2), 2) := by decide +kernel
theorem dX12_adds_31 : decode cX12_adds 31 = .ok (.ireturn, 1) := by decide +kernel
theorem dX12_adds_32 : decode cX12_adds 32 = .ok (.aload_n 0, 1) := by decide +kernel
theorem dX12_adds_33 : decode cX12_adds 33 = .ok (.aload_n 0, 1) := by decide +kernel
theorem dX12_adds_34 : decode cX12_adds 34 = .ok (.getfield 49, 3) := by decide +kernel
theorem dX12_adds_37 : decode cX12_adds 37 = .ok (.iload_n 2, 1) := by decide +kernel
theorem dX12_adds_38 : decode cX12_adds 38 = .ok (.invokevirtual 325, 3) := by decide +kernel
theorem dX12_adds_41 : decode cX12_adds 41 = .ok (.iconst 1, 1) := by decide +kernel
theorem dX12_adds_42 : decode cX12_adds 42 = .ok (.iload_n 1, 1) := by decide +kernel
theorem dX12_adds_43 : decode cX12_adds 43 = .ok (.ishl, 1) := by decide +kernel
theorem dX12_adds_44 : decode cX12_adds 44 = .ok (.iconst (-1), 1) := by decide +kernel
theorem dX12_adds_45 : decode cX12_adds 45 = .ok (.ixor, 1) := by decide +kernel
theorem dX12_adds_46 : decode cX12_adds 46 = .ok (.iand, 1) := by decide +kernel
theorem dX12_adds_47 : decode cX12_adds 47 = .ok (.istore_n 3, 1) := by decide +kernel
theorem dX12_adds_48 : decode cX12_adds 48 = .ok (.iconst 0, 1) := by decide +kernel
theorem dX12_adds_49 : decode cX12_adds 49 = .ok (.istore 4, 2) := by decide +kernel
theorem dX12_adds_51 : decode cX12_adds 51 = .ok (.iconst 0, 1) := by decide +kernel
theorem dX12_adds_52 : decode cX12_adds 52 = .ok (.istore 5, 2) := by decide +kernel
theorem dX12_adds_54 : decode cX12_adds 54 = .ok (.iload 5, 2) := by decide +kernel
theorem dX12_adds_56 : decode cX12_adds 56 = .ok (.iload_n 3, 1) := by decide +kernel
theorem dX12_adds_57 : decode cX12_adds 57 = .ok (.if_icmp .gt 72, 3) := by decide +kernel
theorem dX12_adds_60 : decode cX12_adds 60 = .ok (.iload 5, 2) := by decide +kernel
theorem dX12_adds_62 : decode cX12_adds 62 = .ok (.iload_n 3, 1) := by decide +kernel
theorem dX12_adds_63 : decode cX12_adds 63 = .ok (.iconst (-1), 1) := by decide +kernel
theorem dX12_adds_64 : decode cX12_adds 64 = .ok (.ixor, 1) := by decide +kernel
theorem dX12_adds_65 : decode cX12_adds 65 = .ok (.iand, 1) := by decide +kernel
theorem dX12_adds_66 : decode cX12_adds 66 = .ok (.ifCond .ne 7, 3) := by decide +kernel
theorem dX12_adds_69 : decode cX12_adds 69 = .ok (.iconst 1, 1) := by decide +kernel
theorem dX12_adds_70 : decode cX12_adds 70 = .ok (.goto 4, 3) := by decide +kernel
theorem dX12_adds_73 : decode cX12_adds 73 = .ok (.iconst 0, 1) := by decide +kernel
theorem dX12_adds_74 : decode cX12_adds 74 = .ok (.istore 6, 2) := by decide +kernel
theorem dX12_adds_76 : decode cX12_adds 76 = .ok (.iload 4, 2) := by decide +kernel
theorem dX12_adds_78 : decode cX12_adds 78 = .ok (.iload 6, 2) := by decide +kernel
theorem dX12_adds_80 : decode cX12_adds 80 = .ok (.ifCond .eq 36, 3) := by decide +kernel
theorem dX12_adds_83 : decode cX12_adds 83 = .ok (.aload_n 0, 1) := by decide +kernel
theorem dX12_adds_84 : decode cX12_adds 84 = .ok (.aload_n 0, 1) := by decide +kernel
theorem dX12_adds_85 : decode cX12_adds 85 = .ok (.getfield 49, 3) := by decide +kernel
theorem dX12_adds_88 : decode cX12_adds 88 = .ok (.iload_n 2, 1) := by decide +kernel
theorem dX12_adds_89 : decode cX12_adds 89 = .ok (.iload 5, 2) := by decide +kernel
theorem dX12_adds_91 : decode cX12_adds 91 = .ok (.invokevirtual 328, 3) := by decide +kernel
theorem dX12_adds_94 : decode cX12_adds 94 = .ok (.aload_n 0, 1) := by decide +kernel
theorem dX12_adds_95 : decode cX12_adds 95 = .ok (.aload_n 0, 1) := by decide +kernel
theorem dX12_adds_96 : decode cX12_adds 96 = .ok (.getfield 49, 3) := by decide +kernel
theorem dX12_adds_99 : decode cX12_adds 99 = .ok (.iload_n 2, 1) := by decide +kernel
theorem dX12_adds_100 : decode cX12_adds 100 = .ok (.iload 5, 2) := by decide +kernel
theorem dX12_adds_102 : decode cX12_adds 102 = .ok (.iconst 1, 1) := by decide +kernel
theorem dX12_adds_103 : decode cX12_adds 103 = .ok (.iload_n 1, 1) := by decide +kernel
theorem dX12_adds_104 : decode cX12_adds 104 = .ok (.ishl, 1) := by decide +kernel
theorem dX12_adds_105 : decode cX12_adds 105 = .ok (.ior, 1) := by decide +kernel
theorem dX12_adds_106 : decode cX12_adds 106 = .ok (.invokevirtual 328, 3) := by decide +kernel
theorem dX12_adds_109 : decode cX12_adds 109 = .ok (.if_icmp .eq 7, 3) := by decide +kernel
theorem dX12_adds_112 : decode cX12_adds 112 = .ok (.iconst 1, 1) := by decide +kernel
theorem dX12_adds_113 : decode cX12_adds 113 = .ok (.goto 4, 3) := by decide +kernel
theorem dX12_adds_116 : decode cX12_adds 116 = .ok (.iconst 0, 1) := by decide +kernel
theorem dX12_adds_117 : decode cX12_adds 117 = .ok (.invokestatic 175, 3) := by decide +kernel
theorem dX12_adds_120 : decode cX12_adds 120 = .ok (.iadd, 1) := by decide +kernel
theorem dX12_adds_121 : decode cX12_adds 121 = .ok (.istore 4, 2) := by decide +kernel
theorem dX12_adds_123 : decode cX12_adds 123 = .ok (.iinc 5 1, 3) := by decide +kernel
theorem dX12_adds_126 : decode cX12_adds 126 = .ok (.goto (-72), 3) := by decide +kernel
theorem dX12_adds_129 : decode cX12_adds 129 = .ok (.aload_n 0, 1) := by decide +kernel
theorem dX12_adds_130 : decode cX12_adds 130 = .ok (.iconst 0, 1) := by decide +kernel
theorem dX12_adds_131 : decode cX12_adds 131 = .ok (.putfield 15, 3) := by decide +kernel
theorem dX12_adds_134 : decode cX12_adds 134 = .ok (.aload_n 0, 1) := by decide +kernel
theorem dX12_adds_135 : decode cX12_adds 135 = .ok (.iconst 1, 1) := by decide +kernel
theorem dX12_adds_136 : decode cX12_adds 136 = .ok (.iload_n 3, 1) := by decide +kernel
theorem dX12_adds_137 : decode cX12_adds 137 = .ok (.invokestatic 300, 3) := by decide +kernel
theorem dX12_adds_140 : decode cX12_adds 140 = .ok (.ishl, 1) := by decide +kernel
theorem dX12_adds_141 : decode cX12_adds 141 = .ok (.i2l, 1) := by decide +kernel
theorem dX12_adds_142 : decode cX12_adds 142 = .ok (.invokevirtual 387, 3) := by decide +kernel
theorem dX12_adds_145 : decode cX12_adds 145 = .ok (.iload 4, 2) := by decide +kernel
theorem dX12_adds_147 : decode cX12_adds 147 = .ok (.ireturn, 1) := by decide +kernel
theorem dX12_isBeing_0 : decode cX12_isBeing 0 = .ok (.iload_n 1, 1) := by decide +kernel
theorem dX12_isBeing_1 : decode cX12_isBeing 1 = .ok (.i2l, 1) := by decide +kernel
theorem dX12_isBeing_2 : decode cX12_isBeing 2 = .ok (.lconst 0, 1) := by decide +kernel
theorem dX12_isBeing_3 : decode cX12_isBeing 3 = .ok (.ldc2_w 414, 3) := by decide +kernel
theorem dX12_isBeing_6 : decode cX12_isBeing 6 = .ok (.invokestatic 143, 3) := by decide +kernel
theorem dX12_isBeing_9 : decode cX12_isBeing 9 = .ok (.ifCond .eq 19, 3) := by decide +kernel
theorem dX12_isBeing_12 : decode cX12_isBeing 12 = .ok (.iload_n 2, 1) := by decide +kernel
theorem dX12_isBeing_13 : decode cX12_isBeing 13 = .ok (.i2l, 1) := by decide +kernel
theorem dX12_isBeing_14 : decode cX12_isBeing 14 = .ok (.lconst 0, 1) := by decide +kernel
theorem dX12_isBeing_15 : decode cX12_isBeing 15 = .ok (.ldc2_w 416, 3) := by decide +kernel
theorem dX12_isBeing_18 : decode cX12_isBeing 18 = .ok (.invokestatic 143, 3) := by decide +kernel
theorem dX12_isBeing_21 : decode cX12_isBeing 21 = .ok (.ifCond .eq 7, 3) := by decide +kernel
theorem dX12_isBeing_24 : decode cX12_isBeing 24 = .ok (.iconst 1, 1) := by decide +kernel
theorem dX12_isBeing_25 : decode cX12_isBeing 25 = .ok (.goto 4, 3) := by decide +kernel
theorem dX12_isBeing_28 : decode cX12_isBeing 28 = .ok (.iconst 0, 1) := by decide +kernel
theorem dX12_isBeing_29 : decode cX12_isBeing 29 = .ok (.ireturn, 1) := by decide +kernel
theorem dX12_laysDark_0 : decode cX12_laysDark 0 = .ok (.iconst 0, 1) := by decide +kernel
theorem dX12_laysDark_1 : decode cX12_laysDark 1 = .ok (.istore 4, 2) := by decide +kernel
theorem dX12_laysDark_3 : decode cX12_laysDark 3 = .ok (.iconst 0, 1) := by decide +kernel
theorem dX12_laysDark_4 : decode cX12_laysDark 4 = .ok (.istore 5, 2) := by decide +kernel
theorem dX12_laysDark_6 : decode cX12_laysDark 6 = .ok (.iload 5, 2) := by decide +kernel
theorem dX12_laysDark_8 : decode cX12_laysDark 8 = .ok (.aload_n 0, 1) := by decide +kernel
theorem dX12_laysDark_9 : decode cX12_laysDark 9 = .ok (.getfield 24, 3) := by decide +kernel
theorem dX12_laysDark_12 : decode cX12_laysDark 12 = .ok (.aload_n 0, 1) := by decide +kernel
theorem dX12_laysDark_13 : decode cX12_laysDark 13 = .ok (.getfield 27, 3) := by decide +kernel
theorem dX12_laysDark_16 : decode cX12_laysDark 16 = .ok (.imul, 1) := by decide +kernel
theorem dX12_laysDark_17 : decode cX12_laysDark 17 = .ok (.if_icmp .ge 48, 3) := by decide +kernel
theorem dX12_laysDark_20 : decode cX12_laysDark 20 = .ok (.aload_n 0, 1) := by decide +kernel
theorem dX12_laysDark_21 : decode cX12_laysDark 21 = .ok (.getfield 94, 3) := by decide +kernel
theorem dX12_laysDark_24 : decode cX12_laysDark 24 = .ok (.iload 5, 2) := by decide +kernel
theorem dX12_laysDark_26 : decode cX12_laysDark 26 = .ok (.aload_n 0, 1) := by decide +kernel
theorem dX12_laysDark_27 : decode cX12_laysDark 27 = .ok (.aload_n 1, 1) := by decide +kernel
theorem dX12_laysDark_28 : decode cX12_laysDark 28 = .ok (.iload 5, 2) := by decide +kernel
theorem dX12_laysDark_30 : decode cX12_laysDark 30 = .ok (.iload_n 2, 1) := by decide +kernel
theorem dX12_laysDark_31 : decode cX12_laysDark 31 = .ok (.iload_n 3, 1) := by decide +kernel
theorem dX12_laysDark_32 : decode cX12_laysDark 32 = .ok (.invokevirtual 418, 3) := by decide +kernel
theorem dX12_laysDark_35 : decode cX12_laysDark 35 = .ok (.ifCond .ne 7, 3) := by decide +kernel
theorem dX12_laysDark_38 : decode cX12_laysDark 38 = .ok (.iconst 1, 1) := by decide +kernel
theorem dX12_laysDark_39 : decode cX12_laysDark 39 = .ok (.goto 4, 3) := by decide +kernel
theorem dX12_laysDark_42 : decode cX12_laysDark 42 = .ok (.iconst 0, 1) := by decide +kernel
theorem dX12_laysDark_43 : decode cX12_laysDark 43 = .ok (.bastore, 1) := by decide +kernel
theorem dX12_laysDark_44 : decode cX12_laysDark 44 = .ok (.iload 4, 2) := by decide +kernel
theorem dX12_laysDark_46 : decode cX12_laysDark 46 = .ok (.aload_n 0, 1) := by decide +kernel
theorem dX12_laysDark_47 : decode cX12_laysDark 47 = .ok (.getfield 94, 3) := by decide +kernel
theorem dX12_laysDark_50 : decode cX12_laysDark 50 = .ok (.iload 5, 2) := by decide +kernel
theorem dX12_laysDark_52 : decode cX12_laysDark 52 = .ok (.baload, 1) := by decide +kernel
theorem dX12_laysDark_53 : decode cX12_laysDark 53 = .ok (.invokestatic 175, 3) := by decide +kernel
theorem dX12_laysDark_56 : decode cX12_laysDark 56 = .ok (.iadd, 1) := by decide +kernel
theorem dX12_laysDark_57 : decode cX12_laysDark 57 = .ok (.istore 4, 2) := by decide +kernel
theorem dX12_laysDark_59 : decode cX12_laysDark 59 = .ok (.iinc 5 1, 3) := by decide +kernel
theorem dX12_laysDark_62 : decode cX12_laysDark 62 = .ok (.goto (-56), 3) := by decide +kernel
theorem dX12_laysDark_65 : decode cX12_laysDark 65 = .ok (.iload 4, 2) := by decide +kernel
theorem dX12_laysDark_67 : decode cX12_laysDark 67 = .ok (.ireturn, 1) := by decide +kernel
theorem dX12_steals_0 : decode cX12_steals 0 = .ok (.aload_n 0, 1) := by decide +kernel
theorem dX12_steals_1 : decode cX12_steals 1 = .ok (.iconst 0, 1) := by decide +kernel
theorem dX12_steals_2 : decode cX12_steals 2 = .ok (.putfield 3, 3) := by decide +kernel
theorem dX12_steals_5 : decode cX12_steals 5 = .ok (.aload_n 0, 1) := by decide +kernel
theorem dX12_steals_6 : decode cX12_steals 6 = .ok (.iload_n 1, 1) := by decide +kernel
theorem dX12_steals_7 : decode cX12_steals 7 = .ok (.invokevirtual 364, 3) := by decide +kernel
theorem dX12_steals_10 : decode cX12_steals 10 = .ok (.ifCond .eq 21, 3) := by decide +kernel
theorem dX12_steals_13 : decode cX12_steals 13 = .ok (.aload_n 0, 1) := by decide +kernel
theorem dX12_steals_14 : decode cX12_steals 14 = .ok (.iload_n 2, 1) := by decide +kernel
theorem dX12_steals_15 : decode cX12_steals 15 = .ok (.invokevirtual 364, 3) := by decide +kernel
theorem dX12_steals_18 : decode cX12_steals 18 = .ok (.ifCond .eq 13, 3) := by decide +kernel
theorem dX12_steals_21 : decode cX12_steals 21 = .ok (.aload_n 0, 1) := by decide +kernel
theorem dX12_steals_22 : decode cX12_steals 22 = .ok (.iload_n 3, 1) := by decide +kernel
theorem dX12_steals_23 : decode cX12_steals 23 = .ok (.iload 4, 2) := by decide +kernel
theorem dX12_steals_25 : decode cX12_steals 25 = .ok (.invokevirtual 421, 3) := by decide +kernel
theorem dX12_steals_28 : decode cX12_steals 28 = .ok (.ifCond .ne 5, 3) := by decide +kernel
theorem dX12_steals_31 : decode cX12_steals 31 = .ok (.iconst (-1), 1) := by decide +kernel
theorem dX12_steals_32 : decode cX12_steals 32 = .ok (.ireturn, 1) := by decide +kernel
theorem dX12_steals_33 : decode cX12_steals 33 = .ok (.aload_n 0, 1) := by decide +kernel
theorem dX12_steals_34 : decode cX12_steals 34 = .ok (.aload_n 0, 1) := by decide +kernel
theorem dX12_steals_35 : decode cX12_steals 35 = .ok (.getfield 49, 3) := by decide +kernel
theorem dX12_steals_38 : decode cX12_steals 38 = .ok (.iload_n 3, 1) := by decide +kernel
theorem dX12_steals_39 : decode cX12_steals 39 = .ok (.iload 4, 2) := by decide +kernel
theorem dX12_steals_41 : decode cX12_steals 41 = .ok (.invokevirtual 424, 3) := by decide +kernel
theorem dX12_steals_44 : decode cX12_steals 44 = .ok (.pop, 1) := by decide +kernel
theorem dX12_steals_45 : decode cX12_steals 45 = .ok (.iconst 0, 1) := by decide +kernel
theorem dX12_steals_46 : decode cX12_steals 46 = .ok (.istore 5, 2) := by decide +kernel
theorem dX12_steals_48 : decode cX12_steals 48 = .ok (.iload 5, 2) := by decide +kernel
theorem dX12_steals_50 : decode cX12_steals 50 = .ok (.aload_n 0, 1) := by decide +kernel
theorem dX12_steals_51 : decode cX12_steals 51 = .ok (.getfield 24, 3) := by decide +kernel
theorem dX12_steals_54 : decode cX12_steals 54 = .ok (.aload_n 0, 1) := by decide +kernel
theorem dX12_steals_55 : decode cX12_steals 55 = .ok (.getfield 27, 3) := by decide +kernel
theorem dX12_steals_58 : decode cX12_steals 58 = .ok (.imul, 1) := by decide +kernel
theorem dX12_steals_59 : decode cX12_steals 59 = .ok (.if_icmp .ge 39, 3) := by decide +kernel
theorem dX12_steals_62 : decode cX12_steals 62 = .ok (.aload_n 0, 1) := by decide +kernel
theorem dX12_steals_63 : decode cX12_steals 63 = .ok (.getfield 98, 3) := by decide +kernel
theorem dX12_steals_66 : decode cX12_steals 66 = .ok (.iload 5, 2) := by decide +kernel
theorem dX12_steals_68 : decode cX12_steals 68 = .ok (.iload 5, 2) := by decide +kernel
theorem dX12_steals_70 : decode cX12_steals 70 = .ok (.iload_n 2, 1) := by decide +kernel
theorem dX12_steals_71 : decode cX12_steals 71 = .ok (.if_icmp .ne 17, 3) := by decide +kernel
theorem dX12_steals_74 : decode cX12_steals 74 = .ok (.aload_n 0, 1) := by decide +kernel
theorem dX12_steals_75 : decode cX12_steals 75 = .ok (.getfield 94, 3) := by decide +kernel
theorem dX12_steals_78 : decode cX12_steals 78 = .ok (.iload 5, 2) := by decide +kernel
theorem dX12_steals_80 : decode cX12_steals 80 = .ok (.baload, 1) := by decide +kernel
theorem dX12_steals_81 : decode cX12_steals 81 = .ok (.ifCond .eq 7, 3) := by decide +kernel
theorem dX12_steals_84 : decode cX12_steals 84 = .ok (.iconst 0, 1) := by decide +kernel
theorem dX12_steals_85 : decode cX12_steals 85 = .ok (.goto 6, 3) := by decide +kernel
theorem dX12_steals_88 : decode cX12_steals 88 = .ok (.ldc_w 413, 3) := by decide +kernel
theorem dX12_steals_91 : decode cX12_steals 91 = .ok (.iastore, 1) := by decide +kernel
theorem dX12_steals_92 : decode cX12_steals 92 = .ok (.iinc 5 1, 3) := by decide +kernel
theorem dX12_steals_95 : decode cX12_steals 95 = .ok (.goto (-47), 3) := by decide +kernel
theorem dX12_steals_98 : decode cX12_steals 98 = .ok (.iconst 0, 1) := by decide +kernel
theorem dX12_steals_99 : decode cX12_steals 99 = .ok (.istore 5, 2) := by decide +kernel
theorem dX12_steals_101 : decode cX12_steals 101 = .ok (.iload 5, 2) := by decide +kernel
theorem dX12_steals_103 : decode cX12_steals 103 = .ok (.aload_n 0, 1) := by decide +kernel
theorem dX12_steals_104 : decode cX12_steals 104 = .ok (.getfield 24, 3) := by decide +kernel
theorem dX12_steals_107 : decode cX12_steals 107 = .ok (.aload_n 0, 1) := by decide +kernel
theorem dX12_steals_108 : decode cX12_steals 108 = .ok (.getfield 27, 3) := by decide +kernel
theorem dX12_steals_111 : decode cX12_steals 111 = .ok (.imul, 1) := by decide +kernel
theorem dX12_steals_112 : decode cX12_steals 112 = .ok (.if_icmp .ge 108, 3) := by decide +kernel
theorem dX12_steals_115 : decode cX12_steals 115 = .ok (.iconst 0, 1) := by decide +kernel
theorem dX12_steals_116 : decode cX12_steals 116 = .ok (.istore 6, 2) := by decide +kernel
theorem dX12_steals_118 : decode cX12_steals 118 = .ok (.iload 6, 2) := by decide +kernel
theorem dX12_steals_120 : decode cX12_steals 120 = .ok (.aload_n 0, 1) := by decide +kernel
theorem dX12_steals_121 : decode cX12_steals 121 = .ok (.getfield 24, 3) := by decide +kernel
theorem dX12_steals_124 : decode cX12_steals 124 = .ok (.aload_n 0, 1) := by decide +kernel
theorem dX12_steals_125 : decode cX12_steals 125 = .ok (.getfield 27, 3) := by decide +kernel
theorem dX12_steals_128 : decode cX12_steals 128 = .ok (.imul, 1) := by decide +kernel
theorem dX12_steals_129 : decode cX12_steals 129 = .ok (.if_icmp .ge 85, 3) := by decide +kernel
theorem dX12_steals_132 : decode cX12_steals 132 = .ok (.iconst 0, 1) := by decide +kernel
theorem dX12_steals_133 : decode cX12_steals 133 = .ok (.istore 7, 2) := by decide +kernel
theorem dX12_steals_135 : decode cX12_steals 135 = .ok (.iload 7, 2) := by decide +kernel
theorem dX12_steals_137 : decode cX12_steals 137 = .ok (.iconst 4, 1) := by decide +kernel
theorem dX12_steals_138 : decode cX12_steals 138 = .ok (.if_icmp .ge 70, 3) := by decide +kernel
theorem dX12_steals_141 : decode cX12_steals 141 = .ok (.aload_n 0, 1) := by decide +kernel
theorem dX12_steals_142 : decode cX12_steals 142 = .ok (.iload 6, 2) := by decide +kernel
theorem dX12_steals_144 : decode cX12_steals 144 = .ok (.iload 7, 2) := by decide +kernel
theorem dX12_steals_146 : decode cX12_steals 146 = .ok (.invokevirtual 357, 3) := by decide +kernel
theorem dX12_steals_149 : decode cX12_steals 149 = .ok (.istore 8, 2) := by decide +kernel
theorem dX12_steals_151 : decode cX12_steals 151 = .ok (.aload_n 0, 1) := by decide +kernel
theorem dX12_steals_152 : decode cX12_steals 152 = .ok (.getfield 98, 3) := by decide +kernel
theorem dX12_steals_155 : decode cX12_steals 155 = .ok (.iload 6, 2) := by decide +kernel
theorem dX12_steals_157 : decode cX12_steals 157 = .ok (.iload 8, 2) := by decide +kernel
theorem dX12_steals_159 : decode cX12_steals 159 = .ok (.ifCond .lt 35, 3) := by decide +kernel
theorem dX12_steals_162 : decode cX12_steals 162 = .ok (.aload_n 0, 1) := by decide +kernel
theorem dX12_steals_163 : decode cX12_steals 163 = .ok (.getfield 94, 3) := by decide +kernel
theorem dX12_steals_166 : decode cX12_steals 166 = .ok (.iload 6, 2) := by decide +kernel
theorem dX12_steals_168 : decode cX12_steals 168 = .ok (.baload, 1) := by decide +kernel
theorem dX12_steals_169 : decode cX12_steals 169 = .ok (.ifCond .eq 25, 3) := by decide +kernel
theorem dX12_steals_172 : decode cX12_steals 172 = .ok (.aload_n 0, 1) := by decide +kernel
theorem dX12_steals_173 : decode cX12_steals 173 = .ok (.getfield 98, 3) := by decide +kernel
theorem dX12_steals_176 : decode cX12_steals 176 = .ok (.iload 6, 2) := by decide +kernel
theorem dX12_steals_178 : decode cX12_steals 178 = .ok (.iaload, 1) := by decide +kernel
theorem dX12_steals_179 : decode cX12_steals 179 = .ok (.aload_n 0, 1) := by decide +kernel
theorem dX12_steals_180 : decode cX12_steals 180 = .ok (.getfield 98, 3) := by decide +kernel
theorem dX12_steals_183 : decode cX12_steals 183 = .ok (.iload 8, 2) := by decide +kernel
theorem dX12_steals_185 : decode cX12_steals 185 = .ok (.iaload, 1) := by decide +kernel
theorem dX12_steals_186 : decode cX12_steals 186 = .ok (.iconst 1, 1) := by decide +kernel
theorem dX12_steals_187 : decode cX12_steals 187 = .ok (.iadd, 1) := by decide +kernel
theorem dX12_steals_188 : decode cX12_steals 188 = .ok (.invokestatic 168, 3) := by decide +kernel
theorem dX12_steals_191 : decode cX12_steals 191 = .ok (.goto 10, 3) := by decide +kernel
theorem dX12_steals_194 : decode cX12_steals 194 = .ok (.aload_n 0, 1) := by decide +kernel
theorem dX12_steals_195 : decode cX12_steals 195 = .ok (.getfield 98, 3) := by decide +kernel
theorem dX12_steals_198 : decode cX12_steals 198 = .ok (.iload 6, 2) := by decide +kernel
theorem dX12_steals_200 : decode cX12_steals 200 = .ok (.iaload, 1) := by decide +kernel
theorem dX12_steals_201 : decode cX12_steals 201 = .ok (.iastore, 1) := by decide +kernel
theorem dX12_steals_202 : decode cX12_steals 202 = .ok (.iinc 7 1, 3) := by decide +kernel
theorem dX12_steals_205 : decode cX12_steals 205 = .ok (.goto (-70), 3) := by decide +kernel
theorem dX12_steals_208 : decode cX12_steals 208 = .ok (.iinc 6 1, 3) := by decide +kernel
theorem dX12_steals_211 : decode cX12_steals 211 = .ok (.goto (-93), 3) := by decide +kernel
theorem dX12_steals_214 : decode cX12_steals 214 = .ok (.iinc 5 1, 3) := by decide +kernel
theorem dX12_steals_217 : decode cX12_steals 217 = .ok (.goto (-116), 3) := by decide +kernel
theorem dX12_steals_220 : decode cX12_steals 220 = .ok (.aload_n 0, 1) := by decide +kernel
theorem dX12_steals_221 : decode cX12_steals 221 = .ok (.getfield 98, 3) := by decide +kernel
theorem dX12_steals_224 : decode cX12_steals 224 = .ok (.iload_n 1, 1) := by decide +kernel
theorem dX12_steals_225 : decode cX12_steals 225 = .ok (.iaload, 1) := by decide +kernel
theorem dX12_steals_226 : decode cX12_steals 226 = .ok (.ldc_w 413, 3) := by decide +kernel
theorem dX12_steals_229 : decode cX12_steals 229 = .ok (.if_icmp .lt 6, 3) := by decide +kernel
theorem dX12_steals_232 : decode cX12_steals 232 = .ok (.bipush (-2), 2) := by decide +kernel
theorem dX12_steals_234 : decode cX12_steals 234 = .ok (.ireturn, 1) := by decide +kernel
theorem dX12_steals_235 : decode cX12_steals 235 = .ok (.aload_n 0, 1) := by decide +kernel
theorem dX12_steals_236 : decode cX12_steals 236 = .ok (.iconst 0, 1) := by decide +kernel
theorem dX12_steals_237 : decode cX12_steals 237 = .ok (.putfield 15, 3) := by decide +kernel
theorem dX12_steals_240 : decode cX12_steals 240 = .ok (.iload_n 1, 1) := by decide +kernel
theorem dX12_steals_241 : decode cX12_steals 241 = .ok (.istore 5, 2) := by decide +kernel
theorem dX12_steals_243 : decode cX12_steals 243 = .ok (.aload_n 0, 1) := by decide +kernel
theorem dX12_steals_244 : decode cX12_steals 244 = .ok (.iload 5, 2) := by decide +kernel
theorem dX12_steals_246 : decode cX12_steals 246 = .ok (.i2l, 1) := by decide +kernel
theorem dX12_steals_247 : decode cX12_steals 247 = .ok (.invokevirtual 387, 3) := by decide +kernel
theorem dX12_steals_250 : decode cX12_steals 250 = .ok (.iload 5, 2) := by decide +kernel
theorem dX12_steals_252 : decode cX12_steals 252 = .ok (.iload_n 2, 1) := by decide +kernel
theorem dX12_steals_253 : decode cX12_steals 253 = .ok (.if_icmp .eq 88, 3) := by decide +kernel
theorem dX12_steals_256 : decode cX12_steals 256 = .ok (.iconst (-1), 1) := by decide +kernel
theorem dX12_steals_257 : decode cX12_steals 257 = .ok (.istore 6, 2) := by decide +kernel
theorem dX12_steals_259 : decode cX12_steals 259 = .ok (.iconst 0, 1) := by decide +kernel
theorem dX12_steals_260 : decode cX12_steals 260 = .ok (.istore 7, 2) := by decide +kernel
theorem dX12_steals_262 : decode cX12_steals 262 = .ok (.iload 7, 2) := by decide +kernel
theorem dX12_steals_264 : decode cX12_steals 264 = .ok (.aload_n 0, 1) := by decide +kernel
theorem dX12_steals_265 : decode cX12_steals 265 = .ok (.getfield 24, 3) := by decide +kernel
theorem dX12_steals_268 : decode cX12_steals 268 = .ok (.aload_n 0, 1) := by decide +kernel
theorem dX12_steals_269 : decode cX12_steals 269 = .ok (.getfield 27, 3) := by decide +kernel
theorem dX12_steals_272 : decode cX12_steals 272 = .ok (.imul, 1) := by decide +kernel
theorem dX12_steals_273 : decode cX12_steals 273 = .ok (.if_icmp .ge 54, 3) := by decide +kernel
theorem dX12_steals_276 : decode cX12_steals 276 = .ok (.iload 6, 2) := by decide +kernel
theorem dX12_steals_278 : decode cX12_steals 278 = .ok (.ifCond .ge 39, 3) := by decide +kernel
theorem dX12_steals_281 : decode cX12_steals 281 = .ok (.aload_n 0, 1) := by decide +kernel
theorem dX12_steals_282 : decode cX12_steals 282 = .ok (.iload 5, 2) := by decide +kernel
theorem dX12_steals_284 : decode cX12_steals 284 = .ok (.iload 7, 2) := by decide +kernel
theorem dX12_steals_286 : decode cX12_steals 286 = .ok (.invokevirtual 312, 3) := by decide +kernel
theorem dX12_steals_289 : decode cX12_steals 289 = .ok (.iconst 1, 1) := by decide +kernel
theorem dX12_steals_290 : decode cX12_steals 290 = .ok (.if_icmp .ne 27, 3) := by decide +kernel
theorem dX12_steals_293 : decode cX12_steals 293 = .ok (.aload_n 0, 1) := by decide +kernel
theorem dX12_steals_294 : decode cX12_steals 294 = .ok (.getfield 98, 3) := by decide +kernel
theorem dX12_steals_297 : decode cX12_steals 297 = .ok (.iload 7, 2) := by decide +kernel
theorem dX12_steals_299 : decode cX12_steals 299 = .ok (.iaload, 1) := by decide +kernel
theorem dX12_steals_300 : decode cX12_steals 300 = .ok (.aload_n 0, 1) := by decide +kernel
theorem dX12_steals_301 : decode cX12_steals 301 = .ok (.getfield 98, 3) := by decide +kernel
theorem dX12_steals_304 : decode cX12_steals 304 = .ok (.iload 5, 2) := by decide +kernel
theorem dX12_steals_306 : decode cX12_steals 306 = .ok (.iaload, 1) := by decide +kernel
theorem dX12_steals_307 : decode cX12_steals 307 = .ok (.iconst 1, 1) := by decide +kernel
theorem dX12_steals_308 : decode cX12_steals 308 = .ok (.isub, 1) := by decide +kernel
theorem dX12_steals_309 : decode cX12_steals 309 = .ok (.if_icmp .ne 8, 3) := by decide +kernel
theorem dX12_steals_312 : decode cX12_steals 312 = .ok (.iload 7, 2) := by decide +kernel
theorem dX12_steals_314 : decode cX12_steals 314 = .ok (.goto 5, 3) := by decide +kernel
theorem dX12_steals_317 : decode cX12_steals 317 = .ok (.iload 6, 2) := by decide +kernel
theorem dX12_steals_319 : decode cX12_steals 319 = .ok (.istore 6, 2) := by decide +kernel
theorem dX12_steals_321 : decode cX12_steals 321 = .ok (.iinc 7 1, 3) := by decide +kernel
theorem dX12_steals_324 : decode cX12_steals 324 = .ok (.goto (-62), 3) := by decide +kernel
theorem dX12_steals_327 : decode cX12_steals 327 = .ok (.iload 6, 2) := by decide +kernel
theorem dX12_steals_329 : decode cX12_steals 329 = .ok (.istore 5, 2) := by decide +kernel
theorem dX12_steals_331 : decode cX12_steals 331 = .ok (.aload_n 0, 1) := by decide +kernel
theorem dX12_steals_332 : decode cX12_steals 332 = .ok (.iload 5, 2) := by decide +kernel
theorem dX12_steals_334 : decode cX12_steals 334 = .ok (.i2l, 1) := by decide +kernel
theorem dX12_steals_335 : decode cX12_steals 335 = .ok (.invokevirtual 387, 3) := by decide +kernel
theorem dX12_steals_338 : decode cX12_steals 338 = .ok (.goto (-88), 3) := by decide +kernel
theorem dX12_steals_341 : decode cX12_steals 341 = .ok (.aload_n 0, 1) := by decide +kernel
theorem dX12_steals_342 : decode cX12_steals 342 = .ok (.getfield 98, 3) := by decide +kernel
theorem dX12_steals_345 : decode cX12_steals 345 = .ok (.iload_n 1, 1) := by decide +kernel
theorem dX12_steals_346 : decode cX12_steals 346 = .ok (.iaload, 1) := by decide +kernel
theorem dX12_steals_347 : decode cX12_steals 347 = .ok (.ireturn, 1) := by decide +kernel
theorem dX12_slips_0 : decode cX12_slips 0 = .ok (.aload_n 0, 1) := by decide +kernel
theorem dX12_slips_1 : decode cX12_slips 1 = .ok (.iconst 0, 1) := by decide +kernel
theorem dX12_slips_2 : decode cX12_slips 2 = .ok (.putfield 3, 3) := by decide +kernel
theorem dX12_slips_5 : decode cX12_slips 5 = .ok (.aload_n 0, 1) := by decide +kernel
theorem dX12_slips_6 : decode cX12_slips 6 = .ok (.iload_n 1, 1) := by decide +kernel
theorem dX12_slips_7 : decode cX12_slips 7 = .ok (.invokevirtual 364, 3) := by decide +kernel
theorem dX12_slips_10 : decode cX12_slips 10 = .ok (.ifCond .eq 21, 3) := by decide +kernel
theorem dX12_slips_13 : decode cX12_slips 13 = .ok (.aload_n 0, 1) := by decide +kernel
theorem dX12_slips_14 : decode cX12_slips 14 = .ok (.iload_n 2, 1) := by decide +kernel
theorem dX12_slips_15 : decode cX12_slips 15 = .ok (.invokevirtual 364, 3) := by decide +kernel
theorem dX12_slips_18 : decode cX12_slips 18 = .ok (.ifCond .eq 13, 3) := by decide +kernel
theorem dX12_slips_21 : decode cX12_slips 21 = .ok (.aload_n 0, 1) := by decide +kernel
theorem dX12_slips_22 : decode cX12_slips 22 = .ok (.iload_n 3, 1) := by decide +kernel
theorem dX12_slips_23 : decode cX12_slips 23 = .ok (.iload 4, 2) := by decide +kernel
theorem dX12_slips_25 : decode cX12_slips 25 = .ok (.invokevirtual 421, 3) := by decide +kernel
theorem dX12_slips_28 : decode cX12_slips 28 = .ok (.ifCond .ne 5, 3) := by decide +kernel
theorem dX12_slips_31 : decode cX12_slips 31 = .ok (.iconst (-1), 1) := by decide +kernel
theorem dX12_slips_32 : decode cX12_slips 32 = .ok (.ireturn, 1) := by decide +kernel
theorem dX12_slips_33 : decode cX12_slips 33 = .ok (.aload_n 0, 1) := by decide +kernel
theorem dX12_slips_34 : decode cX12_slips 34 = .ok (.invokevirtual 407, 3) := by decide +kernel
theorem dX12_slips_37 : decode cX12_slips 37 = .ok (.iconst 0, 1) := by decide +kernel
theorem dX12_slips_38 : decode cX12_slips 38 = .ok (.istore 5, 2) := by decide +kernel
theorem dX12_slips_40 : decode cX12_slips 40 = .ok (.iload 5, 2) := by decide +kernel
theorem dX12_slips_42 : decode cX12_slips 42 = .ok (.aload_n 0, 1) := by decide +kernel
theorem dX12_slips_43 : decode cX12_slips 43 = .ok (.getfield 24, 3) := by decide +kernel
theorem dX12_slips_46 : decode cX12_slips 46 = .ok (.aload_n 0, 1) := by decide +kernel
theorem dX12_slips_47 : decode cX12_slips 47 = .ok (.getfield 27, 3) := by decide +kernel
theorem dX12_slips_50 : decode cX12_slips 50 = .ok (.imul, 1) := by decide +kernel
theorem dX12_slips_51 : decode cX12_slips 51 = .ok (.if_icmp .ge 27, 3) := by decide +kernel
theorem dX12_slips_54 : decode cX12_slips 54 = .ok (.aload_n 0, 1) := by decide +kernel
theorem dX12_slips_55 : decode cX12_slips 55 = .ok (.getfield 104, 3) := by decide +kernel
theorem dX12_slips_58 : decode cX12_slips 58 = .ok (.iload 5, 2) := by decide +kernel
theorem dX12_slips_60 : decode cX12_slips 60 = .ok (.iload 5, 2) := by decide +kernel
theorem dX12_slips_62 : decode cX12_slips 62 = .ok (.iload_n 1, 1) := by decide +kernel
theorem dX12_slips_63 : decode cX12_slips 63 = .ok (.if_icmp .ne 7, 3) := by decide +kernel
theorem dX12_slips_66 : decode cX12_slips 66 = .ok (.iconst 1, 1) := by decide +kernel
theorem dX12_slips_67 : decode cX12_slips 67 = .ok (.goto 4, 3) := by decide +kernel
theorem dX12_slips_70 : decode cX12_slips 70 = .ok (.iconst 0, 1) := by decide +kernel
theorem dX12_slips_71 : decode cX12_slips 71 = .ok (.bastore, 1) := by decide +kernel
theorem dX12_slips_72 : decode cX12_slips 72 = .ok (.iinc 5 1, 3) := by decide +kernel
theorem dX12_slips_75 : decode cX12_slips 75 = .ok (.goto (-35), 3) := by decide +kernel
theorem dX12_slips_78 : decode cX12_slips 78 = .ok (.iconst 0, 1) := by decide +kernel
theorem dX12_slips_79 : decode cX12_slips 79 = .ok (.istore 5, 2) := by decide +kernel
theorem dX12_slips_81 : decode cX12_slips 81 = .ok (.iload 5, 2) := by decide +kernel
theorem dX12_slips_83 : decode cX12_slips 83 = .ok (.bipush 60, 2) := by decide +kernel
theorem dX12_slips_85 : decode cX12_slips 85 = .ok (.if_icmp .gt 197, 3) := by decide +kernel
theorem dX12_slips_88 : decode cX12_slips 88 = .ok (.aload_n 0, 1) := by decide +kernel
theorem dX12_slips_89 : decode cX12_slips 89 = .ok (.aload_n 0, 1) := by decide +kernel
theorem dX12_slips_90 : decode cX12_slips 90 = .ok (.getfield 52, 3) := by decide +kernel
theorem dX12_slips_93 : decode cX12_slips 93 = .ok (.iload_n 3, 1) := by decide +kernel
theorem dX12_slips_94 : decode cX12_slips 94 = .ok (.iload 4, 2) := by decide +kernel
theorem dX12_slips_96 : decode cX12_slips 96 = .ok (.invokevirtual 424, 3) := by decide +kernel
theorem dX12_slips_99 : decode cX12_slips 99 = .ok (.pop, 1) := by decide +kernel
theorem dX12_slips_100 : decode cX12_slips 100 = .ok (.iconst 0, 1) := by decide +kernel
theorem dX12_slips_101 : decode cX12_slips 101 = .ok (.istore 6, 2) := by decide +kernel
theorem dX12_slips_103 : decode cX12_slips 103 = .ok (.iload 6, 2) := by decide +kernel
theorem dX12_slips_105 : decode cX12_slips 105 = .ok (.aload_n 0, 1) := by decide +kernel
theorem dX12_slips_106 : decode cX12_slips 106 = .ok (.getfield 24, 3) := by decide +kernel
theorem dX12_slips_109 : decode cX12_slips 109 = .ok (.aload_n 0, 1) := by decide +kernel
theorem dX12_slips_110 : decode cX12_slips 110 = .ok (.getfield 27, 3) := by decide +kernel
theorem dX12_slips_113 : decode cX12_slips 113 = .ok (.imul, 1) := by decide +kernel
theorem dX12_slips_114 : decode cX12_slips 114 = .ok (.if_icmp .ge 102, 3) := by decide +kernel
theorem dX12_slips_117 : decode cX12_slips 117 = .ok (.aload_n 0, 1) := by decide +kernel
theorem dX12_slips_118 : decode cX12_slips 118 = .ok (.getfield 104, 3) := by decide +kernel
theorem dX12_slips_121 : decode cX12_slips 121 = .ok (.iload 6, 2) := by decide +kernel
theorem dX12_slips_123 : decode cX12_slips 123 = .ok (.baload, 1) := by decide +kernel
theorem dX12_slips_124 : decode cX12_slips 124 = .ok (.istore 7, 2) := by decide +kernel
theorem dX12_slips_126 : decode cX12_slips 126 = .ok (.iconst 0, 1) := by decide +kernel
theorem dX12_slips_127 : decode cX12_slips 127 = .ok (.istore 8, 2) := by decide +kernel
theorem dX12_slips_129 : decode cX12_slips 129 = .ok (.iload 8, 2) := by decide +kernel
theorem dX12_slips_131 : decode cX12_slips 131 = .ok (.iconst 4, 1) := by decide +kernel
theorem dX12_slips_132 : decode cX12_slips 132 = .ok (.if_icmp .ge 51, 3) := by decide +kernel
theorem dX12_slips_135 : decode cX12_slips 135 = .ok (.iload 5, 2) := by decide +kernel
theorem dX12_slips_137 : decode cX12_slips 137 = .ok (.ifCond .le 46, 3) := by decide +kernel
theorem dX12_slips_140 : decode cX12_slips 140 = .ok (.aload_n 0, 1) := by decide +kernel
theorem dX12_slips_141 : decode cX12_slips 141 = .ok (.iload 6, 2) := by decide +kernel
theorem dX12_slips_143 : decode cX12_slips 143 = .ok (.iload 8, 2) := by decide +kernel
theorem dX12_slips_145 : decode cX12_slips 145 = .ok (.invokevirtual 357, 3) := by decide +kernel
theorem dX12_slips_148 : decode cX12_slips 148 = .ok (.istore 9, 2) := by decide +kernel
theorem dX12_slips_150 : decode cX12_slips 150 = .ok (.iload 7, 2) := by decide +kernel
theorem dX12_slips_152 : decode cX12_slips 152 = .ok (.ifCond .ne 18, 3) := by decide +kernel
theorem dX12_slips_155 : decode cX12_slips 155 = .ok (.iload 9, 2) := by decide +kernel
theorem dX12_slips_157 : decode cX12_slips 157 = .ok (.ifCond .lt 17, 3) := by decide +kernel
theorem dX12_slips_160 : decode cX12_slips 160 = .ok (.aload_n 0, 1) := by decide +kernel
theorem dX12_slips_161 : decode cX12_slips 161 = .ok (.getfield 104, 3) := by decide +kernel
theorem dX12_slips_164 : decode cX12_slips 164 = .ok (.iload 9, 2) := by decide +kernel
theorem dX12_slips_166 : decode cX12_slips 166 = .ok (.baload, 1) := by decide +kernel
theorem dX12_slips_167 : decode cX12_slips 167 = .ok (.ifCond .eq 7, 3) := by decide +kernel
theorem dX12_slips_170 : decode cX12_slips 170 = .ok (.iconst 1, 1) := by decide +kernel
theorem dX12_slips_171 : decode cX12_slips 171 = .ok (.goto 4, 3) := by decide +kernel
theorem dX12_slips_174 : decode cX12_slips 174 = .ok (.iconst 0, 1) := by decide +kernel
theorem dX12_slips_175 : decode cX12_slips 175 = .ok (.istore 7, 2) := by decide +kernel
theorem dX12_slips_177 : decode cX12_slips 177 = .ok (.iinc 8 1, 3) := by decide +kernel
theorem dX12_slips_180 : decode cX12_slips 180 = .ok (.goto (-51), 3) := by decide +kernel
theorem dX12_slips_183 : decode cX12_slips 183 = .ok (.aload_n 0, 1) := by decide +kernel
theorem dX12_slips_184 : decode cX12_slips 184 = .ok (.getfield 101, 3) := by decide +kernel
theorem dX12_slips_187 : decode cX12_slips 187 = .ok (.iload 6, 2) := by decide +kernel
theorem dX12_slips_189 : decode cX12_slips 189 = .ok (.iload 7, 2) := by decide +kernel
theorem dX12_slips_191 : decode cX12_slips 191 = .ok (.ifCond .eq 17, 3) := by decide +kernel
theorem dX12_slips_194 : decode cX12_slips 194 = .ok (.aload_n 0, 1) := by decide +kernel
theorem dX12_slips_195 : decode cX12_slips 195 = .ok (.getfield 94, 3) := by decide +kernel
theorem dX12_slips_198 : decode cX12_slips 198 = .ok (.iload 6, 2) := by decide +kernel
theorem dX12_slips_200 : decode cX12_slips 200 = .ok (.baload, 1) := by decide +kernel
theorem dX12_slips_201 : decode cX12_slips 201 = .ok (.ifCond .eq 7, 3) := by decide +kernel
theorem dX12_slips_204 : decode cX12_slips 204 = .ok (.iconst 1, 1) := by decide +kernel
theorem dX12_slips_205 : decode cX12_slips 205 = .ok (.goto 4, 3) := by decide +kernel
theorem dX12_slips_208 : decode cX12_slips 208 = .ok (.iconst 0, 1) := by decide +kernel
theorem dX12_slips_209 : decode cX12_slips 209 = .ok (.bastore, 1) := by decide +kernel
theorem dX12_slips_210 : decode cX12_slips 210 = .ok (.iinc 6 1, 3) := by decide +kernel
theorem dX12_slips_213 : decode cX12_slips 213 = .ok (.goto (-110), 3) := by decide +kernel
theorem dX12_slips_216 : decode cX12_slips 216 = .ok (.aload_n 0, 1) := by decide +kernel
theorem dX12_slips_217 : decode cX12_slips 217 = .ok (.getfield 101, 3) := by decide +kernel
theorem dX12_slips_220 : decode cX12_slips 220 = .ok (.iload_n 2, 1) := by decide +kernel
theorem dX12_slips_221 : decode cX12_slips 221 = .ok (.baload, 1) := by decide +kernel
theorem dX12_slips_222 : decode cX12_slips 222 = .ok (.ifCond .eq 6, 3) := by decide +kernel
theorem dX12_slips_225 : decode cX12_slips 225 = .ok (.iload 5, 2) := by decide +kernel
theorem dX12_slips_227 : decode cX12_slips 227 = .ok (.ireturn, 1) := by decide +kernel
theorem dX12_slips_228 : decode cX12_slips 228 = .ok (.iconst 0, 1) := by decide +kernel
theorem dX12_slips_229 : decode cX12_slips 229 = .ok (.istore 6, 2) := by decide +kernel
theorem dX12_slips_231 : decode cX12_slips 231 = .ok (.iload 6, 2) := by decide +kernel
theorem dX12_slips_233 : decode cX12_slips 233 = .ok (.aload_n 0, 1) := by decide +kernel
theorem dX12_slips_234 : decode cX12_slips 234 = .ok (.getfield 24, 3) := by decide +kernel
theorem dX12_slips_237 : decode cX12_slips 237 = .ok (.aload_n 0, 1) := by decide +kernel
theorem dX12_slips_238 : decode cX12_slips 238 = .ok (.getfield 27, 3) := by decide +kernel
theorem dX12_slips_241 : decode cX12_slips 241 = .ok (.imul, 1) := by decide +kernel
theorem dX12_slips_242 : decode cX12_slips 242 = .ok (.if_icmp .ge 23, 3) := by decide +kernel
theorem dX12_slips_245 : decode cX12_slips 245 = .ok (.aload_n 0, 1) := by decide +kernel
theorem dX12_slips_246 : decode cX12_slips 246 = .ok (.getfield 104, 3) := by decide +kernel
theorem dX12_slips_249 : decode cX12_slips 249 = .ok (.iload 6, 2) := by decide +kernel
theorem dX12_slips_251 : decode cX12_slips 251 = .ok (.aload_n 0, 1) := by decide +kernel
theorem dX12_slips_252 : decode cX12_slips 252 = .ok (.getfield 101, 3) := by decide +kernel
theorem dX12_slips_255 : decode cX12_slips 255 = .ok (.iload 6, 2) := by decide +kernel
theorem dX12_slips_257 : decode cX12_slips 257 = .ok (.baload, 1) := by decide +kernel
theorem dX12_slips_258 : decode cX12_slips 258 = .ok (.bastore, 1) := by decide +kernel
theorem dX12_slips_259 : decode cX12_slips 259 = .ok (.iinc 6 1, 3) := by decide +kernel
theorem dX12_slips_262 : decode cX12_slips 262 = .ok (.goto (-31), 3) := by decide +kernel
theorem dX12_slips_265 : decode cX12_slips 265 = .ok (.aload_n 0, 1) := by decide +kernel
theorem dX12_slips_266 : decode cX12_slips 266 = .ok (.getfield 52, 3) := by decide +kernel
theorem dX12_slips_269 : decode cX12_slips 269 = .ok (.bipush 25, 2) := by decide +kernel
theorem dX12_slips_271 : decode cX12_slips 271 = .ok (.dup2, 1) := by decide +kernel
theorem dX12_slips_272 : decode cX12_slips 272 = .ok (.iaload, 1) := by decide +kernel
theorem dX12_slips_273 : decode cX12_slips 273 = .ok (.iconst 1, 1) := by decide +kernel
theorem dX12_slips_274 : decode cX12_slips 274 = .ok (.iadd, 1) := by decide +kernel
theorem dX12_slips_275 : decode cX12_slips 275 = .ok (.iastore, 1) := by decide +kernel
theorem dX12_slips_276 : decode cX12_slips 276 = .ok (.iinc 5 1, 3) := by decide +kernel
theorem dX12_slips_279 : decode cX12_slips 279 = .ok (.goto (-198), 3) := by decide +kernel
theorem dX12_slips_282 : decode cX12_slips 282 = .ok (.bipush (-2), 2) := by decide +kernel
theorem dX12_slips_284 : decode cX12_slips 284 = .ok (.ireturn, 1) := by decide +kernel
theorem dX12_dark_0 : decode cX12_dark 0 = .ok (.aload_n 0, 1) := by decide +kernel
theorem dX12_dark_1 : decode cX12_dark 1 = .ok (.iconst 0, 1) := by decide +kernel
theorem dX12_dark_2 : decode cX12_dark 2 = .ok (.putfield 3, 3) := by decide +kernel
theorem dX12_dark_5 : decode cX12_dark 5 = .ok (.aload_n 0, 1) := by decide +kernel
theorem dX12_dark_6 : decode cX12_dark 6 = .ok (.iload_n 1, 1) := by decide +kernel
theorem dX12_dark_7 : decode cX12_dark 7 = .ok (.iload_n 2, 1) := by decide +kernel
theorem dX12_dark_8 : decode cX12_dark 8 = .ok (.invokevirtual 421, 3) := by decide +kernel
theorem dX12_dark_11 : decode cX12_dark 11 = .ok (.ifCond .ne 7, 3) := by decide +kernel
theorem dX12_dark_14 : decode cX12_dark 14 = .ok (.ldc2_w 427, 3) := by decide +kernel
theorem dX12_dark_17 : decode cX12_dark 17 = .ok (.lreturn, 1) := by decide +kernel
theorem dX12_dark_18 : decode cX12_dark 18 = .ok (.aload_n 0, 1) := by decide +kernel
theorem dX12_dark_19 : decode cX12_dark 19 = .ok (.aload_n 0, 1) := by decide +kernel
theorem dX12_dark_20 : decode cX12_dark 20 = .ok (.getfield 49, 3) := by decide +kernel
theorem dX12_dark_23 : decode cX12_dark 23 = .ok (.iload_n 1, 1) := by decide +kernel
theorem dX12_dark_24 : decode cX12_dark 24 = .ok (.iload_n 2, 1) := by decide +kernel
theorem dX12_dark_25 : decode cX12_dark 25 = .ok (.invokevirtual 424, 3) := by decide +kernel
theorem dX12_dark_28 : decode cX12_dark 28 = .ok (.istore_n 3, 1) := by decide +kernel
theorem dX12_dark_29 : decode cX12_dark 29 = .ok (.lconst 0, 1) := by decide +kernel
theorem dX12_dark_30 : decode cX12_dark 30 = .ok (.lstore 4, 2) := by decide +kernel
theorem dX12_dark_32 : decode cX12_dark 32 = .ok (.iconst 0, 1) := by decide +kernel
theorem dX12_dark_33 : decode cX12_dark 33 = .ok (.istore 6, 2) := by decide +kernel
theorem dX12_dark_35 : decode cX12_dark 35 = .ok (.iload 6, 2) := by decide +kernel
theorem dX12_dark_37 : decode cX12_dark 37 = .ok (.aload_n 0, 1) := by decide +kernel
theorem dX12_dark_38 : decode cX12_dark 38 = .ok (.getfield 24, 3) := by decide +kernel
theorem dX12_dark_41 : decode cX12_dark 41 = .ok (.aload_n 0, 1) := by decide +kernel
theorem dX12_dark_42 : decode cX12_dark 42 = .ok (.getfield 27, 3) := by decide +kernel
theorem dX12_dark_45 : decode cX12_dark 45 = .ok (.imul, 1) := by decide +kernel
theorem dX12_dark_46 : decode cX12_dark 46 = .ok (.if_icmp .ge 32, 3) := by decide +kernel
theorem dX12_dark_49 : decode cX12_dark 49 = .ok (.lload 4, 2) := by decide +kernel
theorem dX12_dark_51 : decode cX12_dark 51 = .ok (.aload_n 0, 1) := by decide +kernel
theorem dX12_dark_52 : decode cX12_dark 52 = .ok (.getfield 94, 3) := by decide +kernel
theorem dX12_dark_55 : decode cX12_dark 55 = .ok (.iload 6, 2) := by decide +kernel
theorem dX12_dark_57 : decode cX12_dark 57 = .ok (.baload, 1) := by decide +kernel
theorem dX12_dark_58 : decode cX12_dark 58 = .ok (.ifCond .eq 10, 3) := by decide +kernel
theorem dX12_dark_61 : decode cX12_dark 61 = .ok (.lconst 1, 1) := by decide +kernel
theorem dX12_dark_62 : decode cX12_dark 62 = .ok (.iload 6, 2) := by decide +kernel
theorem dX12_dark_64 : decode cX12_dark 64 = .ok (.lshl, 1) := by decide +kernel
theorem dX12_dark_65 : decode cX12_dark 65 = .ok (.goto 4, 3) := by decide +kernel
theorem dX12_dark_68 : decode cX12_dark 68 = .ok (.lconst 0, 1) := by decide +kernel
theorem dX12_dark_69 : decode cX12_dark 69 = .ok (.lor, 1) := by decide +kernel
theorem dX12_dark_70 : decode cX12_dark 70 = .ok (.lstore 4, 2) := by decide +kernel
theorem dX12_dark_72 : decode cX12_dark 72 = .ok (.iinc 6 1, 3) := by decide +kernel
theorem dX12_dark_75 : decode cX12_dark 75 = .ok (.goto (-40), 3) := by decide +kernel
theorem dX12_dark_78 : decode cX12_dark 78 = .ok (.aload_n 0, 1) := by decide +kernel
theorem dX12_dark_79 : decode cX12_dark 79 = .ok (.iconst 0, 1) := by decide +kernel
theorem dX12_dark_80 : decode cX12_dark 80 = .ok (.putfield 15, 3) := by decide +kernel
theorem dX12_dark_83 : decode cX12_dark 83 = .ok (.aload_n 0, 1) := by decide +kernel
theorem dX12_dark_84 : decode cX12_dark 84 = .ok (.iload_n 3, 1) := by decide +kernel
theorem dX12_dark_85 : decode cX12_dark 85 = .ok (.i2l, 1) := by decide +kernel
theorem dX12_dark_86 : decode cX12_dark 86 = .ok (.invokevirtual 387, 3) := by decide +kernel
theorem dX12_dark_89 : decode cX12_dark 89 = .ok (.lload 4, 2) := by decide +kernel
theorem dX12_dark_91 : decode cX12_dark 91 = .ok (.lreturn, 1) := by decide +kernel
theorem dX12_watched_0 : decode cX12_watched 0 = .ok (.aload_n 0, 1) := by decide +kernel
theorem dX12_watched_1 : decode cX12_watched 1 = .ok (.iconst 0, 1) := by decide +kernel
theorem dX12_watched_2 : decode cX12_watched 2 = .ok (.putfield 3, 3) := by decide +kernel
theorem dX12_watched_5 : decode cX12_watched 5 = .ok (.aload_n 0, 1) := by decide +kernel
theorem dX12_watched_6 : decode cX12_watched 6 = .ok (.iload_n 1, 1) := by decide +kernel
theorem dX12_watched_7 : decode cX12_watched 7 = .ok (.iload_n 2, 1) := by decide +kernel
theorem dX12_watched_8 : decode cX12_watched 8 = .ok (.invokevirtual 421, 3) := by decide +kernel
theorem dX12_watched_11 : decode cX12_watched 11 = .ok (.ifCond .eq 22, 3) := by decide +kernel
theorem dX12_watched_14 : decode cX12_watched 14 = .ok (.iload_n 3, 1) := by decide +kernel
theorem dX12_watched_15 : decode cX12_watched 15 = .ok (.i2l, 1) := by decide +kernel
theorem dX12_watched_16 : decode cX12_watched 16 = .ok (.lconst 0, 1) := by decide +kernel
theorem dX12_watched_17 : decode cX12_watched 17 = .ok (.lconst 1, 1) := by decide +kernel
theorem dX12_watched_18 : decode cX12_watched 18 = .ok (.invokestatic 143, 3) := by decide +kernel
theorem dX12_watched_21 : decode cX12_watched 21 = .ok (.ifCond .eq 12, 3) := by decide +kernel
theorem dX12_watched_24 : decode cX12_watched 24 = .ok (.aload_n 0, 1) := by decide +kernel
theorem dX12_watched_25 : decode cX12_watched 25 = .ok (.getfield 212, 3) := by decide +kernel
theorem dX12_watched_28 : decode cX12_watched 28 = .ok (.bipush 12, 2) := by decide +kernel
theorem dX12_watched_30 : decode cX12_watched 30 = .ok (.if_icmp .ne 5, 3) := by decide +kernel
theorem dX12_watched_33 : decode cX12_watched 33 = .ok (.iconst (-1), 1) := by decide +kernel
theorem dX12_watched_34 : decode cX12_watched 34 = .ok (.ireturn, 1) := by decide +kernel
theorem dX12_watched_35 : decode cX12_watched 35 = .ok (.aload_n 0, 1) := by decide +kernel
theorem dX12_watched_36 : decode cX12_watched 36 = .ok (.getfield 107, 3) := by decide +kernel
theorem dX12_watched_39 : decode cX12_watched 39 = .ok (.aload_n 0, 1) := by decide +kernel
theorem dX12_watched_40 : decode cX12_watched 40 = .ok (.getfield 212, 3) := by decide +kernel
theorem dX12_watched_43 : decode cX12_watched 43 = .ok (.iload_n 1, 1) := by decide +kernel
theorem dX12_watched_44 : decode cX12_watched 44 = .ok (.iastore, 1) := by decide +kernel
theorem dX12_watched_45 : decode cX12_watched 45 = .ok (.aload_n 0, 1) := by decide +kernel
theorem dX12_watched_46 : decode cX12_watched 46 = .ok (.getfield 110, 3) := by decide +kernel
theorem dX12_watched_49 : decode cX12_watched 49 = .ok (.aload_n 0, 1) := by decide +kernel
theorem dX12_watched_50 : decode cX12_watched 50 = .ok (.getfield 212, 3) := by decide +kernel
theorem dX12_watched_53 : decode cX12_watched 53 = .ok (.iload_n 2, 1) := by decide +kernel
theorem dX12_watched_54 : decode cX12_watched 54 = .ok (.iastore, 1) := by decide +kernel
theorem dX12_watched_55 : decode cX12_watched 55 = .ok (.aload_n 0, 1) := by decide +kernel
theorem dX12_watched_56 : decode cX12_watched 56 = .ok (.getfield 113, 3) := by decide +kernel
theorem dX12_watched_59 : decode cX12_watched 59 = .ok (.aload_n 0, 1) := by decide +kernel
theorem dX12_watched_60 : decode cX12_watched 60 = .ok (.getfield 212, 3) := by decide +kernel
theorem dX12_watched_63 : decode cX12_watched 63 = .ok (.iload_n 3, 1) := by decide +kernel
theorem dX12_watched_64 : decode cX12_watched 64 = .ok (.iastore, 1) := by decide +kernel
theorem dX12_watched_65 : decode cX12_watched 65 = .ok (.aload_n 0, 1) := by decide +kernel
theorem dX12_watched_66 : decode cX12_watched 66 = .ok (.dup, 1) := by decide +kernel
theorem dX12_watched_67 : decode cX12_watched 67 = .ok (.getfield 212, 3) := by decide +kernel
theorem dX12_watched_70 : decode cX12_watched 70 = .ok (.iconst 1, 1) := by decide +kernel
theorem dX12_watched_71 : decode cX12_watched 71 = .ok (.iadd, 1) := by decide +kernel
theorem dX12_watched_72 : decode cX12_watched 72 = .ok (.putfield 212, 3) := by decide +kernel
theorem dX12_watched_75 : decode cX12_watched 75 = .ok (.aload_n 0, 1) := by decide +kernel
theorem dX12_watched_76 : decode cX12_watched 76 = .ok (.getfield 212, 3) := by decide +kernel
theorem dX12_watched_79 : decode cX12_watched 79 = .ok (.ireturn, 1) := by decide +kernel
theorem dX12_forget_0 : decode cX12_forget 0 = .ok (.aload_n 0, 1) := by decide +kernel
theorem dX12_forget_1 : decode cX12_forget 1 = .ok (.iconst 0, 1) := by decide +kernel
theorem dX12_forget_2 : decode cX12_forget 2 = .ok (.putfield 3, 3) := by decide +kernel
theorem dX12_forget_5 : decode cX12_forget 5 = .ok (.aload_n 0, 1) := by decide +kernel
theorem dX12_forget_6 : decode cX12_forget 6 = .ok (.getfield 212, 3) := by decide +kernel
theorem dX12_forget_9 : decode cX12_forget 9 = .ok (.istore_n 1, 1) := by decide +kernel
theorem dX12_forget_10 : decode cX12_forget 10 = .ok (.aload_n 0, 1) := by decide +kernel
theorem dX12_forget_11 : decode cX12_forget 11 = .ok (.iconst 0, 1) := by decide +kernel
theorem dX12_forget_12 : decode cX12_forget 12 = .ok (.putfield 212, 3) := by decide +kernel
theorem dX12_forget_15 : decode cX12_forget 15 = .ok (.iload_n 1, 1) := by decide +kernel
theorem dX12_forget_16 : decode cX12_forget 16 = .ok (.ireturn, 1) := by decide +kernel
theorem dX12_shows_0 : decode cX12_shows 0 = .ok (.iload_n 0, 1) := by decide +kernel
theorem dX12_shows_1 : decode cX12_shows 1 = .ok (.iload_n 2, 1) := by decide +kernel
theorem dX12_shows_2 : decode cX12_shows 2 = .ok (.invokestatic 296, 3) := by decide +kernel
theorem dX12_shows_5 : decode cX12_shows 5 = .ok (.ifCond .ne 12, 3) := by decide +kernel
theorem dX12_shows_8 : decode cX12_shows 8 = .ok (.iload_n 3, 1) := by decide +kernel
theorem dX12_shows_9 : decode cX12_shows 9 = .ok (.iload_n 1, 1) := by decide +kernel
theorem dX12_shows_10 : decode cX12_shows 10 = .ok (.if_icmp .gt 7, 3) := by decide +kernel
theorem dX12_shows_13 : decode cX12_shows 13 = .ok (.iconst 1, 1) := by decide +kernel
theorem dX12_shows_14 : decode cX12_shows 14 = .ok (.goto 4, 3) := by decide +kernel
theorem dX12_shows_17 : decode cX12_shows 17 = .ok (.iconst 0, 1) := by decide +kernel
theorem dX12_shows_18 : decode cX12_shows 18 = .ok (.ireturn, 1) := by decide +kernel
theorem dX12_isLaw_0 : decode cX12_isLaw 0 = .ok (.iconst 1, 1) := by decide +kernel
theorem dX12_isLaw_1 : decode cX12_isLaw 1 = .ok (.istore_n 3, 1) := by decide +kernel
theorem dX12_isLaw_2 : decode cX12_isLaw 2 = .ok (.iconst 0, 1) := by decide +kernel
theorem dX12_isLaw_3 : decode cX12_isLaw 3 = .ok (.istore 4, 2) := by decide +kernel
theorem dX12_isLaw_5 : decode cX12_isLaw 5 = .ok (.iload 4, 2) := by decide +kernel
theorem dX12_isLaw_7 : decode cX12_isLaw 7 = .ok (.aload_n 0, 1) := by decide +kernel
theorem dX12_isLaw_8 : decode cX12_isLaw 8 = .ok (.getfield 212, 3) := by decide +kernel
theorem dX12_isLaw_11 : decode cX12_isLaw 11 = .ok (.if_icmp .ge 51, 3) := by decide +kernel
theorem dX12_isLaw_14 : decode cX12_isLaw 14 = .ok (.iload_n 3, 1) := by decide +kernel
theorem dX12_isLaw_15 : decode cX12_isLaw 15 = .ok (.ifCond .eq 39, 3) := by decide +kernel
theorem dX12_isLaw_18 : decode cX12_isLaw 18 = .ok (.iload_n 1, 1) := by decide +kernel
theorem dX12_isLaw_19 : decode cX12_isLaw 19 = .ok (.iload_n 2, 1) := by decide +kernel
theorem dX12_isLaw_20 : decode cX12_isLaw 20 = .ok (.aload_n 0, 1) := by decide +kernel
theorem dX12_isLaw_21 : decode cX12_isLaw 21 = .ok (.getfield 107, 3) := by decide +kernel
theorem dX12_isLaw_24 : decode cX12_isLaw 24 = .ok (.iload 4, 2) := by decide +kernel
theorem dX12_isLaw_26 : decode cX12_isLaw 26 = .ok (.iaload, 1) := by decide +kernel
theorem dX12_isLaw_27 : decode cX12_isLaw 27 = .ok (.aload_n 0, 1) := by decide +kernel
theorem dX12_isLaw_28 : decode cX12_isLaw 28 = .ok (.getfield 110, 3) := by decide +kernel
theorem dX12_isLaw_31 : decode cX12_isLaw 31 = .ok (.iload 4, 2) := by decide +kernel
theorem dX12_isLaw_33 : decode cX12_isLaw 33 = .ok (.iaload, 1) := by decide +kernel
theorem dX12_isLaw_34 : decode cX12_isLaw 34 = .ok (.invokestatic 429, 3) := by decide +kernel
theorem dX12_isLaw_37 : decode cX12_isLaw 37 = .ok (.invokestatic 175, 3) := by decide +kernel
theorem dX12_isLaw_40 : decode cX12_isLaw 40 = .ok (.aload_n 0, 1) := by decide +kernel
theorem dX12_isLaw_41 : decode cX12_isLaw 41 = .ok (.getfield 113, 3) := by decide +kernel
theorem dX12_isLaw_44 : decode cX12_isLaw 44 = .ok (.iload 4, 2) := by decide +kernel
theorem dX12_isLaw_46 : decode cX12_isLaw 46 = .ok (.iaload, 1) := by decide +kernel
theorem dX12_isLaw_47 : decode cX12_isLaw 47 = .ok (.if_icmp .ne 7, 3) := by decide +kernel
theorem dX12_isLaw_50 : decode cX12_isLaw 50 = .ok (.iconst 1, 1) := by decide +kernel
theorem dX12_isLaw_51 : decode cX12_isLaw 51 = .ok (.goto 4, 3) := by decide +kernel
theorem dX12_isLaw_54 : decode cX12_isLaw 54 = .ok (.iconst 0, 1) := by decide +kernel
theorem dX12_isLaw_55 : decode cX12_isLaw 55 = .ok (.istore_n 3, 1) := by decide +kernel
theorem dX12_isLaw_56 : decode cX12_isLaw 56 = .ok (.iinc 4 1, 3) := by decide +kernel
theorem dX12_isLaw_59 : decode cX12_isLaw 59 = .ok (.goto (-54), 3) := by decide +kernel
theorem dX12_isLaw_62 : decode cX12_isLaw 62 = .ok (.iload_n 3, 1) := by decide +kernel
theorem dX12_isLaw_63 : decode cX12_isLaw 63 = .ok (.ireturn, 1) := by decide +kernel
theorem dX12_laws_0 : decode cX12_laws 0 = .ok (.aload_n 0, 1) := by decide +kernel
theorem dX12_laws_1 : decode cX12_laws 1 = .ok (.iconst 0, 1) := by decide +kernel
theorem dX12_laws_2 : decode cX12_laws 2 = .ok (.putfield 3, 3) := by decide +kernel
theorem dX12_laws_5 : decode cX12_laws 5 = .ok (.iconst 0, 1) := by decide +kernel
theorem dX12_laws_6 : decode cX12_laws 6 = .ok (.istore_n 1, 1) := by decide +kernel
theorem dX12_laws_7 : decode cX12_laws 7 = .ok (.iconst 0, 1) := by decide +kernel
theorem dX12_laws_8 : decode cX12_laws 8 = .ok (.istore_n 2, 1) := by decide +kernel
theorem dX12_laws_9 : decode cX12_laws 9 = .ok (.iconst 0, 1) := by decide +kernel
theorem dX12_laws_10 : decode cX12_laws 10 = .ok (.istore_n 3, 1) := by decide +kernel
theorem dX12_laws_11 : decode cX12_laws 11 = .ok (.bipush 9, 2) := by decide +kernel
theorem dX12_laws_13 : decode cX12_laws 13 = .ok (.istore 4, 2) := by decide +kernel
theorem dX12_laws_15 : decode cX12_laws 15 = .ok (.iload 4, 2) := by decide +kernel
theorem dX12_laws_17 : decode cX12_laws 17 = .ok (.ifCond .lt 62, 3) := by decide +kernel
theorem dX12_laws_20 : decode cX12_laws 20 = .ok (.iconst 0, 1) := by decide +kernel
theorem dX12_laws_21 : decode cX12_laws 21 = .ok (.istore 5, 2) := by decide +kernel
theorem dX12_laws_23 : decode cX12_laws 23 = .ok (.iload 5, 2) := by decide +kernel
theorem dX12_laws_25 : decode cX12_laws 25 = .ok (.sipush 256, 3) := by decide +kernel
theorem dX12_laws_28 : decode cX12_laws 28 = .ok (.if_icmp .ge 45, 3) := by decide +kernel
theorem dX12_laws_31 : decode cX12_laws 31 = .ok (.aload_n 0, 1) := by decide +kernel
theorem dX12_laws_32 : decode cX12_laws 32 = .ok (.iload 5, 2) := by decide +kernel
theorem dX12_laws_34 : decode cX12_laws 34 = .ok (.iload 4, 2) := by decide +kernel
theorem dX12_laws_36 : decode cX12_laws 36 = .ok (.invokevirtual 433, 3) := by decide +kernel
theorem dX12_laws_39 : decode cX12_laws 39 = .ok (.ifCond .eq 28, 3) := by decide +kernel
theorem dX12_laws_42 : decode cX12_laws 42 = .ok (.iload_n 1, 1) := by decide +kernel
theorem dX12_laws_43 : decode cX12_laws 43 = .ok (.ifCond .eq 15, 3) := by decide +kernel
theorem dX12_laws_46 : decode cX12_laws 46 = .ok (.iload 5, 2) := by decide +kernel
theorem dX12_laws_48 : decode cX12_laws 48 = .ok (.invokestatic 300, 3) := by decide +kernel
theorem dX12_laws_51 : decode cX12_laws 51 = .ok (.iload_n 2, 1) := by decide +kernel
theorem dX12_laws_52 : decode cX12_laws 52 = .ok (.invokestatic 300, 3) := by decide +kernel
theorem dX12_laws_55 : decode cX12_laws 55 = .ok (.if_icmp .ge 9, 3) := by decide +kernel
theorem dX12_laws_58 : decode cX12_laws 58 = .ok (.iload 5, 2) := by decide +kernel
theorem dX12_laws_60 : decode cX12_laws 60 = .ok (.istore_n 2, 1) := by decide +kernel
theorem dX12_laws_61 : decode cX12_laws 61 = .ok (.iload 4, 2) := by decide +kernel
theorem dX12_laws_63 : decode cX12_laws 63 = .ok (.istore_n 3, 1) := by decide +kernel
theorem dX12_laws_64 : decode cX12_laws 64 = .ok (.iinc 1 1, 3) := by decide +kernel
theorem dX12_laws_67 : decode cX12_laws 67 = .ok (.iinc 5 1, 3) := by decide +kernel
theorem dX12_laws_70 : decode cX12_laws 70 = .ok (.goto (-47), 3) := by decide +kernel
theorem dX12_laws_73 : decode cX12_laws 73 = .ok (.iinc 4 (-1), 3) := by decide +kernel
theorem dX12_laws_76 : decode cX12_laws 76 = .ok (.goto (-61), 3) := by decide +kernel
theorem dX12_laws_79 : decode cX12_laws 79 = .ok (.aload_n 0, 1) := by decide +kernel
theorem dX12_laws_80 : decode cX12_laws 80 = .ok (.iconst 0, 1) := by decide +kernel
theorem dX12_laws_81 : decode cX12_laws 81 = .ok (.putfield 15, 3) := by decide +kernel
theorem dX12_laws_84 : decode cX12_laws 84 = .ok (.iload_n 1, 1) := by decide +kernel
theorem dX12_laws_85 : decode cX12_laws 85 = .ok (.ifCond .le 15, 3) := by decide +kernel
theorem dX12_laws_88 : decode cX12_laws 88 = .ok (.aload_n 0, 1) := by decide +kernel
theorem dX12_laws_89 : decode cX12_laws 89 = .ok (.iload_n 2, 1) := by decide +kernel
theorem dX12_laws_90 : decode cX12_laws 90 = .ok (.i2l, 1) := by decide +kernel
theorem dX12_laws_91 : decode cX12_laws 91 = .ok (.invokevirtual 387, 3) := by decide +kernel
theorem dX12_laws_94 : decode cX12_laws 94 = .ok (.aload_n 0, 1) := by decide +kernel
theorem dX12_laws_95 : decode cX12_laws 95 = .ok (.iload_n 3, 1) := by decide +kernel
theorem dX12_laws_96 : decode cX12_laws 96 = .ok (.i2l, 1) := by decide +kernel
theorem dX12_laws_97 : decode cX12_laws 97 = .ok (.invokevirtual 387, 3) := by decide +kernel
theorem dX12_laws_100 : decode cX12_laws 100 = .ok (.iload_n 1, 1) := by decide +kernel
theorem dX12_laws_101 : decode cX12_laws 101 = .ok (.ireturn, 1) := by decide +kernel
theorem dX12_next_0 : decode cX12_next 0 = .ok (.aload_n 0, 1) := by decide +kernel
theorem dX12_next_1 : decode cX12_next 1 = .ok (.iconst 0, 1) := by decide +kernel
theorem dX12_next_2 : decode cX12_next 2 = .ok (.putfield 3, 3) := by decide +kernel
theorem dX12_next_5 : decode cX12_next 5 = .ok (.iconst 0, 1) := by decide +kernel
theorem dX12_next_6 : decode cX12_next 6 = .ok (.istore_n 1, 1) := by decide +kernel
theorem dX12_next_7 : decode cX12_next 7 = .ok (.iconst 0, 1) := by decide +kernel
theorem dX12_next_8 : decode cX12_next 8 = .ok (.istore_n 2, 1) := by decide +kernel
theorem dX12_next_9 : decode cX12_next 9 = .ok (.iload_n 2, 1) := by decide +kernel
theorem dX12_next_10 : decode cX12_next 10 = .ok (.sipush 2560, 3) := by decide +kernel
theorem dX12_next_13 : decode cX12_next 13 = .ok (.if_icmp .ge 39, 3) := by decide +kernel
theorem dX12_next_16 : decode cX12_next 16 = .ok (.aload_n 0, 1) := by decide +kernel
theorem dX12_next_17 : decode cX12_next 17 = .ok (.getfield 116, 3) := by decide +kernel
theorem dX12_next_20 : decode cX12_next 20 = .ok (.iload_n 2, 1) := by decide +kernel
theorem dX12_next_21 : decode cX12_next 21 = .ok (.aload_n 0, 1) := by decide +kernel
theorem dX12_next_22 : decode cX12_next 22 = .ok (.iload_n 2, 1) := by decide +kernel
theorem dX12_next_23 : decode cX12_next 23 = .ok (.bipush 10, 2) := by decide +kernel
theorem dX12_next_25 : decode cX12_next 25 = .ok (.idiv, 1) := by decide +kernel
theorem dX12_next_26 : decode cX12_next 26 = .ok (.iload_n 2, 1) := by decide +kernel
theorem dX12_next_27 : decode cX12_next 27 = .ok (.bipush 10, 2) := by decide +kernel
theorem dX12_next_29 : decode cX12_next 29 = .ok (.irem, 1) := by decide +kernel
theorem dX12_next_30 : decode cX12_next 30 = .ok (.invokevirtual 433, 3) := by decide +kernel
theorem dX12_next_33 : decode cX12_next 33 = .ok (.bastore, 1) := by decide +kernel
theorem dX12_next_34 : decode cX12_next 34 = .ok (.iload_n 1, 1) := by decide +kernel
theorem dX12_next_35 : decode cX12_next 35 = .ok (.aload_n 0, 1) := by decide +kernel
theorem dX12_next_36 : decode cX12_next 36 = .ok (.getfield 116, 3) := by decide +kernel
theorem dX12_next_39 : decode cX12_next 39 = .ok (.iload_n 2, 1) := by decide +kernel
theorem dX12_next_40 : decode cX12_next 40 = .ok (.baload, 1) := by decide +kernel
theorem dX12_next_41 : decode cX12_next 41 = .ok (.invokestatic 175, 3) := by decide +kernel
theorem dX12_next_44 : decode cX12_next 44 = .ok (.iadd, 1) := by decide +kernel
theorem dX12_next_45 : decode cX12_next 45 = .ok (.istore_n 1, 1) := by decide +kernel
theorem dX12_next_46 : decode cX12_next 46 = .ok (.iinc 2 1, 3) := by decide +kernel
theorem dX12_next_49 : decode cX12_next 49 = .ok (.goto (-40), 3) := by decide +kernel
theorem dX12_next_52 : decode cX12_next 52 = .ok (.iload_n 1, 1) := by decide +kernel
theorem dX12_next_53 : decode cX12_next 53 = .ok (.ifCond .ne 6, 3) := by decide +kernel
theorem dX12_next_56 : decode cX12_next 56 = .ok (.bipush (-2), 2) := by decide +kernel
theorem dX12_next_58 : decode cX12_next 58 = .ok (.ireturn, 1) := by decide +kernel
theorem dX12_next_59 : decode cX12_next 59 = .ok (.iconst (-1), 1) := by decide +kernel
theorem dX12_next_60 : decode cX12_next 60 = .ok (.istore_n 2, 1) := by decide +kernel
theorem dX12_next_61 : decode cX12_next 61 = .ok (.ldc_w 413, 3) := by decide +kernel
theorem dX12_next_64 : decode cX12_next 64 = .ok (.istore_n 3, 1) := by decide +kernel
theorem dX12_next_65 : decode cX12_next 65 = .ok (.iconst 0, 1) := by decide +kernel
theorem dX12_next_66 : decode cX12_next 66 = .ok (.istore 4, 2) := by decide +kernel
theorem dX12_next_68 : decode cX12_next 68 = .ok (.iload 4, 2) := by decide +kernel
theorem dX12_next_70 : decode cX12_next 70 = .ok (.bipush 8, 2) := by decide +kernel
theorem dX12_next_72 : decode cX12_next 72 = .ok (.if_icmp .ge 125, 3) := by decide +kernel
theorem dX12_next_75 : decode cX12_next 75 = .ok (.iconst 0, 1) := by decide +kernel
theorem dX12_next_76 : decode cX12_next 76 = .ok (.istore 5, 2) := by decide +kernel
theorem dX12_next_78 : decode cX12_next 78 = .ok (.iload 5, 2) := by decide +kernel
theorem dX12_next_80 : decode cX12_next 80 = .ok (.bipush 9, 2) := by decide +kernel
theorem dX12_next_82 : decode cX12_next 82 = .ok (.if_icmp .gt 109, 3) := by decide +kernel
theorem dX12_next_85 : decode cX12_next 85 = .ok (.iconst 0, 1) := by decide +kernel
theorem dX12_next_86 : decode cX12_next 86 = .ok (.istore 6, 2) := by decide +kernel
theorem dX12_next_88 : decode cX12_next 88 = .ok (.iconst 0, 1) := by decide +kernel
theorem dX12_next_89 : decode cX12_next 89 = .ok (.istore 7, 2) := by decide +kernel
theorem dX12_next_91 : decode cX12_next 91 = .ok (.iload 7, 2) := by decide +kernel
theorem dX12_next_93 : decode cX12_next 93 = .ok (.sipush 2560, 3) := by decide +kernel
theorem dX12_next_96 : decode cX12_next 96 = .ok (.if_icmp .ge 52, 3) := by decide +kernel
theorem dX12_next_99 : decode cX12_next 99 = .ok (.iload 6, 2) := by decide +kernel
theorem dX12_next_101 : decode cX12_next 101 = .ok (.aload_n 0, 1) := by decide +kernel
theorem dX12_next_102 : decode cX12_next 102 = .ok (.getfield 116, 3) := by decide +kernel
theorem dX12_next_105 : decode cX12_next 105 = .ok (.iload 7, 2) := by decide +kernel
theorem dX12_next_107 : decode cX12_next 107 = .ok (.baload, 1) := by decide +kernel
theorem dX12_next_108 : decode cX12_next 108 = .ok (.ifCond .eq 27, 3) := by decide +kernel
theorem dX12_next_111 : decode cX12_next 111 = .ok (.iload 7, 2) := by decide +kernel
theorem dX12_next_113 : decode cX12_next 113 = .ok (.bipush 10, 2) := by decide +kernel
theorem dX12_next_115 : decode cX12_next 115 = .ok (.idiv, 1) := by decide +kernel
theorem dX12_next_116 : decode cX12_next 116 = .ok (.iload 7, 2) := by decide +kernel
theorem dX12_next_118 : decode cX12_next 118 = .ok (.bipush 10, 2) := by decide +kernel
theorem dX12_next_120 : decode cX12_next 120 = .ok (.irem, 1) := by decide +kernel
theorem dX12_next_121 : decode cX12_next 121 = .ok (.iload 4, 2) := by decide +kernel
theorem dX12_next_123 : decode cX12_next 123 = .ok (.iload 5, 2) := by decide +kernel
theorem dX12_next_125 : decode cX12_next 125 = .ok (.invokestatic 429, 3) := by decide +kernel
theorem dX12_next_128 : decode cX12_next 128 = .ok (.ifCond .eq 7, 3) := by decide +kernel
theorem dX12_next_131 : decode cX12_next 131 = .ok (.iconst 1, 1) := by decide +kernel
theorem dX12_next_132 : decode cX12_next 132 = .ok (.goto 4, 3) := by decide +kernel
theorem dX12_next_135 : decode cX12_next 135 = .ok (.iconst 0, 1) := by decide +kernel
theorem dX12_next_136 : decode cX12_next 136 = .ok (.invokestatic 175, 3) := by decide +kernel
theorem dX12_next_139 : decode cX12_next 139 = .ok (.iadd, 1) := by decide +kernel
theorem dX12_next_140 : decode cX12_next 140 = .ok (.istore 6, 2) := by decide +kernel
theorem dX12_next_142 : decode cX12_next 142 = .ok (.iinc 7 1, 3) := by decide +kernel
theorem dX12_next_145 : decode cX12_next 145 = .ok (.goto (-54), 3) := by decide +kernel
theorem dX12_next_148 : decode cX12_next 148 = .ok (.iload 6, 2) := by decide +kernel
theorem dX12_next_150 : decode cX12_next 150 = .ok (.iload_n 1, 1) := by decide +kernel
theorem dX12_next_151 : decode cX12_next 151 = .ok (.iload 6, 2) := by decide +kernel
theorem dX12_next_153 : decode cX12_next 153 = .ok (.isub, 1) := by decide +kernel
theorem dX12_next_154 : decode cX12_next 154 = .ok (.invokestatic 351, 3) := by decide +kernel
theorem dX12_next_157 : decode cX12_next 157 = .ok (.istore 7, 2) := by decide +kernel
theorem dX12_next_159 : decode cX12_next 159 = .ok (.iload 7, 2) := by decide +kernel
theorem dX12_next_161 : decode cX12_next 161 = .ok (.iload_n 3, 1) := by decide +kernel
theorem dX12_next_162 : decode cX12_next 162 = .ok (.if_icmp .ge 14, 3) := by decide +kernel
theorem dX12_next_165 : decode cX12_next 165 = .ok (.bipush 10, 2) := by decide +kernel
theorem dX12_next_167 : decode cX12_next 167 = .ok (.iload 4, 2) := by decide +kernel
theorem dX12_next_169 : decode cX12_next 169 = .ok (.imul, 1) := by decide +kernel
theorem dX12_next_170 : decode cX12_next 170 = .ok (.iload 5, 2) := by decide +kernel
theorem dX12_next_172 : decode cX12_next 172 = .ok (.iadd, 1) := by decide +kernel
theorem dX12_next_173 : decode cX12_next 173 = .ok (.goto 4, 3) := by decide +kernel
theorem dX12_next_176 : decode cX12_next 176 = .ok (.iload_n 2, 1) := by decide +kernel
theorem dX12_next_177 : decode cX12_next 177 = .ok (.istore_n 2, 1) := by decide +kernel
theorem dX12_next_178 : decode cX12_next 178 = .ok (.iload_n 3, 1) := by decide +kernel
theorem dX12_next_179 : decode cX12_next 179 = .ok (.iload 7, 2) := by decide +kernel
theorem dX12_next_181 : decode cX12_next 181 = .ok (.invokestatic 168, 3) := by decide +kernel
theorem dX12_next_184 : decode cX12_next 184 = .ok (.istore_n 3, 1) := by decide +kernel
theorem dX12_next_185 : decode cX12_next 185 = .ok (.iinc 5 1, 3) := by decide +kernel
theorem dX12_next_188 : decode cX12_next 188 = .ok (.goto (-110), 3) := by decide +kernel
theorem dX12_next_191 : decode cX12_next 191 = .ok (.iinc 4 1, 3) := by decide +kernel
theorem dX12_next_194 : decode cX12_next 194 = .ok (.goto (-126), 3) := by decide +kernel
theorem dX12_next_197 : decode cX12_next 197 = .ok (.aload_n 0, 1) := by decide +kernel
theorem dX12_next_198 : decode cX12_next 198 = .ok (.iconst 0, 1) := by decide +kernel
theorem dX12_next_199 : decode cX12_next 199 = .ok (.putfield 15, 3) := by decide +kernel
theorem dX12_next_202 : decode cX12_next 202 = .ok (.aload_n 0, 1) := by decide +kernel
theorem dX12_next_203 : decode cX12_next 203 = .ok (.iload_n 3, 1) := by decide +kernel
theorem dX12_next_204 : decode cX12_next 204 = .ok (.i2l, 1) := by decide +kernel
theorem dX12_next_205 : decode cX12_next 205 = .ok (.invokevirtual 387, 3) := by decide +kernel
theorem dX12_next_208 : decode cX12_next 208 = .ok (.iload_n 2, 1) := by decide +kernel
theorem dX12_next_209 : decode cX12_next 209 = .ok (.ireturn, 1) := by decide +kernel
theorem dX12_fits_0 : decode cX12_fits 0 = .ok (.aload_n 0, 1) := by decide +kernel
theorem dX12_fits_1 : decode cX12_fits 1 = .ok (.iconst 0, 1) := by decide +kernel
theorem dX12_fits_2 : decode cX12_fits 2 = .ok (.putfield 3, 3) := by decide +kernel
theorem dX12_fits_5 : decode cX12_fits 5 = .ok (.iconst 0, 1) := by decide +kernel
theorem dX12_fits_6 : decode cX12_fits 6 = .ok (.istore_n 1, 1) := by decide +kernel
theorem dX12_fits_7 : decode cX12_fits 7 = .ok (.iconst 0, 1) := by decide +kernel
theorem dX12_fits_8 : decode cX12_fits 8 = .ok (.istore_n 2, 1) := by decide +kernel
theorem dX12_fits_9 : decode cX12_fits 9 = .ok (.iload_n 2, 1) := by decide +kernel
theorem dX12_fits_10 : decode cX12_fits 10 = .ok (.aload_n 0, 1) := by decide +kernel
theorem dX12_fits_11 : decode cX12_fits 11 = .ok (.getfield 147, 3) := by decide +kernel
theorem dX12_fits_14 : decode cX12_fits 14 = .ok (.if_icmp .ge 38, 3) := by decide +kernel
theorem dX12_fits_17 : decode cX12_fits 17 = .ok (.iload_n 1, 1) := by decide +kernel
theorem dX12_fits_18 : decode cX12_fits 18 = .ok (.aload_n 0, 1) := by decide +kernel
theorem dX12_fits_19 : decode cX12_fits 19 = .ok (.aload_n 0, 1) := by decide +kernel
theorem dX12_fits_20 : decode cX12_fits 20 = .ok (.getfield 40, 3) := by decide +kernel
theorem dX12_fits_23 : decode cX12_fits 23 = .ok (.iload_n 2, 1) := by decide +kernel
theorem dX12_fits_24 : decode cX12_fits 24 = .ok (.iaload, 1) := by decide +kernel
theorem dX12_fits_25 : decode cX12_fits 25 = .ok (.aload_n 0, 1) := by decide +kernel
theorem dX12_fits_26 : decode cX12_fits 26 = .ok (.getfield 37, 3) := by decide +kernel
theorem dX12_fits_29 : decode cX12_fits 29 = .ok (.iload_n 2, 1) := by decide +kernel
theorem dX12_fits_30 : decode cX12_fits 30 = .ok (.iaload, 1) := by decide +kernel
theorem dX12_fits_31 : decode cX12_fits 31 = .ok (.invokevirtual 433, 3) := by decide +kernel
theorem dX12_fits_34 : decode cX12_fits 34 = .ok (.ifCond .eq 9, 3) := by decide +kernel
theorem dX12_fits_37 : decode cX12_fits 37 = .ok (.iconst 1, 1) := by decide +kernel
theorem dX12_fits_38 : decode cX12_fits 38 = .ok (.iload_n 2, 1) := by decide +kernel
theorem dX12_fits_39 : decode cX12_fits 39 = .ok (.ishl, 1) := by decide +kernel
theorem dX12_fits_40 : decode cX12_fits 40 = .ok (.goto 4, 3) := by decide +kernel
theorem dX12_fits_43 : decode cX12_fits 43 = .ok (.iconst 0, 1) := by decide +kernel
theorem dX12_fits_44 : decode cX12_fits 44 = .ok (.ior, 1) := by decide +kernel
theorem dX12_fits_45 : decode cX12_fits 45 = .ok (.istore_n 1, 1) := by decide +kernel
theorem dX12_fits_46 : decode cX12_fits 46 = .ok (.iinc 2 1, 3) := by decide +kernel
theorem dX12_fits_49 : decode cX12_fits 49 = .ok (.goto (-40), 3) := by decide +kernel
theorem dX12_fits_52 : decode cX12_fits 52 = .ok (.aload_n 0, 1) := by decide +kernel
theorem dX12_fits_53 : decode cX12_fits 53 = .ok (.iconst 0, 1) := by decide +kernel
theorem dX12_fits_54 : decode cX12_fits 54 = .ok (.putfield 15, 3) := by decide +kernel
theorem dX12_fits_57 : decode cX12_fits 57 = .ok (.aload_n 0, 1) := by decide +kernel
theorem dX12_fits_58 : decode cX12_fits 58 = .ok (.iload_n 1, 1) := by decide +kernel
theorem dX12_fits_59 : decode cX12_fits 59 = .ok (.invokestatic 300, 3) := by decide +kernel
theorem dX12_fits_62 : decode cX12_fits 62 = .ok (.i2l, 1) := by decide +kernel
theorem dX12_fits_63 : decode cX12_fits 63 = .ok (.invokevirtual 387, 3) := by decide +kernel
theorem dX12_fits_66 : decode cX12_fits 66 = .ok (.iload_n 1, 1) := by decide +kernel
theorem dX12_fits_67 : decode cX12_fits 67 = .ok (.ireturn, 1) := by decide +kernel
theorem dX12_givesFrom_0 : decode cX12_givesFrom 0 = .ok (.iload_n 1, 1) := by decide +kernel
theorem dX12_givesFrom_1 : decode cX12_givesFrom 1 = .ok (.iload_n 2, 1) := by decide +kernel
theorem dX12_givesFrom_2 : decode cX12_givesFrom 2 = .ok (.if_icmp .ne 48, 3) := by decide +kernel
theorem dX12_givesFrom_5 : decode cX12_givesFrom 5 = .ok (.iload 4, 2) := by decide +kernel
theorem dX12_givesFrom_7 : decode cX12_givesFrom 7 = .ok (.aload_n 0, 1) := by decide +kernel
theorem dX12_givesFrom_8 : decode cX12_givesFrom 8 = .ok (.getfield 436, 3) := by decide +kernel
theorem dX12_givesFrom_11 : decode cX12_givesFrom 11 = .ok (.if_icmp .le 38, 3) := by decide +kernel
theorem dX12_givesFrom_14 : decode cX12_givesFrom 14 = .ok (.aload_n 0, 1) := by decide +kernel
theorem dX12_givesFrom_15 : decode cX12_givesFrom 15 = .ok (.iload 4, 2) := by decide +kernel
theorem dX12_givesFrom_17 : decode cX12_givesFrom 17 = .ok (.putfield 436, 3) := by decide +kernel
theorem dX12_givesFrom_20 : decode cX12_givesFrom 20 = .ok (.iconst 0, 1) := by decide +kernel
theorem dX12_givesFrom_21 : decode cX12_givesFrom 21 = .ok (.istore 5, 2) := by decide +kernel
theorem dX12_givesFrom_23 : decode cX12_givesFrom 23 = .ok (.iload 5, 2) := by decide +kernel
theorem dX12_givesFrom_25 : decode cX12_givesFrom 25 = .ok (.iload_n 2, 1) := by decide +kernel
theorem dX12_givesFrom_26 : decode cX12_givesFrom 26 = .ok (.if_icmp .ge 23, 3) := by decide +kernel
theorem dX12_givesFrom_29 : decode cX12_givesFrom 29 = .ok (.aload_n 0, 1) := by decide +kernel
theorem dX12_givesFrom_30 : decode cX12_givesFrom 30 = .ok (.getfield 125, 3) := by decide +kernel
theorem dX12_givesFrom_33 : decode cX12_givesFrom 33 = .ok (.iload 5, 2) := by decide +kernel
theorem dX12_givesFrom_35 : decode cX12_givesFrom 35 = .ok (.aload_n 0, 1) := by decide +kernel
theorem dX12_givesFrom_36 : decode cX12_givesFrom 36 = .ok (.getfield 122, 3) := by decide +kernel
theorem dX12_givesFrom_39 : decode cX12_givesFrom 39 = .ok (.iload 5, 2) := by decide +kernel
theorem dX12_givesFrom_41 : decode cX12_givesFrom 41 = .ok (.iaload, 1) := by decide +kernel
theorem dX12_givesFrom_42 : decode cX12_givesFrom 42 = .ok (.iastore, 1) := by decide +kernel
theorem dX12_givesFrom_43 : decode cX12_givesFrom 43 = .ok (.iinc 5 1, 3) := by decide +kernel
theorem dX12_givesFrom_46 : decode cX12_givesFrom 46 = .ok (.goto (-23), 3) := by decide +kernel
theorem dX12_givesFrom_49 : decode cX12_givesFrom 49 = .ok (.return_, 1) := by decide +kernel
theorem dX12_givesFrom_50 : decode cX12_givesFrom 50 = .ok (.iload 4, 2) := by decide +kernel
theorem dX12_givesFrom_52 : decode cX12_givesFrom 52 = .ok (.iload_n 2, 1) := by decide +kernel
theorem dX12_givesFrom_53 : decode cX12_givesFrom 53 = .ok (.iadd, 1) := by decide +kernel
theorem dX12_givesFrom_54 : decode cX12_givesFrom 54 = .ok (.iload_n 1, 1) := by decide +kernel
theorem dX12_givesFrom_55 : decode cX12_givesFrom 55 = .ok (.isub, 1) := by decide +kernel
theorem dX12_givesFrom_56 : decode cX12_givesFrom 56 = .ok (.aload_n 0, 1) := by decide +kernel
theorem dX12_givesFrom_57 : decode cX12_givesFrom 57 = .ok (.getfield 436, 3) := by decide +kernel
theorem dX12_givesFrom_60 : decode cX12_givesFrom 60 = .ok (.if_icmp .gt 4, 3) := by decide +kernel
theorem dX12_givesFrom_63 : decode cX12_givesFrom 63 = .ok (.return_, 1) := by decide +kernel
theorem dX12_givesFrom_64 : decode cX12_givesFrom 64 = .ok (.aload_n 0, 1) := by decide +kernel
theorem dX12_givesFrom_65 : decode cX12_givesFrom 65 = .ok (.getfield 122, 3) := by decide +kernel
theorem dX12_givesFrom_68 : decode cX12_givesFrom 68 = .ok (.iload_n 1, 1) := by decide +kernel
theorem dX12_givesFrom_69 : decode cX12_givesFrom 69 = .ok (.iconst (-1), 1) := by decide +kernel
theorem dX12_givesFrom_70 : decode cX12_givesFrom 70 = .ok (.iastore, 1) := by decide +kernel
theorem dX12_givesFrom_71 : decode cX12_givesFrom 71 = .ok (.aload_n 0, 1) := by decide +kernel
theorem dX12_givesFrom_72 : decode cX12_givesFrom 72 = .ok (.iload_n 1, 1) := by decide +kernel
theorem dX12_givesFrom_73 : decode cX12_givesFrom 73 = .ok (.iconst 1, 1) := by decide +kernel
theorem dX12_givesFrom_74 : decode cX12_givesFrom 74 = .ok (.iadd, 1) := by decide +kernel
theorem dX12_givesFrom_75 : decode cX12_givesFrom 75 = .ok (.iload_n 2, 1) := by decide +kernel
theorem dX12_givesFrom_76 : decode cX12_givesFrom 76 = .ok (.iload_n 3, 1) := by decide +kernel
theorem dX12_givesFrom_77 : decode cX12_givesFrom 77 = .ok (.iload 4, 2) := by decide +kernel
theorem dX12_givesFrom_79 : decode cX12_givesFrom 79 = .ok (.invokevirtual 439, 3) := by decide +kernel
theorem dX12_givesFrom_82 : decode cX12_givesFrom 82 = .ok (.iconst 0, 1) := by decide +kernel
theorem dX12_givesFrom_83 : decode cX12_givesFrom 83 = .ok (.istore 5, 2) := by decide +kernel
theorem dX12_givesFrom_85 : decode cX12_givesFrom 85 = .ok (.iload 5, 2) := by decide +kernel
theorem dX12_givesFrom_87 : decode cX12_givesFrom 87 = .ok (.aload_n 0, 1) := by decide +kernel
theorem dX12_givesFrom_88 : decode cX12_givesFrom 88 = .ok (.getfield 147, 3) := by decide +kernel
theorem dX12_givesFrom_91 : decode cX12_givesFrom 91 = .ok (.if_icmp .ge 63, 3) := by decide +kernel
theorem dX12_givesFrom_94 : decode cX12_givesFrom 94 = .ok (.iload_n 3, 1) := by decide +kernel
theorem dX12_givesFrom_95 : decode cX12_givesFrom 95 = .ok (.iload 5, 2) := by decide +kernel
theorem dX12_givesFrom_97 : decode cX12_givesFrom 97 = .ok (.invokestatic 296, 3) := by decide +kernel
theorem dX12_givesFrom_100 : decode cX12_givesFrom 100 = .ok (.ifCond .ne 48, 3) := by decide +kernel
theorem dX12_givesFrom_103 : decode cX12_givesFrom 103 = .ok (.aload_n 0, 1) := by decide +kernel
theorem dX12_givesFrom_104 : decode cX12_givesFrom 104 = .ok (.getfield 119, 3) := by decide +kernel
theorem dX12_givesFrom_107 : decode cX12_givesFrom 107 = .ok (.iload_n 1, 1) := by decide +kernel
theorem dX12_givesFrom_108 : decode cX12_givesFrom 108 = .ok (.iaload, 1) := by decide +kernel
theorem dX12_givesFrom_109 : decode cX12_givesFrom 109 = .ok (.aload_n 0, 1) := by decide +kernel
theorem dX12_givesFrom_110 : decode cX12_givesFrom 110 = .ok (.getfield 40, 3) := by decide +kernel
theorem dX12_givesFrom_113 : decode cX12_givesFrom 113 = .ok (.iload 5, 2) := by decide +kernel
theorem dX12_givesFrom_115 : decode cX12_givesFrom 115 = .ok (.iaload, 1) := by decide +kernel
theorem dX12_givesFrom_116 : decode cX12_givesFrom 116 = .ok (.iconst (-1), 1) := by decide +kernel
theorem dX12_givesFrom_117 : decode cX12_givesFrom 117 = .ok (.ixor, 1) := by decide +kernel
theorem dX12_givesFrom_118 : decode cX12_givesFrom 118 = .ok (.iand, 1) := by decide +kernel
theorem dX12_givesFrom_119 : decode cX12_givesFrom 119 = .ok (.ifCond .ne 29, 3) := by decide +kernel
theorem dX12_givesFrom_122 : decode cX12_givesFrom 122 = .ok (.aload_n 0, 1) := by decide +kernel
theorem dX12_givesFrom_123 : decode cX12_givesFrom 123 = .ok (.getfield 122, 3) := by decide +kernel
theorem dX12_givesFrom_126 : decode cX12_givesFrom 126 = .ok (.iload_n 1, 1) := by decide +kernel
theorem dX12_givesFrom_127 : decode cX12_givesFrom 127 = .ok (.iload 5, 2) := by decide +kernel
theorem dX12_givesFrom_129 : decode cX12_givesFrom 129 = .ok (.iastore, 1) := by decide +kernel
theorem dX12_givesFrom_130 : decode cX12_givesFrom 130 = .ok (.aload_n 0, 1) := by decide +kernel
theorem dX12_givesFrom_131 : decode cX12_givesFrom 131 = .ok (.iload_n 1, 1) := by decide +kernel
theorem dX12_givesFrom_132 : decode cX12_givesFrom 132 = .ok (.iconst 1, 1) := by decide +kernel
theorem dX12_givesFrom_133 : decode cX12_givesFrom 133 = .ok (.iadd, 1) := by decide +kernel
theorem dX12_givesFrom_134 : decode cX12_givesFrom 134 = .ok (.iload_n 2, 1) := by decide +kernel
theorem dX12_givesFrom_135 : decode cX12_givesFrom 135 = .ok (.iload_n 3, 1) := by decide +kernel
theorem dX12_givesFrom_136 : decode cX12_givesFrom 136 = .ok (.iconst 1, 1) := by decide +kernel
theorem dX12_givesFrom_137 : decode cX12_givesFrom 137 = .ok (.iload 5, 2) := by decide +kernel
theorem dX12_givesFrom_139 : decode cX12_givesFrom 139 = .ok (.ishl, 1) := by decide +kernel
theorem dX12_givesFrom_140 : decode cX12_givesFrom 140 = .ok (.ior, 1) := by decide +kernel
theorem dX12_givesFrom_141 : decode cX12_givesFrom 141 = .ok (.iload 4, 2) := by decide +kernel
theorem dX12_givesFrom_143 : decode cX12_givesFrom 143 = .ok (.iconst 1, 1) := by decide +kernel
theorem dX12_givesFrom_144 : decode cX12_givesFrom 144 = .ok (.iadd, 1) := by decide +kernel
theorem dX12_givesFrom_145 : decode cX12_givesFrom 145 = .ok (.invokevirtual 439, 3) := by decide +kernel
theorem dX12_givesFrom_148 : decode cX12_givesFrom 148 = .ok (.iinc 5 1, 3) := by decide +kernel
theorem dX12_givesFrom_151 : decode cX12_givesFrom 151 = .ok (.goto (-66), 3) := by decide +kernel
theorem dX12_givesFrom_154 : decode cX12_givesFrom 154 = .ok (.return_, 1) := by decide +kernel
theorem dX12_claims_0 : decode cX12_claims 0 = .ok (.aload_n 0, 1) := by decide +kernel
theorem dX12_claims_1 : decode cX12_claims 1 = .ok (.iconst 0, 1) := by decide +kernel
theorem dX12_claims_2 : decode cX12_claims 2 = .ok (.putfield 3, 3) := by decide +kernel
theorem dX12_claims_5 : decode cX12_claims 5 = .ok (.aload_n 0, 1) := by decide +kernel
theorem dX12_claims_6 : decode cX12_claims 6 = .ok (.bipush 80, 2) := by decide +kernel
theorem dX12_claims_8 : decode cX12_claims 8 = .ok (.invokevirtual 206, 3) := by decide +kernel
theorem dX12_claims_11 : decode cX12_claims 11 = .ok (.istore_n 1, 1) := by decide +kernel
theorem dX12_claims_12 : decode cX12_claims 12 = .ok (.iconst 0, 1) := by decide +kernel
theorem dX12_claims_13 : decode cX12_claims 13 = .ok (.istore_n 2, 1) := by decide +kernel
theorem dX12_claims_14 : decode cX12_claims 14 = .ok (.iconst 1, 1) := by decide +kernel
theorem dX12_claims_15 : decode cX12_claims 15 = .ok (.istore_n 3, 1) := by decide +kernel
theorem dX12_claims_16 : decode cX12_claims 16 = .ok (.iload_n 1, 1) := by decide +kernel
theorem dX12_claims_17 : decode cX12_claims 17 = .ok (.ifCond .le 7, 3) := by decide +kernel
theorem dX12_claims_20 : decode cX12_claims 20 = .ok (.iconst 1, 1) := by decide +kernel
theorem dX12_claims_21 : decode cX12_claims 21 = .ok (.goto 4, 3) := by decide +kernel
theorem dX12_claims_24 : decode cX12_claims 24 = .ok (.iconst 0, 1) := by decide +kernel
theorem dX12_claims_25 : decode cX12_claims 25 = .ok (.istore 4, 2) := by decide +kernel
theorem dX12_claims_27 : decode cX12_claims 27 = .ok (.iload 4, 2) := by decide +kernel
theorem dX12_claims_29 : decode cX12_claims 29 = .ok (.ifCond .eq 70, 3) := by decide +kernel
theorem dX12_claims_32 : decode cX12_claims 32 = .ok (.iload_n 2, 1) := by decide +kernel
theorem dX12_claims_33 : decode cX12_claims 33 = .ok (.bipush 8, 2) := by decide +kernel
theorem dX12_claims_35 : decode cX12_claims 35 = .ok (.if_icmp .ge 7, 3) := by decide +kernel
theorem dX12_claims_38 : decode cX12_claims 38 = .ok (.iconst 1, 1) := by decide +kernel
theorem dX12_claims_39 : decode cX12_claims 39 = .ok (.goto 4, 3) := by decide +kernel
theorem dX12_claims_42 : decode cX12_claims 42 = .ok (.iconst 0, 1) := by decide +kernel
theorem dX12_claims_43 : decode cX12_claims 43 = .ok (.istore_n 3, 1) := by decide +kernel
theorem dX12_claims_44 : decode cX12_claims 44 = .ok (.iload_n 3, 1) := by decide +kernel
theorem dX12_claims_45 : decode cX12_claims 45 = .ok (.ifCond .eq 31, 3) := by decide +kernel
theorem dX12_claims_48 : decode cX12_claims 48 = .ok (.aload_n 0, 1) := by decide +kernel
theorem dX12_claims_49 : decode cX12_claims 49 = .ok (.getfield 119, 3) := by decide +kernel
theorem dX12_claims_52 : decode cX12_claims 52 = .ok (.iload_n 2, 1) := by decide +kernel
theorem dX12_claims_53 : decode cX12_claims 53 = .ok (.aload_n 0, 1) := by decide +kernel
theorem dX12_claims_54 : decode cX12_claims 54 = .ok (.invokevirtual 229, 3) := by decide +kernel
theorem dX12_claims_57 : decode cX12_claims 57 = .ok (.iastore, 1) := by decide +kernel
theorem dX12_claims_58 : decode cX12_claims 58 = .ok (.aload_n 0, 1) := by decide +kernel
theorem dX12_claims_59 : decode cX12_claims 59 = .ok (.getfield 119, 3) := by decide +kernel
theorem dX12_claims_62 : decode cX12_claims 62 = .ok (.iload_n 2, 1) := by decide +kernel
theorem dX12_claims_63 : decode cX12_claims 63 = .ok (.iaload, 1) := by decide +kernel
theorem dX12_claims_64 : decode cX12_claims 64 = .ok (.ifCond .eq 7, 3) := by decide +kernel
theorem dX12_claims_67 : decode cX12_claims 67 = .ok (.iconst 1, 1) := by decide +kernel
theorem dX12_claims_68 : decode cX12_claims 68 = .ok (.goto 4, 3) := by decide +kernel
theorem dX12_claims_71 : decode cX12_claims 71 = .ok (.iconst 0, 1) := by decide +kernel
theorem dX12_claims_72 : decode cX12_claims 72 = .ok (.istore_n 3, 1) := by decide +kernel
theorem dX12_claims_73 : decode cX12_claims 73 = .ok (.iinc 2 1, 3) := by decide +kernel
theorem dX12_claims_76 : decode cX12_claims 76 = .ok (.iload_n 3, 1) := by decide +kernel
theorem dX12_claims_77 : decode cX12_claims 77 = .ok (.ifCond .eq 16, 3) := by decide +kernel
theorem dX12_claims_80 : decode cX12_claims 80 = .ok (.aload_n 0, 1) := by decide +kernel
theorem dX12_claims_81 : decode cX12_claims 81 = .ok (.bipush 59, 2) := by decide +kernel
theorem dX12_claims_83 : decode cX12_claims 83 = .ok (.invokevirtual 245, 3) := by decide +kernel
theorem dX12_claims_86 : decode cX12_claims 86 = .ok (.ifCond .eq 7, 3) := by decide +kernel
theorem dX12_claims_89 : decode cX12_claims 89 = .ok (.iconst 1, 1) := by decide +kernel
theorem dX12_claims_90 : decode cX12_claims 90 = .ok (.goto 4, 3) := by decide +kernel
theorem dX12_claims_93 : decode cX12_claims 93 = .ok (.iconst 0, 1) := by decide +kernel
theorem dX12_claims_94 : decode cX12_claims 94 = .ok (.istore 4, 2) := by decide +kernel
theorem dX12_claims_96 : decode cX12_claims 96 = .ok (.goto (-69), 3) := by decide +kernel
theorem dX12_claims_99 : decode cX12_claims 99 = .ok (.iload_n 3, 1) := by decide +kernel
theorem dX12_claims_100 : decode cX12_claims 100 = .ok (.ifCond .eq 14, 3) := by decide +kernel
theorem dX12_claims_103 : decode cX12_claims 103 = .ok (.aload_n 0, 1) := by decide +kernel
theorem dX12_claims_104 : decode cX12_claims 104 = .ok (.getfield 162, 3) := by decide +kernel
theorem dX12_claims_107 : decode cX12_claims 107 = .ok (.aload_n 0, 1) := by decide +kernel
theorem dX12_claims_108 : decode cX12_claims 108 = .ok (.getfield 172, 3) := by decide +kernel
theorem dX12_claims_111 : decode cX12_claims 111 = .ok (.if_icmp .ge 10, 3) := by decide +kernel
theorem dX12_claims_114 : decode cX12_claims 114 = .ok (.iconst (-1), 1) := by decide +kernel
theorem dX12_claims_115 : decode cX12_claims 115 = .ok (.aload_n 0, 1) := by decide +kernel
theorem dX12_claims_116 : decode cX12_claims 116 = .ok (.getfield 162, 3) := by decide +kernel
theorem dX12_claims_119 : decode cX12_claims 119 = .ok (.isub, 1) := by decide +kernel
theorem dX12_claims_120 : decode cX12_claims 120 = .ok (.ireturn, 1) := by decide +kernel
theorem dX12_claims_121 : decode cX12_claims 121 = .ok (.aload_n 0, 1) := by decide +kernel
theorem dX12_claims_122 : decode cX12_claims 122 = .ok (.iconst (-1), 1) := by decide +kernel
theorem dX12_claims_123 : decode cX12_claims 123 = .ok (.putfield 436, 3) := by decide +kernel
theorem dX12_claims_126 : decode cX12_claims 126 = .ok (.aload_n 0, 1) := by decide +kernel
theorem dX12_claims_127 : decode cX12_claims 127 = .ok (.iconst 0, 1) := by decide +kernel
theorem dX12_claims_128 : decode cX12_claims 128 = .ok (.iload_n 2, 1) := by decide +kernel
theorem dX12_claims_129 : decode cX12_claims 129 = .ok (.iconst 0, 1) := by decide +kernel
theorem dX12_claims_130 : decode cX12_claims 130 = .ok (.iconst 0, 1) := by decide +kernel
theorem dX12_claims_131 : decode cX12_claims 131 = .ok (.invokevirtual 439, 3) := by decide +kernel
theorem dX12_claims_134 : decode cX12_claims 134 = .ok (.aload_n 0, 1) := by decide +kernel
theorem dX12_claims_135 : decode cX12_claims 135 = .ok (.iconst 0, 1) := by decide +kernel
theorem dX12_claims_136 : decode cX12_claims 136 = .ok (.putfield 15, 3) := by decide +kernel
theorem dX12_claims_139 : decode cX12_claims 139 = .ok (.iconst 0, 1) := by decide +kernel
theorem dX12_claims_140 : decode cX12_claims 140 = .ok (.istore 5, 2) := by decide +kernel
theorem dX12_claims_142 : decode cX12_claims 142 = .ok (.iload 5, 2) := by decide +kernel
theorem dX12_claims_144 : decode cX12_claims 144 = .ok (.iload_n 2, 1) := by decide +kernel
theorem dX12_claims_145 : decode cX12_claims 145 = .ok (.if_icmp .ge 21, 3) := by decide +kernel
theorem dX12_claims_148 : decode cX12_claims 148 = .ok (.aload_n 0, 1) := by decide +kernel
theorem dX12_claims_149 : decode cX12_claims 149 = .ok (.aload_n 0, 1) := by decide +kernel
theorem dX12_claims_150 : decode cX12_claims 150 = .ok (.getfield 125, 3) := by decide +kernel
theorem dX12_claims_153 : decode cX12_claims 153 = .ok (.iload 5, 2) := by decide +kernel
theorem dX12_claims_155 : decode cX12_claims 155 = .ok (.iaload, 1) := by decide +kernel
theorem dX12_claims_156 : decode cX12_claims 156 = .ok (.i2l, 1) := by decide +kernel
theorem dX12_claims_157 : decode cX12_claims 157 = .ok (.invokevirtual 387, 3) := by decide +kernel
theorem dX12_claims_160 : decode cX12_claims 160 = .ok (.iinc 5 1, 3) := by decide +kernel
theorem dX12_claims_163 : decode cX12_claims 163 = .ok (.goto (-21), 3) := by decide +kernel
theorem dX12_claims_166 : decode cX12_claims 166 = .ok (.aload_n 0, 1) := by decide +kernel
theorem dX12_claims_167 : decode cX12_claims 167 = .ok (.getfield 436, 3) := by decide +kernel
theorem dX12_claims_170 : decode cX12_claims 170 = .ok (.ireturn, 1) := by decide +kernel
theorem dX12_balls_0 : decode cX12_balls 0 = .ok (.aload_n 0, 1) := by decide +kernel
theorem dX12_balls_1 : decode cX12_balls 1 = .ok (.iconst 0, 1) := by decide +kernel
theorem dX12_balls_2 : decode cX12_balls 2 = .ok (.putfield 3, 3) := by decide +kernel
theorem dX12_balls_5 : decode cX12_balls 5 = .ok (.aload_n 0, 1) := by decide +kernel
theorem dX12_balls_6 : decode cX12_balls 6 = .ok (.iload_n 1, 1) := by decide +kernel
theorem dX12_balls_7 : decode cX12_balls 7 = .ok (.invokevirtual 346, 3) := by decide +kernel
theorem dX12_balls_10 : decode cX12_balls 10 = .ok (.ifCond .eq 23, 3) := by decide +kernel
theorem dX12_balls_13 : decode cX12_balls 13 = .ok (.aload_n 0, 1) := by decide +kernel
theorem dX12_balls_14 : decode cX12_balls 14 = .ok (.iload_n 2, 1) := by decide +kernel
theorem dX12_balls_15 : decode cX12_balls 15 = .ok (.invokevirtual 332, 3) := by decide +kernel
theorem dX12_balls_18 : decode cX12_balls 18 = .ok (.ifCond .eq 15, 3) := by decide +kernel
theorem dX12_balls_21 : decode cX12_balls 21 = .ok (.iload_n 3, 1) := by decide +kernel
theorem dX12_balls_22 : decode cX12_balls 22 = .ok (.i2l, 1) := by decide +kernel
theorem dX12_balls_23 : decode cX12_balls 23 = .ok (.lconst 0, 1) := by decide +kernel
theorem dX12_balls_24 : decode cX12_balls 24 = .ok (.ldc2_w 443, 3) := by decide +kernel
theorem dX12_balls_27 : decode cX12_balls 27 = .ok (.invokestatic 143, 3) := by decide +kernel
theorem dX12_balls_30 : decode cX12_balls 30 = .ok (.ifCond .ne 5, 3) := by decide +kernel
theorem dX12_balls_33 : decode cX12_balls 33 = .ok (.iconst (-1), 1) := by decide +kernel
theorem dX12_balls_34 : decode cX12_balls 34 = .ok (.ireturn, 1) := by decide +kernel
theorem dX12_balls_35 : decode cX12_balls 35 = .ok (.lconst 1, 1) := by decide +kernel
theorem dX12_balls_36 : decode cX12_balls 36 = .ok (.lstore 4, 2) := by decide +kernel
theorem dX12_balls_38 : decode cX12_balls 38 = .ok (.lconst 1, 1) := by decide +kernel
theorem dX12_balls_39 : decode cX12_balls 39 = .ok (.lstore 6, 2) := by decide +kernel
theorem dX12_balls_41 : decode cX12_balls 41 = .ok (.aload_n 0, 1) := by decide +kernel
theorem dX12_balls_42 : decode cX12_balls 42 = .ok (.aload_n 0, 1) := by decide +kernel
theorem dX12_balls_43 : decode cX12_balls 43 = .ok (.getfield 49, 3) := by decide +kernel
theorem dX12_balls_46 : decode cX12_balls 46 = .ok (.iload_n 1, 1) := by decide +kernel
theorem dX12_balls_47 : decode cX12_balls 47 = .ok (.invokevirtual 325, 3) := by decide +kernel
theorem dX12_balls_50 : decode cX12_balls 50 = .ok (.aload_n 0, 1) := by decide +kernel
theorem dX12_balls_51 : decode cX12_balls 51 = .ok (.getfield 49, 3) := by decide +kernel
theorem dX12_balls_54 : decode cX12_balls 54 = .ok (.bipush 24, 2) := by decide +kernel
theorem dX12_balls_56 : decode cX12_balls 56 = .ok (.iaload, 1) := by decide +kernel
theorem dX12_balls_57 : decode cX12_balls 57 = .ok (.iconst (-1), 1) := by decide +kernel
theorem dX12_balls_58 : decode cX12_balls 58 = .ok (.ixor, 1) := by decide +kernel
theorem dX12_balls_59 : decode cX12_balls 59 = .ok (.iand, 1) := by decide +kernel
theorem dX12_balls_60 : decode cX12_balls 60 = .ok (.invokestatic 300, 3) := by decide +kernel
theorem dX12_balls_63 : decode cX12_balls 63 = .ok (.istore 8, 2) := by decide +kernel
theorem dX12_balls_65 : decode cX12_balls 65 = .ok (.iload 8, 2) := by decide +kernel
theorem dX12_balls_67 : decode cX12_balls 67 = .ok (.ifCond .le 27, 3) := by decide +kernel
theorem dX12_balls_70 : decode cX12_balls 70 = .ok (.lload 4, 2) := by decide +kernel
theorem dX12_balls_72 : decode cX12_balls 72 = .ok (.bipush 10, 2) := by decide +kernel
theorem dX12_balls_74 : decode cX12_balls 74 = .ok (.iload_n 3, 1) := by decide +kernel
theorem dX12_balls_75 : decode cX12_balls 75 = .ok (.isub, 1) := by decide +kernel
theorem dX12_balls_76 : decode cX12_balls 76 = .ok (.i2l, 1) := by decide +kernel
theorem dX12_balls_77 : decode cX12_balls 77 = .ok (.lmul, 1) := by decide +kernel
theorem dX12_balls_78 : decode cX12_balls 78 = .ok (.lstore 4, 2) := by decide +kernel
theorem dX12_balls_80 : decode cX12_balls 80 = .ok (.lload 6, 2) := by decide +kernel
theorem dX12_balls_82 : decode cX12_balls 82 = .ok (.ldc2_w 443, 3) := by decide +kernel
theorem dX12_balls_85 : decode cX12_balls 85 = .ok (.lmul, 1) := by decide +kernel
theorem dX12_balls_86 : decode cX12_balls 86 = .ok (.lstore 6, 2) := by decide +kernel
theorem dX12_balls_88 : decode cX12_balls 88 = .ok (.iinc 8 (-1), 3) := by decide +kernel
theorem dX12_balls_91 : decode cX12_balls 91 = .ok (.goto (-26), 3) := by decide +kernel
theorem dX12_balls_94 : decode cX12_balls 94 = .ok (.aload_n 0, 1) := by decide +kernel
theorem dX12_balls_95 : decode cX12_balls 95 = .ok (.aload_n 0, 1) := by decide +kernel
theorem dX12_balls_96 : decode cX12_balls 96 = .ok (.getfield 49, 3) := by decide +kernel
theorem dX12_balls_99 : decode cX12_balls 99 = .ok (.iload_n 1, 1) := by decide +kernel
theorem dX12_balls_100 : decode cX12_balls 100 = .ok (.invokevirtual 340, 3) := by decide +kernel
theorem dX12_balls_103 : decode cX12_balls 103 = .ok (.iload_n 2, 1) := by decide +kernel
theorem dX12_balls_104 : decode cX12_balls 104 = .ok (.invokestatic 296, 3) := by decide +kernel
theorem dX12_balls_107 : decode cX12_balls 107 = .ok (.istore 8, 2) := by decide +kernel
theorem dX12_balls_109 : decode cX12_balls 109 = .ok (.aload_n 0, 1) := by decide +kernel
theorem dX12_balls_110 : decode cX12_balls 110 = .ok (.iload_n 1, 1) := by decide +kernel
theorem dX12_balls_111 : decode cX12_balls 111 = .ok (.aload_n 0, 1) := by decide +kernel
theorem dX12_balls_112 : decode cX12_balls 112 = .ok (.getfield 49, 3) := by decide +kernel
theorem dX12_balls_115 : decode cX12_balls 115 = .ok (.iload_n 2, 1) := by decide +kernel
theorem dX12_balls_116 : decode cX12_balls 116 = .ok (.iaload, 1) := by decide +kernel
theorem dX12_balls_117 : decode cX12_balls 117 = .ok (.invokevirtual 315, 3) := by decide +kernel
theorem dX12_balls_120 : decode cX12_balls 120 = .ok (.ifCond .ne 7, 3) := by decide +kernel
theorem dX12_balls_123 : decode cX12_balls 123 = .ok (.lconst 0, 1) := by decide +kernel
theorem dX12_balls_124 : decode cX12_balls 124 = .ok (.goto 18, 3) := by decide +kernel
theorem dX12_balls_127 : decode cX12_balls 127 = .ok (.iload 8, 2) := by decide +kernel
theorem dX12_balls_129 : decode cX12_balls 129 = .ok (.ifCond .eq 8, 3) := by decide +kernel
theorem dX12_balls_132 : decode cX12_balls 132 = .ok (.lload 6, 2) := by decide +kernel
theorem dX12_balls_134 : decode cX12_balls 134 = .ok (.goto 8, 3) := by decide +kernel
theorem dX12_balls_137 : decode cX12_balls 137 = .ok (.lload 6, 2) := by decide +kernel
theorem dX12_balls_139 : decode cX12_balls 139 = .ok (.lload 4, 2) := by decide +kernel
theorem dX12_balls_141 : decode cX12_balls 141 = .ok (.lsub, 1) := by decide +kernel
theorem dX12_balls_142 : decode cX12_balls 142 = .ok (.lstore 9, 2) := by decide +kernel
theorem dX12_balls_144 : decode cX12_balls 144 = .ok (.lload 9, 2) := by decide +kernel
theorem dX12_balls_146 : decode cX12_balls 146 = .ok (.lload 6, 2) := by decide +kernel
theorem dX12_balls_148 : decode cX12_balls 148 = .ok (.invokestatic 7, 3) := by decide +kernel
theorem dX12_balls_151 : decode cX12_balls 151 = .ok (.lstore 11, 2) := by decide +kernel
theorem dX12_balls_153 : decode cX12_balls 153 = .ok (.aload_n 0, 1) := by decide +kernel
theorem dX12_balls_154 : decode cX12_balls 154 = .ok (.iconst 0, 1) := by decide +kernel
theorem dX12_balls_155 : decode cX12_balls 155 = .ok (.putfield 15, 3) := by decide +kernel
theorem dX12_balls_158 : decode cX12_balls 158 = .ok (.aload_n 0, 1) := by decide +kernel
theorem dX12_balls_159 : decode cX12_balls 159 = .ok (.lload 9, 2) := by decide +kernel
theorem dX12_balls_161 : decode cX12_balls 161 = .ok (.lload 11, 2) := by decide +kernel
theorem dX12_balls_163 : decode cX12_balls 163 = .ok (.ldiv, 1) := by decide +kernel
theorem dX12_balls_164 : decode cX12_balls 164 = .ok (.invokevirtual 387, 3) := by decide +kernel
theorem dX12_balls_167 : decode cX12_balls 167 = .ok (.aload_n 0, 1) := by decide +kernel
theorem dX12_balls_168 : decode cX12_balls 168 = .ok (.lload 6, 2) := by decide +kernel
theorem dX12_balls_170 : decode cX12_balls 170 = .ok (.lload 11, 2) := by decide +kernel
theorem dX12_balls_172 : decode cX12_balls 172 = .ok (.ldiv, 1) := by decide +kernel
theorem dX12_balls_173 : decode cX12_balls 173 = .ok (.invokevirtual 387, 3) := by decide +kernel
theorem dX12_balls_176 : decode cX12_balls 176 = .ok (.iconst 0, 1) := by decide +kernel
theorem dX12_balls_177 : decode cX12_balls 177 = .ok (.ireturn, 1) := by decide +kernel
theorem dX12_pairsLet_0 : decode cX12_pairsLet 0 = .ok (.iconst 0, 1) := by decide +kernel
theorem dX12_pairsLet_1 : decode cX12_pairsLet 1 = .ok (.istore_n 1, 1) := by decide +kernel
theorem dX12_pairsLet_2 : decode cX12_pairsLet 2 = .ok (.iconst 0, 1) := by decide +kernel
theorem dX12_pairsLet_3 : decode cX12_pairsLet 3 = .ok (.istore_n 2, 1) := by decide +kernel
theorem dX12_pairsLet_4 : decode cX12_pairsLet 4 = .ok (.iload_n 2, 1) := by decide +kernel
theorem dX12_pairsLet_5 : decode cX12_pairsLet 5 = .ok (.aload_n 0, 1) := by decide +kernel
theorem dX12_pairsLet_6 : decode cX12_pairsLet 6 = .ok (.getfield 147, 3) := by decide +kernel
theorem dX12_pairsLet_9 : decode cX12_pairsLet 9 = .ok (.if_icmp .ge 52, 3) := by decide +kernel
theorem dX12_pairsLet_12 : decode cX12_pairsLet 12 = .ok (.iconst 0, 1) := by decide +kernel
theorem dX12_pairsLet_13 : decode cX12_pairsLet 13 = .ok (.istore_n 3, 1) := by decide +kernel
theorem dX12_pairsLet_14 : decode cX12_pairsLet 14 = .ok (.iload_n 3, 1) := by decide +kernel
theorem dX12_pairsLet_15 : decode cX12_pairsLet 15 = .ok (.aload_n 0, 1) := by decide +kernel
theorem dX12_pairsLet_16 : decode cX12_pairsLet 16 = .ok (.getfield 140, 3) := by decide +kernel
theorem dX12_pairsLet_19 : decode cX12_pairsLet 19 = .ok (.if_icmp .ge 36, 3) := by decide +kernel
theorem dX12_pairsLet_22 : decode cX12_pairsLet 22 = .ok (.iload_n 1, 1) := by decide +kernel
theorem dX12_pairsLet_23 : decode cX12_pairsLet 23 = .ok (.aload_n 0, 1) := by decide +kernel
theorem dX12_pairsLet_24 : decode cX12_pairsLet 24 = .ok (.aload_n 0, 1) := by decide +kernel
theorem dX12_pairsLet_25 : decode cX12_pairsLet 25 = .ok (.getfield 49, 3) := by decide +kernel
theorem dX12_pairsLet_28 : decode cX12_pairsLet 28 = .ok (.iload_n 2, 1) := by decide +kernel
theorem dX12_pairsLet_29 : decode cX12_pairsLet 29 = .ok (.aload_n 0, 1) := by decide +kernel
theorem dX12_pairsLet_30 : decode cX12_pairsLet 30 = .ok (.getfield 30, 3) := by decide +kernel
theorem dX12_pairsLet_33 : decode cX12_pairsLet 33 = .ok (.iload_n 3, 1) := by decide +kernel
theorem dX12_pairsLet_34 : decode cX12_pairsLet 34 = .ok (.iaload, 1) := by decide +kernel
theorem dX12_pairsLet_35 : decode cX12_pairsLet 35 = .ok (.aload_n 0, 1) := by decide +kernel
theorem dX12_pairsLet_36 : decode cX12_pairsLet 36 = .ok (.getfield 34, 3) := by decide +kernel
theorem dX12_pairsLet_39 : decode cX12_pairsLet 39 = .ok (.iload_n 3, 1) := by decide +kernel
theorem dX12_pairsLet_40 : decode cX12_pairsLet 40 = .ok (.iaload, 1) := by decide +kernel
theorem dX12_pairsLet_41 : decode cX12_pairsLet 41 = .ok (.invokevirtual 308, 3) := by decide +kernel
theorem dX12_pairsLet_44 : decode cX12_pairsLet 44 = .ok (.invokestatic 175, 3) := by decide +kernel
theorem dX12_pairsLet_47 : decode cX12_pairsLet 47 = .ok (.iadd, 1) := by decide +kernel
theorem dX12_pairsLet_48 : decode cX12_pairsLet 48 = .ok (.istore_n 1, 1) := by decide +kernel
theorem dX12_pairsLet_49 : decode cX12_pairsLet 49 = .ok (.iinc 3 1, 3) := by decide +kernel
theorem dX12_pairsLet_52 : decode cX12_pairsLet 52 = .ok (.goto (-38), 3) := by decide +kernel
theorem dX12_pairsLet_55 : decode cX12_pairsLet 55 = .ok (.iinc 2 1, 3) := by decide +kernel
theorem dX12_pairsLet_58 : decode cX12_pairsLet 58 = .ok (.goto (-54), 3) := by decide +kernel
theorem dX12_pairsLet_61 : decode cX12_pairsLet 61 = .ok (.iload_n 1, 1) := by decide +kernel
theorem dX12_pairsLet_62 : decode cX12_pairsLet 62 = .ok (.ireturn, 1) := by decide +kernel
theorem dX12_law_0 : decode cX12_law 0 = .ok (.aload_n 0, 1) := by decide +kernel
theorem dX12_law_1 : decode cX12_law 1 = .ok (.iconst 0, 1) := by decide +kernel
theorem dX12_law_2 : decode cX12_law 2 = .ok (.putfield 3, 3) := by decide +kernel
theorem dX12_law_5 : decode cX12_law 5 = .ok (.aload_n 0, 1) := by decide +kernel
theorem dX12_law_6 : decode cX12_law 6 = .ok (.invokevirtual 285, 3) := by decide +kernel
theorem dX12_law_9 : decode cX12_law 9 = .ok (.istore_n 1, 1) := by decide +kernel
theorem dX12_law_10 : decode cX12_law 10 = .ok (.iload_n 1, 1) := by decide +kernel
theorem dX12_law_11 : decode cX12_law 11 = .ok (.ifCond .ge 11, 3) := by decide +kernel
theorem dX12_law_14 : decode cX12_law 14 = .ok (.iload_n 1, 1) := by decide +kernel
theorem dX12_law_15 : decode cX12_law 15 = .ok (.iconst 1, 1) := by decide +kernel
theorem dX12_law_16 : decode cX12_law 16 = .ok (.iadd, 1) := by decide +kernel
theorem dX12_law_17 : decode cX12_law 17 = .ok (.sipush 10000, 3) := by decide +kernel
theorem dX12_law_20 : decode cX12_law 20 = .ok (.isub, 1) := by decide +kernel
theorem dX12_law_21 : decode cX12_law 21 = .ok (.ireturn, 1) := by decide +kernel
theorem dX12_law_22 : decode cX12_law 22 = .ok (.aload_n 0, 1) := by decide +kernel
theorem dX12_law_23 : decode cX12_law 23 = .ok (.invokevirtual 445, 3) := by decide +kernel
theorem dX12_law_26 : decode cX12_law 26 = .ok (.istore_n 2, 1) := by decide +kernel
theorem dX12_law_27 : decode cX12_law 27 = .ok (.aload_n 0, 1) := by decide +kernel
theorem dX12_law_28 : decode cX12_law 28 = .ok (.getfield 282, 3) := by decide +kernel
theorem dX12_law_31 : decode cX12_law 31 = .ok (.istore_n 3, 1) := by decide +kernel
theorem dX12_law_32 : decode cX12_law 32 = .ok (.iconst 0, 1) := by decide +kernel
theorem dX12_law_33 : decode cX12_law 33 = .ok (.istore 4, 2) := by decide +kernel
theorem dX12_law_35 : decode cX12_law 35 = .ok (.iload 4, 2) := by decide +kernel
theorem dX12_law_37 : decode cX12_law 37 = .ok (.aload_n 0, 1) := by decide +kernel
theorem dX12_law_38 : decode cX12_law 38 = .ok (.getfield 282, 3) := by decide +kernel
theorem dX12_law_41 : decode cX12_law 41 = .ok (.if_icmp .ge 23, 3) := by decide +kernel
theorem dX12_law_44 : decode cX12_law 44 = .ok (.aload_n 0, 1) := by decide +kernel
theorem dX12_law_45 : decode cX12_law 45 = .ok (.getfield 128, 3) := by decide +kernel
theorem dX12_law_48 : decode cX12_law 48 = .ok (.iload 4, 2) := by decide +kernel
theorem dX12_law_50 : decode cX12_law 50 = .ok (.aload_n 0, 1) := by decide +kernel
theorem dX12_law_51 : decode cX12_law 51 = .ok (.getfield 61, 3) := by decide +kernel
theorem dX12_law_54 : decode cX12_law 54 = .ok (.iload 4, 2) := by decide +kernel
theorem dX12_law_56 : decode cX12_law 56 = .ok (.iaload, 1) := by decide +kernel
theorem dX12_law_57 : decode cX12_law 57 = .ok (.iastore, 1) := by decide +kernel
theorem dX12_law_58 : decode cX12_law 58 = .ok (.iinc 4 1, 3) := by decide +kernel
theorem dX12_law_61 : decode cX12_law 61 = .ok (.goto (-26), 3) := by decide +kernel
theorem dX12_law_64 : decode cX12_law 64 = .ok (.aload_n 0, 1) := by decide +kernel
theorem dX12_law_65 : decode cX12_law 65 = .ok (.aload_n 0, 1) := by decide +kernel
theorem dX12_law_66 : decode cX12_law 66 = .ok (.getfield 64, 3) := by decide +kernel
theorem dX12_law_69 : decode cX12_law 69 = .ok (.aload_n 0, 1) := by decide +kernel
theorem dX12_law_70 : decode cX12_law 70 = .ok (.getfield 261, 3) := by decide +kernel
theorem dX12_law_73 : decode cX12_law 73 = .ok (.invokevirtual 288, 3) := by decide +kernel
theorem dX12_law_76 : decode cX12_law 76 = .ok (.aload_n 0, 1) := by decide +kernel
theorem dX12_law_77 : decode cX12_law 77 = .ok (.invokevirtual 445, 3) := by decide +kernel
theorem dX12_law_80 : decode cX12_law 80 = .ok (.istore 4, 2) := by decide +kernel
theorem dX12_law_82 : decode cX12_law 82 = .ok (.aload_n 0, 1) := by decide +kernel
theorem dX12_law_83 : decode cX12_law 83 = .ok (.aload_n 0, 1) := by decide +kernel
theorem dX12_law_84 : decode cX12_law 84 = .ok (.getfield 128, 3) := by decide +kernel
theorem dX12_law_87 : decode cX12_law 87 = .ok (.iload_n 3, 1) := by decide +kernel
theorem dX12_law_88 : decode cX12_law 88 = .ok (.invokevirtual 288, 3) := by decide +kernel
theorem dX12_law_91 : decode cX12_law 91 = .ok (.aload_n 0, 1) := by decide +kernel
theorem dX12_law_92 : decode cX12_law 92 = .ok (.iconst 0, 1) := by decide +kernel
theorem dX12_law_93 : decode cX12_law 93 = .ok (.putfield 15, 3) := by decide +kernel
theorem dX12_law_96 : decode cX12_law 96 = .ok (.aload_n 0, 1) := by decide +kernel
theorem dX12_law_97 : decode cX12_law 97 = .ok (.iload 4, 2) := by decide +kernel
theorem dX12_law_99 : decode cX12_law 99 = .ok (.i2l, 1) := by decide +kernel
theorem dX12_law_100 : decode cX12_law 100 = .ok (.invokevirtual 387, 3) := by decide +kernel
theorem dX12_law_103 : decode cX12_law 103 = .ok (.aload_n 0, 1) := by decide +kernel
theorem dX12_law_104 : decode cX12_law 104 = .ok (.iload_n 2, 1) := by decide +kernel
theorem dX12_law_105 : decode cX12_law 105 = .ok (.i2l, 1) := by decide +kernel
theorem dX12_law_106 : decode cX12_law 106 = .ok (.invokevirtual 387, 3) := by decide +kernel
theorem dX12_law_109 : decode cX12_law 109 = .ok (.iload 4, 2) := by decide +kernel
theorem dX12_law_111 : decode cX12_law 111 = .ok (.iload_n 2, 1) := by decide +kernel
theorem dX12_law_112 : decode cX12_law 112 = .ok (.isub, 1) := by decide +kernel
theorem dX12_law_113 : decode cX12_law 113 = .ok (.ireturn, 1) := by decide +kernel
theorem dX12_isRest_0 : decode cX12_isRest 0 = .ok (.iconst 1, 1) := by decide +kernel
theorem dX12_isRest_1 : decode cX12_isRest 1 = .ok (.istore_n 3, 1) := by decide +kernel
theorem dX12_isRest_2 : decode cX12_isRest 2 = .ok (.iconst 0, 1) := by decide +kernel
theorem dX12_isRest_3 : decode cX12_isRest 3 = .ok (.istore 4, 2) := by decide +kernel
theorem dX12_isRest_5 : decode cX12_isRest 5 = .ok (.iload 4, 2) := by decide +kernel
theorem dX12_isRest_7 : decode cX12_isRest 7 = .ok (.bipush 9, 2) := by decide +kernel
theorem dX12_isRest_9 : decode cX12_isRest 9 = .ok (.if_icmp .gt 65, 3) := by decide +kernel
theorem dX12_isRest_12 : decode cX12_isRest 12 = .ok (.iload_n 3, 1) := by decide +kernel
theorem dX12_isRest_13 : decode cX12_isRest 13 = .ok (.ifCond .eq 53, 3) := by decide +kernel
theorem dX12_isRest_16 : decode cX12_isRest 16 = .ok (.iload_n 2, 1) := by decide +kernel
theorem dX12_isRest_17 : decode cX12_isRest 17 = .ok (.iload 4, 2) := by decide +kernel
theorem dX12_isRest_19 : decode cX12_isRest 19 = .ok (.imul, 1) := by decide +kernel
theorem dX12_isRest_20 : decode cX12_isRest 20 = .ok (.iload 4, 2) := by decide +kernel
theorem dX12_isRest_22 : decode cX12_isRest 22 = .ok (.iload_n 1, 1) := by decide +kernel
theorem dX12_isRest_23 : decode cX12_isRest 23 = .ok (.imul, 1) := by decide +kernel
theorem dX12_isRest_24 : decode cX12_isRest 24 = .ok (.iconst 3, 1) := by decide +kernel
theorem dX12_isRest_25 : decode cX12_isRest 25 = .ok (.idiv, 1) := by decide +kernel
theorem dX12_isRest_26 : decode cX12_isRest 26 = .ok (.isub, 1) := by decide +kernel
theorem dX12_isRest_27 : decode cX12_isRest 27 = .ok (.iload_n 2, 1) := by decide +kernel
theorem dX12_isRest_28 : decode cX12_isRest 28 = .ok (.iload_n 0, 1) := by decide +kernel
theorem dX12_isRest_29 : decode cX12_isRest 29 = .ok (.imul, 1) := by decide +kernel
theorem dX12_isRest_30 : decode cX12_isRest 30 = .ok (.iload_n 0, 1) := by decide +kernel
theorem dX12_isRest_31 : decode cX12_isRest 31 = .ok (.iload_n 1, 1) := by decide +kernel
theorem dX12_isRest_32 : decode cX12_isRest 32 = .ok (.imul, 1) := by decide +kernel
theorem dX12_isRest_33 : decode cX12_isRest 33 = .ok (.iconst 3, 1) := by decide +kernel
theorem dX12_isRest_34 : decode cX12_isRest 34 = .ok (.idiv, 1) := by decide +kernel
theorem dX12_isRest_35 : decode cX12_isRest 35 = .ok (.isub, 1) := by decide +kernel
theorem dX12_isRest_36 : decode cX12_isRest 36 = .ok (.if_icmp .gt 30, 3) := by decide +kernel
theorem dX12_isRest_39 : decode cX12_isRest 39 = .ok (.iload_n 2, 1) := by decide +kernel
theorem dX12_isRest_40 : decode cX12_isRest 40 = .ok (.iload 4, 2) := by decide +kernel
theorem dX12_isRest_42 : decode cX12_isRest 42 = .ok (.imul, 1) := by decide +kernel
theorem dX12_isRest_43 : decode cX12_isRest 43 = .ok (.iload 4, 2) := by decide +kernel
theorem dX12_isRest_45 : decode cX12_isRest 45 = .ok (.iload_n 0, 1) := by decide +kernel
theorem dX12_isRest_46 : decode cX12_isRest 46 = .ok (.imul, 1) := by decide +kernel
theorem dX12_isRest_47 : decode cX12_isRest 47 = .ok (.iconst 3, 1) := by decide +kernel
theorem dX12_isRest_48 : decode cX12_isRest 48 = .ok (.idiv, 1) := by decide +kernel
theorem dX12_isRest_49 : decode cX12_isRest 49 = .ok (.isub, 1) := by decide +kernel
theorem dX12_isRest_50 : decode cX12_isRest 50 = .ok (.iload_n 2, 1) := by decide +kernel
theorem dX12_isRest_51 : decode cX12_isRest 51 = .ok (.iload_n 1, 1) := by decide +kernel
theorem dX12_isRest_52 : decode cX12_isRest 52 = .ok (.imul, 1) := by decide +kernel
theorem dX12_isRest_53 : decode cX12_isRest 53 = .ok (.iload_n 0, 1) := by decide +kernel
theorem dX12_isRest_54 : decode cX12_isRest 54 = .ok (.iload_n 1, 1) := by decide +kernel
theorem dX12_isRest_55 : decode cX12_isRest 55 = .ok (.imul, 1) := by decide +kernel
theorem dX12_isRest_56 : decode cX12_isRest 56 = .ok (.iconst 3, 1) := by decide +kernel
theorem dX12_isRest_57 : decode cX12_isRest 57 = .ok (.idiv, 1) := by decide +kernel
theorem dX12_isRest_58 : decode cX12_isRest 58 = .ok (.isub, 1) := by decide +kernel
theorem dX12_isRest_59 : decode cX12_isRest 59 = .ok (.if_icmp .gt 7, 3) := by decide +kernel
theorem dX12_isRest_62 : decode cX12_isRest 62 = .ok (.iconst 1, 1) := by decide +kernel
theorem dX12_isRest_63 : decode cX12_isRest 63 = .ok (.goto 4, 3) := by decide +kernel
theorem dX12_isRest_66 : decode cX12_isRest 66 = .ok (.iconst 0, 1) := by decide +kernel
theorem dX12_isRest_67 : decode cX12_isRest 67 = .ok (.istore_n 3, 1) := by decide +kernel
theorem dX12_isRest_68 : decode cX12_isRest 68 = .ok (.iinc 4 1, 3) := by decide +kernel
theorem dX12_isRest_71 : decode cX12_isRest 71 = .ok (.goto (-66), 3) := by decide +kernel
theorem dX12_isRest_74 : decode cX12_isRest 74 = .ok (.iload_n 3, 1) := by decide +kernel
theorem dX12_isRest_75 : decode cX12_isRest 75 = .ok (.ireturn, 1) := by decide +kernel
theorem dX12_rests_0 : decode cX12_rests 0 = .ok (.aload_n 0, 1) := by decide +kernel
theorem dX12_rests_1 : decode cX12_rests 1 = .ok (.iconst 0, 1) := by decide +kernel
theorem dX12_rests_2 : decode cX12_rests 2 = .ok (.putfield 3, 3) := by decide +kernel
theorem dX12_rests_5 : decode cX12_rests 5 = .ok (.iload_n 1, 1) := by decide +kernel
theorem dX12_rests_6 : decode cX12_rests 6 = .ok (.i2l, 1) := by decide +kernel
theorem dX12_rests_7 : decode cX12_rests 7 = .ok (.lconst 0, 1) := by decide +kernel
theorem dX12_rests_8 : decode cX12_rests 8 = .ok (.ldc2_w 416, 3) := by decide +kernel
theorem dX12_rests_11 : decode cX12_rests 11 = .ok (.invokestatic 143, 3) := by decide +kernel
theorem dX12_rests_14 : decode cX12_rests 14 = .ok (.ifCond .ne 5, 3) := by decide +kernel
theorem dX12_rests_17 : decode cX12_rests 17 = .ok (.iconst (-1), 1) := by decide +kernel
theorem dX12_rests_18 : decode cX12_rests 18 = .ok (.ireturn, 1) := by decide +kernel
theorem dX12_rests_19 : decode cX12_rests 19 = .ok (.iconst 0, 1) := by decide +kernel
theorem dX12_rests_20 : decode cX12_rests 20 = .ok (.istore_n 2, 1) := by decide +kernel
theorem dX12_rests_21 : decode cX12_rests 21 = .ok (.aload_n 0, 1) := by decide +kernel
theorem dX12_rests_22 : decode cX12_rests 22 = .ok (.iconst 0, 1) := by decide +kernel
theorem dX12_rests_23 : decode cX12_rests 23 = .ok (.putfield 15, 3) := by decide +kernel
theorem dX12_rests_26 : decode cX12_rests 26 = .ok (.iconst 0, 1) := by decide +kernel
theorem dX12_rests_27 : decode cX12_rests 27 = .ok (.istore_n 3, 1) := by decide +kernel
theorem dX12_rests_28 : decode cX12_rests 28 = .ok (.iload_n 3, 1) := by decide +kernel
theorem dX12_rests_29 : decode cX12_rests 29 = .ok (.bipush 9, 2) := by decide +kernel
theorem dX12_rests_31 : decode cX12_rests 31 = .ok (.if_icmp .gt 55, 3) := by decide +kernel
theorem dX12_rests_34 : decode cX12_rests 34 = .ok (.iconst 0, 1) := by decide +kernel
theorem dX12_rests_35 : decode cX12_rests 35 = .ok (.istore 4, 2) := by decide +kernel
theorem dX12_rests_37 : decode cX12_rests 37 = .ok (.iload 4, 2) := by decide +kernel
theorem dX12_rests_39 : decode cX12_rests 39 = .ok (.bipush 9, 2) := by decide +kernel
theorem dX12_rests_41 : decode cX12_rests 41 = .ok (.if_icmp .gt 39, 3) := by decide +kernel
theorem dX12_rests_44 : decode cX12_rests 44 = .ok (.iload_n 3, 1) := by decide +kernel
theorem dX12_rests_45 : decode cX12_rests 45 = .ok (.iload 4, 2) := by decide +kernel
theorem dX12_rests_47 : decode cX12_rests 47 = .ok (.iload_n 1, 1) := by decide +kernel
theorem dX12_rests_48 : decode cX12_rests 48 = .ok (.invokestatic 448, 3) := by decide +kernel
theorem dX12_rests_51 : decode cX12_rests 51 = .ok (.ifCond .eq 23, 3) := by decide +kernel
theorem dX12_rests_54 : decode cX12_rests 54 = .ok (.iload_n 2, 1) := by decide +kernel
theorem dX12_rests_55 : decode cX12_rests 55 = .ok (.ifCond .ne 16, 3) := by decide +kernel
theorem dX12_rests_58 : decode cX12_rests 58 = .ok (.aload_n 0, 1) := by decide +kernel
theorem dX12_rests_59 : decode cX12_rests 59 = .ok (.iload_n 3, 1) := by decide +kernel
theorem dX12_rests_60 : decode cX12_rests 60 = .ok (.i2l, 1) := by decide +kernel
theorem dX12_rests_61 : decode cX12_rests 61 = .ok (.invokevirtual 387, 3) := by decide +kernel
theorem dX12_rests_64 : decode cX12_rests 64 = .ok (.aload_n 0, 1) := by decide +kernel
theorem dX12_rests_65 : decode cX12_rests 65 = .ok (.iload 4, 2) := by decide +kernel
theorem dX12_rests_67 : decode cX12_rests 67 = .ok (.i2l, 1) := by decide +kernel
theorem dX12_rests_68 : decode cX12_rests 68 = .ok (.invokevirtual 387, 3) := by decide +kernel
theorem dX12_rests_71 : decode cX12_rests 71 = .ok (.iinc 2 1, 3) := by decide +kernel
theorem dX12_rests_74 : decode cX12_rests 74 = .ok (.iinc 4 1, 3) := by decide +kernel
theorem dX12_rests_77 : decode cX12_rests 77 = .ok (.goto (-40), 3) := by decide +kernel
theorem dX12_rests_80 : decode cX12_rests 80 = .ok (.iinc 3 1, 3) := by decide +kernel
theorem dX12_rests_83 : decode cX12_rests 83 = .ok (.goto (-55), 3) := by decide +kernel
theorem dX12_rests_86 : decode cX12_rests 86 = .ok (.iload_n 2, 1) := by decide +kernel
theorem dX12_rests_87 : decode cX12_rests 87 = .ok (.ireturn, 1) := by decide +kernel
theorem dX12_draws_0 : decode cX12_draws 0 = .ok (.aload_n 0, 1) := by decide +kernel
theorem dX12_draws_1 : decode cX12_draws 1 = .ok (.aload_n 0, 1) := by decide +kernel
theorem dX12_draws_2 : decode cX12_draws 2 = .ok (.getfield 452, 3) := by decide +kernel
theorem dX12_draws_5 : decode cX12_draws 5 = .ok (.ldc_w 455, 3) := by decide +kernel
theorem dX12_draws_8 : decode cX12_draws 8 = .ok (.imul, 1) := by decide +kernel
theorem dX12_draws_9 : decode cX12_draws 9 = .ok (.sipush 12345, 3) := by decide +kernel
theorem dX12_draws_12 : decode cX12_draws 12 = .ok (.iadd, 1) := by decide +kernel
theorem dX12_draws_13 : decode cX12_draws 13 = .ok (.putfield 452, 3) := by decide +kernel
theorem dX12_draws_16 : decode cX12_draws 16 = .ok (.aload_n 0, 1) := by decide +kernel
theorem dX12_draws_17 : decode cX12_draws 17 = .ok (.getfield 452, 3) := by decide +kernel
theorem dX12_draws_20 : decode cX12_draws 20 = .ok (.bipush 16, 2) := by decide +kernel
theorem dX12_draws_22 : decode cX12_draws 22 = .ok (.iushr, 1) := by decide +kernel
theorem dX12_draws_23 : decode cX12_draws 23 = .ok (.iload_n 1, 1) := by decide +kernel
theorem dX12_draws_24 : decode cX12_draws 24 = .ok (.irem, 1) := by decide +kernel
theorem dX12_draws_25 : decode cX12_draws 25 = .ok (.ireturn, 1) := by decide +kernel
theorem dX12_years_0 : decode cX12_years 0 = .ok (.aload_n 0, 1) := by decide +kernel
theorem dX12_years_1 : decode cX12_years 1 = .ok (.iconst 0, 1) := by decide +kernel
theorem dX12_years_2 : decode cX12_years 2 = .ok (.putfield 3, 3) := by decide +kernel
theorem dX12_years_5 : decode cX12_years 5 = .ok (.iload_n 2, 1) := by decide +kernel
theorem dX12_years_6 : decode cX12_years 6 = .ok (.i2l, 1) := by decide +kernel
theorem dX12_years_7 : decode cX12_years 7 = .ok (.lconst 1, 1) := by decide +kernel
theorem dX12_years_8 : decode cX12_years 8 = .ok (.ldc2_w 385, 3) := by decide +kernel
theorem dX12_years_11 : decode cX12_years 11 = .ok (.invokestatic 143, 3) := by decide +kernel
theorem dX12_years_14 : decode cX12_years 14 = .ok (.ifCond .ne 5, 3) := by decide +kernel
theorem dX12_years_17 : decode cX12_years 17 = .ok (.iconst (-1), 1) := by decide +kernel
theorem dX12_years_18 : decode cX12_years 18 = .ok (.ireturn, 1) := by decide +kernel
theorem dX12_years_19 : decode cX12_years 19 = .ok (.aload_n 0, 1) := by decide +kernel
theorem dX12_years_20 : decode cX12_years 20 = .ok (.iload_n 1, 1) := by decide +kernel
theorem dX12_years_21 : decode cX12_years 21 = .ok (.putfield 452, 3) := by decide +kernel
theorem dX12_years_24 : decode cX12_years 24 = .ok (.aload_n 0, 1) := by decide +kernel
theorem dX12_years_25 : decode cX12_years 25 = .ok (.invokevirtual 407, 3) := by decide +kernel
theorem dX12_years_28 : decode cX12_years 28 = .ok (.iconst 0, 1) := by decide +kernel
theorem dX12_years_29 : decode cX12_years 29 = .ok (.istore_n 3, 1) := by decide +kernel
theorem dX12_years_30 : decode cX12_years 30 = .ok (.iconst 0, 1) := by decide +kernel
theorem dX12_years_31 : decode cX12_years 31 = .ok (.istore 4, 2) := by decide +kernel
theorem dX12_years_33 : decode cX12_years 33 = .ok (.iload 4, 2) := by decide +kernel
theorem dX12_years_35 : decode cX12_years 35 = .ok (.iload_n 2, 1) := by decide +kernel
theorem dX12_years_36 : decode cX12_years 36 = .ok (.if_icmp .ge 151, 3) := by decide +kernel
theorem dX12_years_39 : decode cX12_years 39 = .ok (.aload_n 0, 1) := by decide +kernel
theorem dX12_years_40 : decode cX12_years 40 = .ok (.iconst 4, 1) := by decide +kernel
theorem dX12_years_41 : decode cX12_years 41 = .ok (.invokevirtual 456, 3) := by decide +kernel
theorem dX12_years_44 : decode cX12_years 44 = .ok (.istore 5, 2) := by decide +kernel
theorem dX12_years_46 : decode cX12_years 46 = .ok (.iload 5, 2) := by decide +kernel
theorem dX12_years_48 : decode cX12_years 48 = .ok (.iconst 2, 1) := by decide +kernel
theorem dX12_years_49 : decode cX12_years 49 = .ok (.if_icmp .ge 14, 3) := by decide +kernel
theorem dX12_years_52 : decode cX12_years 52 = .ok (.aload_n 0, 1) := by decide +kernel
theorem dX12_years_53 : decode cX12_years 53 = .ok (.aload_n 0, 1) := by decide +kernel
theorem dX12_years_54 : decode cX12_years 54 = .ok (.getfield 52, 3) := by decide +kernel
theorem dX12_years_57 : decode cX12_years 57 = .ok (.invokevirtual 360, 3) := by decide +kernel
theorem dX12_years_60 : decode cX12_years 60 = .ok (.goto 87, 3) := by decide +kernel
theorem dX12_years_63 : decode cX12_years 63 = .ok (.iload 5, 2) := by decide +kernel
theorem dX12_years_65 : decode cX12_years 65 = .ok (.iconst 2, 1) := by decide +kernel
theorem dX12_years_66 : decode cX12_years 66 = .ok (.if_icmp .ne 48, 3) := by decide +kernel
theorem dX12_years_69 : decode cX12_years 69 = .ok (.aload_n 0, 1) := by decide +kernel
theorem dX12_years_70 : decode cX12_years 70 = .ok (.getfield 147, 3) := by decide +kernel
theorem dX12_years_73 : decode cX12_years 73 = .ok (.ifCond .le 41, 3) := by decide +kernel
theorem dX12_years_76 : decode cX12_years 76 = .ok (.aload_n 0, 1) := by decide +kernel
theorem dX12_years_77 : decode cX12_years 77 = .ok (.getfield 150, 3) := by decide +kernel
theorem dX12_years_80 : decode cX12_years 80 = .ok (.ifCond .le 34, 3) := by decide +kernel
theorem dX12_years_83 : decode cX12_years 83 = .ok (.aload_n 0, 1) := by decide +kernel
theorem dX12_years_84 : decode cX12_years 84 = .ok (.aload_n 0, 1) := by decide +kernel
theorem dX12_years_85 : decode cX12_years 85 = .ok (.getfield 147, 3) := by decide +kernel
theorem dX12_years_88 : decode cX12_years 88 = .ok (.invokevirtual 456, 3) := by decide +kernel
theorem dX12_years_91 : decode cX12_years 91 = .ok (.istore 6, 2) := by decide +kernel
theorem dX12_years_93 : decode cX12_years 93 = .ok (.aload_n 0, 1) := by decide +kernel
theorem dX12_years_94 : decode cX12_years 94 = .ok (.getfield 52, 3) := by decide +kernel
theorem dX12_years_97 : decode cX12_years 97 = .ok (.bipush 16, 2) := by decide +kernel
theorem dX12_years_99 : decode cX12_years 99 = .ok (.iload 6, 2) := by decide +kernel
theorem dX12_years_101 : decode cX12_years 101 = .ok (.iadd, 1) := by decide +kernel
theorem dX12_years_102 : decode cX12_years 102 = .ok (.aload_n 0, 1) := by decide +kernel
theorem dX12_years_103 : decode cX12_years 103 = .ok (.aload_n 0, 1) := by decide +kernel
theorem dX12_years_104 : decode cX12_years 104 = .ok (.getfield 150, 3) := by decide +kernel
theorem dX12_years_107 : decode cX12_years 107 = .ok (.invokevirtual 456, 3) := by decide +kernel
theorem dX12_years_110 : decode cX12_years 110 = .ok (.iastore, 1) := by decide +kernel
theorem dX12_years_111 : decode cX12_years 111 = .ok (.goto 36, 3) := by decide +kernel
theorem dX12_years_114 : decode cX12_years 114 = .ok (.iload 5, 2) := by decide +kernel
theorem dX12_years_116 : decode cX12_years 116 = .ok (.iconst 3, 1) := by decide +kernel
theorem dX12_years_117 : decode cX12_years 117 = .ok (.if_icmp .ne 30, 3) := by decide +kernel
theorem dX12_years_120 : decode cX12_years 120 = .ok (.aload_n 0, 1) := by decide +kernel
theorem dX12_years_121 : decode cX12_years 121 = .ok (.getfield 147, 3) := by decide +kernel
theorem dX12_years_124 : decode cX12_years 124 = .ok (.ifCond .le 23, 3) := by decide +kernel
theorem dX12_years_127 : decode cX12_years 127 = .ok (.aload_n 0, 1) := by decide +kernel
theorem dX12_years_128 : decode cX12_years 128 = .ok (.getfield 52, 3) := by decide +kernel
theorem dX12_years_131 : decode cX12_years 131 = .ok (.bipush 24, 2) := by decide +kernel
theorem dX12_years_133 : decode cX12_years 133 = .ok (.dup2, 1) := by decide +kernel
theorem dX12_years_134 : decode cX12_years 134 = .ok (.iaload, 1) := by decide +kernel
theorem dX12_years_135 : decode cX12_years 135 = .ok (.iconst 1, 1) := by decide +kernel
theorem dX12_years_136 : decode cX12_years 136 = .ok (.aload_n 0, 1) := by decide +kernel
theorem dX12_years_137 : decode cX12_years 137 = .ok (.aload_n 0, 1) := by decide +kernel
theorem dX12_years_138 : decode cX12_years 138 = .ok (.getfield 147, 3) := by decide +kernel
theorem dX12_years_141 : decode cX12_years 141 = .ok (.invokevirtual 456, 3) := by decide +kernel
theorem dX12_years_144 : decode cX12_years 144 = .ok (.ishl, 1) := by decide +kernel
theorem dX12_years_145 : decode cX12_years 145 = .ok (.ior, 1) := by decide +kernel
theorem dX12_years_146 : decode cX12_years 146 = .ok (.iastore, 1) := by decide +kernel
theorem dX12_years_147 : decode cX12_years 147 = .ok (.iconst 0, 1) := by decide +kernel
theorem dX12_years_148 : decode cX12_years 148 = .ok (.istore 6, 2) := by decide +kernel
theorem dX12_years_150 : decode cX12_years 150 = .ok (.iload 6, 2) := by decide +kernel
theorem dX12_years_152 : decode cX12_years 152 = .ok (.aload_n 0, 1) := by decide +kernel
theorem dX12_years_153 : decode cX12_years 153 = .ok (.getfield 150, 3) := by decide +kernel
theorem dX12_years_156 : decode cX12_years 156 = .ok (.if_icmp .ge 25, 3) := by decide +kernel
theorem dX12_years_159 : decode cX12_years 159 = .ok (.iload_n 3, 1) := by decide +kernel
theorem dX12_years_160 : decode cX12_years 160 = .ok (.aload_n 0, 1) := by decide +kernel
theorem dX12_years_161 : decode cX12_years 161 = .ok (.aload_n 0, 1) := by decide +kernel
theorem dX12_years_162 : decode cX12_years 162 = .ok (.getfield 52, 3) := by decide +kernel
theorem dX12_years_165 : decode cX12_years 165 = .ok (.iload 6, 2) := by decide +kernel
theorem dX12_years_167 : decode cX12_years 167 = .ok (.invokevirtual 340, 3) := by decide +kernel
theorem dX12_years_170 : decode cX12_years 170 = .ok (.invokestatic 300, 3) := by decide +kernel
theorem dX12_years_173 : decode cX12_years 173 = .ok (.iadd, 1) := by decide +kernel
theorem dX12_years_174 : decode cX12_years 174 = .ok (.istore_n 3, 1) := by decide +kernel
theorem dX12_years_175 : decode cX12_years 175 = .ok (.iinc 6 1, 3) := by decide +kernel
theorem dX12_years_178 : decode cX12_years 178 = .ok (.goto (-28), 3) := by decide +kernel
theorem dX12_years_181 : decode cX12_years 181 = .ok (.iinc 4 1, 3) := by decide +kernel
theorem dX12_years_184 : decode cX12_years 184 = .ok (.goto (-151), 3) := by decide +kernel
theorem dX12_years_187 : decode cX12_years 187 = .ok (.aload_n 0, 1) := by decide +kernel
theorem dX12_years_188 : decode cX12_years 188 = .ok (.iconst 0, 1) := by decide +kernel
theorem dX12_years_189 : decode cX12_years 189 = .ok (.putfield 15, 3) := by decide +kernel
theorem dX12_years_192 : decode cX12_years 192 = .ok (.aload_n 0, 1) := by decide +kernel
theorem dX12_years_193 : decode cX12_years 193 = .ok (.aload_n 0, 1) := by decide +kernel
theorem dX12_years_194 : decode cX12_years 194 = .ok (.getfield 52, 3) := by decide +kernel
theorem dX12_years_197 : decode cX12_years 197 = .ok (.bipush 25, 2) := by decide +kernel
theorem dX12_years_199 : decode cX12_years 199 = .ok (.iaload, 1) := by decide +kernel
theorem dX12_years_200 : decode cX12_years 200 = .ok (.i2l, 1) := by decide +kernel
theorem dX12_years_201 : decode cX12_years 201 = .ok (.invokevirtual 387, 3) := by decide +kernel
theorem dX12_years_204 : decode cX12_years 204 = .ok (.aload_n 0, 1) := by decide +kernel
theorem dX12_years_205 : decode cX12_years 205 = .ok (.aload_n 0, 1) := by decide +kernel
theorem dX12_years_206 : decode cX12_years 206 = .ok (.getfield 52, 3) := by decide +kernel
theorem dX12_years_209 : decode cX12_years 209 = .ok (.bipush 24, 2) := by decide +kernel
theorem dX12_years_211 : decode cX12_years 211 = .ok (.iaload, 1) := by decide +kernel
theorem dX12_years_212 : decode cX12_years 212 = .ok (.invokestatic 300, 3) := by decide +kernel
theorem dX12_years_215 : decode cX12_years 215 = .ok (.i2l, 1) := by decide +kernel
theorem dX12_years_216 : decode cX12_years 216 = .ok (.invokevirtual 387, 3) := by decide +kernel
theorem dX12_years_219 : decode cX12_years 219 = .ok (.iload_n 3, 1) := by decide +kernel
theorem dX12_years_220 : decode cX12_years 220 = .ok (.ireturn, 1) := by decide +kernel
theorem dX12_keep_0 : decode cX12_keep 0 = .ok (.aload_n 0, 1) := by decide +kernel
theorem dX12_keep_1 : decode cX12_keep 1 = .ok (.iconst 0, 1) := by decide +kernel
theorem dX12_keep_2 : decode cX12_keep 2 = .ok (.putfield 3, 3) := by decide +kernel
theorem dX12_keep_5 : decode cX12_keep 5 = .ok (.iload_n 1, 1) := by decide +kernel
theorem dX12_keep_6 : decode cX12_keep 6 = .ok (.i2l, 1) := by decide +kernel
theorem dX12_keep_7 : decode cX12_keep 7 = .ok (.lconst 0, 1) := by decide +kernel
theorem dX12_keep_8 : decode cX12_keep 8 = .ok (.ldc2_w 459, 3) := by decide +kernel
theorem dX12_keep_11 : decode cX12_keep 11 = .ok (.invokestatic 143, 3) := by decide +kernel
theorem dX12_keep_14 : decode cX12_keep 14 = .ok (.ifCond .ne 5, 3) := by decide +kernel
theorem dX12_keep_17 : decode cX12_keep 17 = .ok (.iconst 0, 1) := by decide +kernel
theorem dX12_keep_18 : decode cX12_keep 18 = .ok (.ireturn, 1) := by decide +kernel
theorem dX12_keep_19 : decode cX12_keep 19 = .ok (.aload_n 0, 1) := by decide +kernel
theorem dX12_keep_20 : decode cX12_keep 20 = .ok (.getfield 131, 3) := by decide +kernel
theorem dX12_keep_23 : decode cX12_keep 23 = .ok (.iload_n 1, 1) := by decide +kernel
theorem dX12_keep_24 : decode cX12_keep 24 = .ok (.iconst 1, 1) := by decide +kernel
theorem dX12_keep_25 : decode cX12_keep 25 = .ok (.bastore, 1) := by decide +kernel
theorem dX12_keep_26 : decode cX12_keep 26 = .ok (.aload_n 0, 1) := by decide +kernel
theorem dX12_keep_27 : decode cX12_keep 27 = .ok (.getfield 134, 3) := by decide +kernel
theorem dX12_keep_30 : decode cX12_keep 30 = .ok (.iload_n 1, 1) := by decide +kernel
theorem dX12_keep_31 : decode cX12_keep 31 = .ok (.aload_n 0, 1) := by decide +kernel
theorem dX12_keep_32 : decode cX12_keep 32 = .ok (.getfield 252, 3) := by decide +kernel
theorem dX12_keep_35 : decode cX12_keep 35 = .ok (.iastore, 1) := by decide +kernel
theorem dX12_keep_36 : decode cX12_keep 36 = .ok (.iconst 0, 1) := by decide +kernel
theorem dX12_keep_37 : decode cX12_keep 37 = .ok (.istore_n 2, 1) := by decide +kernel
theorem dX12_keep_38 : decode cX12_keep 38 = .ok (.iload_n 2, 1) := by decide +kernel
theorem dX12_keep_39 : decode cX12_keep 39 = .ok (.bipush 26, 2) := by decide +kernel
theorem dX12_keep_41 : decode cX12_keep 41 = .ok (.if_icmp .ge 26, 3) := by decide +kernel
theorem dX12_keep_44 : decode cX12_keep 44 = .ok (.aload_n 0, 1) := by decide +kernel
theorem dX12_keep_45 : decode cX12_keep 45 = .ok (.getfield 137, 3) := by decide +kernel
theorem dX12_keep_48 : decode cX12_keep 48 = .ok (.bipush 26, 2) := by decide +kernel
theorem dX12_keep_50 : decode cX12_keep 50 = .ok (.iload_n 1, 1) := by decide +kernel
theorem dX12_keep_51 : decode cX12_keep 51 = .ok (.imul, 1) := by decide +kernel
theorem dX12_keep_52 : decode cX12_keep 52 = .ok (.iload_n 2, 1) := by decide +kernel
theorem dX12_keep_53 : decode cX12_keep 53 = .ok (.iadd, 1) := by decide +kernel
theorem dX12_keep_54 : decode cX12_keep 54 = .ok (.aload_n 0, 1) := by decide +kernel
theorem dX12_keep_55 : decode cX12_keep 55 = .ok (.getfield 49, 3) := by decide +kernel
theorem dX12_keep_58 : decode cX12_keep 58 = .ok (.iload_n 2, 1) := by decide +kernel
theorem dX12_keep_59 : decode cX12_keep 59 = .ok (.iaload, 1) := by decide +kernel
theorem dX12_keep_60 : decode cX12_keep 60 = .ok (.iastore, 1) := by decide +kernel
theorem dX12_keep_61 : decode cX12_keep 61 = .ok (.iinc 2 1, 3) := by decide +kernel
theorem dX12_keep_64 : decode cX12_keep 64 = .ok (.goto (-26), 3) := by decide +kernel
theorem dX12_keep_67 : decode cX12_keep 67 = .ok (.iconst 1, 1) := by decide +kernel
theorem dX12_keep_68 : decode cX12_keep 68 = .ok (.ireturn, 1) := by decide +kernel
theorem dX12_again_0 : decode cX12_again 0 = .ok (.aload_n 0, 1) := by decide +kernel
theorem dX12_again_1 : decode cX12_again 1 = .ok (.iconst 0, 1) := by decide +kernel
theorem dX12_again_2 : decode cX12_again 2 = .ok (.putfield 3, 3) := by decide +kernel
theorem dX12_again_5 : decode cX12_again 5 = .ok (.iload_n 1, 1) := by decide +kernel
theorem dX12_again_6 : decode cX12_again 6 = .ok (.i2l, 1) := by decide +kernel
theorem dX12_again_7 : decode cX12_again 7 = .ok (.lconst 0, 1) := by decide +kernel
theorem dX12_again_8 : decode cX12_again 8 = .ok (.ldc2_w 459, 3) := by decide +kernel
theorem dX12_again_11 : decode cX12_again 11 = .ok (.invokestatic 143, 3) := by decide +kernel
theorem dX12_again_14 : decode cX12_again 14 = .ok (.ifCond .eq 25, 3) := by decide +kernel
theorem dX12_again_17 : decode cX12_again 17 = .ok (.aload_n 0, 1) := by decide +kernel
theorem dX12_again_18 : decode cX12_again 18 = .ok (.getfield 131, 3) := by decide +kernel
theorem dX12_again_21 : decode cX12_again 21 = .ok (.iload_n 1, 1) := by decide +kernel
theorem dX12_again_22 : decode cX12_again 22 = .ok (.baload, 1) := by decide +kernel
theorem dX12_again_23 : decode cX12_again 23 = .ok (.ifCond .eq 16, 3) := by decide +kernel
theorem dX12_again_26 : decode cX12_again 26 = .ok (.aload_n 0, 1) := by decide +kernel
theorem dX12_again_27 : decode cX12_again 27 = .ok (.getfield 134, 3) := by decide +kernel
theorem dX12_again_30 : decode cX12_again 30 = .ok (.iload_n 1, 1) := by decide +kernel
theorem dX12_again_31 : decode cX12_again 31 = .ok (.iaload, 1) := by decide +kernel
theorem dX12_again_32 : decode cX12_again 32 = .ok (.aload_n 0, 1) := by decide +kernel
theorem dX12_again_33 : decode cX12_again 33 = .ok (.getfield 252, 3) := by decide +kernel
theorem dX12_again_36 : decode cX12_again 36 = .ok (.if_icmp .eq 5, 3) := by decide +kernel
theorem dX12_again_39 : decode cX12_again 39 = .ok (.iconst 0, 1) := by decide +kernel
theorem dX12_again_40 : decode cX12_again 40 = .ok (.ireturn, 1) := by decide +kernel
theorem dX12_again_41 : decode cX12_again 41 = .ok (.iconst 0, 1) := by decide +kernel
theorem dX12_again_42 : decode cX12_again 42 = .ok (.istore_n 2, 1) := by decide +kernel
theorem dX12_again_43 : decode cX12_again 43 = .ok (.iload_n 2, 1) := by decide +kernel
theorem dX12_again_44 : decode cX12_again 44 = .ok (.bipush 26, 2) := by decide +kernel
theorem dX12_again_46 : decode cX12_again 46 = .ok (.if_icmp .ge 26, 3) := by decide +kernel
theorem dX12_again_49 : decode cX12_again 49 = .ok (.aload_n 0, 1) := by decide +kernel
theorem dX12_again_50 : decode cX12_again 50 = .ok (.getfield 49, 3) := by decide +kernel
theorem dX12_again_53 : decode cX12_again 53 = .ok (.iload_n 2, 1) := by decide +kernel
theorem dX12_again_54 : decode cX12_again 54 = .ok (.aload_n 0, 1) := by decide +kernel
theorem dX12_again_55 : decode cX12_again 55 = .ok (.getfield 137, 3) := by decide +kernel
theorem dX12_again_58 : decode cX12_again 58 = .ok (.bipush 26, 2) := by decide +kernel
theorem dX12_again_60 : decode cX12_again 60 = .ok (.iload_n 1, 1) := by decide +kernel
theorem dX12_again_61 : decode cX12_again 61 = .ok (.imul, 1) := by decide +kernel
theorem dX12_again_62 : decode cX12_again 62 = .ok (.iload_n 2, 1) := by decide +kernel
theorem dX12_again_63 : decode cX12_again 63 = .ok (.iadd, 1) := by decide +kernel
theorem dX12_again_64 : decode cX12_again 64 = .ok (.iaload, 1) := by decide +kernel
theorem dX12_again_65 : decode cX12_again 65 = .ok (.iastore, 1) := by decide +kernel
theorem dX12_again_66 : decode cX12_again 66 = .ok (.iinc 2 1, 3) := by decide +kernel
theorem dX12_again_69 : decode cX12_again 69 = .ok (.goto (-26), 3) := by decide +kernel
theorem dX12_again_72 : decode cX12_again 72 = .ok (.aload_n 0, 1) := by decide +kernel
theorem dX12_again_73 : decode cX12_again 73 = .ok (.iconst 0, 1) := by decide +kernel
theorem dX12_again_74 : decode cX12_again 74 = .ok (.putfield 215, 3) := by decide +kernel
theorem dX12_again_77 : decode cX12_again 77 = .ok (.iconst 1, 1) := by decide +kernel
theorem dX12_again_78 : decode cX12_again 78 = .ok (.ireturn, 1) := by decide +kernel
theorem dX12_count_0 : decode cX12_count 0 = .ok (.aload_n 0, 1) := by decide +kernel
theorem dX12_count_1 : decode cX12_count 1 = .ok (.iconst 0, 1) := by decide +kernel
theorem dX12_count_2 : decode cX12_count 2 = .ok (.putfield 3, 3) := by decide +kernel
theorem dX12_count_5 : decode cX12_count 5 = .ok (.iconst 0, 1) := by decide +kernel
theorem dX12_count_6 : decode cX12_count 6 = .ok (.istore_n 2, 1) := by decide +kernel
theorem dX12_count_7 : decode cX12_count 7 = .ok (.iconst 0, 1) := by decide +kernel
theorem dX12_count_8 : decode cX12_count 8 = .ok (.istore_n 3, 1) := by decide +kernel
theorem dX12_count_9 : decode cX12_count 9 = .ok (.iload_n 3, 1) := by decide +kernel
theorem dX12_count_10 : decode cX12_count 10 = .ok (.aload_n 0, 1) := by decide +kernel
theorem dX12_count_11 : decode cX12_count 11 = .ok (.getfield 147, 3) := by decide +kernel
theorem dX12_count_14 : decode cX12_count 14 = .ok (.if_icmp .ge 31, 3) := by decide +kernel
theorem dX12_count_17 : decode cX12_count 17 = .ok (.iload_n 2, 1) := by decide +kernel
theorem dX12_count_18 : decode cX12_count 18 = .ok (.aload_n 0, 1) := by decide +kernel
theorem dX12_count_19 : decode cX12_count 19 = .ok (.getfield 49, 3) := by decide +kernel
theorem dX12_count_22 : decode cX12_count 22 = .ok (.bipush 16, 2) := by decide +kernel
theorem dX12_count_24 : decode cX12_count 24 = .ok (.iload_n 3, 1) := by decide +kernel
theorem dX12_count_25 : decode cX12_count 25 = .ok (.iadd, 1) := by decide +kernel
theorem dX12_count_26 : decode cX12_count 26 = .ok (.iaload, 1) := by decide +kernel
theorem dX12_count_27 : decode cX12_count 27 = .ok (.ifCond .lt 9, 3) := by decide +kernel
theorem dX12_count_30 : decode cX12_count 30 = .ok (.iconst 1, 1) := by decide +kernel
theorem dX12_count_31 : decode cX12_count 31 = .ok (.iload_n 3, 1) := by decide +kernel
theorem dX12_count_32 : decode cX12_count 32 = .ok (.ishl, 1) := by decide +kernel
theorem dX12_count_33 : decode cX12_count 33 = .ok (.goto 4, 3) := by decide +kernel
theorem dX12_count_36 : decode cX12_count 36 = .ok (.iconst 0, 1) := by decide +kernel
theorem dX12_count_37 : decode cX12_count 37 = .ok (.ior, 1) := by decide +kernel
theorem dX12_count_38 : decode cX12_count 38 = .ok (.istore_n 2, 1) := by decide +kernel
theorem dX12_count_39 : decode cX12_count 39 = .ok (.iinc 3 1, 3) := by decide +kernel
theorem dX12_count_42 : decode cX12_count 42 = .ok (.goto (-33), 3) := by decide +kernel
theorem dX12_count_45 : decode cX12_count 45 = .ok (.iload_n 1, 1) := by decide +kernel
theorem dX12_count_46 : decode cX12_count 46 = .ok (.tableswitch 125 0 11 #[62, 67, 72, 77, 82, 87, 95, 103, 105, 110, 115, 120], 62) := by decide +kernel
theorem dX12_count_108 : decode cX12_count 108 = .ok (.aload_n 0, 1) := by decide +kernel
theorem dX12_count_109 : decode cX12_count 109 = .ok (.getfield 24, 3) := by decide +kernel
theorem dX12_count_112 : decode cX12_count 112 = .ok (.ireturn, 1) := by decide +kernel
theorem dX12_count_113 : decode cX12_count 113 = .ok (.aload_n 0, 1) := by decide +kernel
theorem dX12_count_114 : decode cX12_count 114 = .ok (.getfield 27, 3) := by decide +kernel
theorem dX12_count_117 : decode cX12_count 117 = .ok (.ireturn, 1) := by decide +kernel
theorem dX12_count_118 : decode cX12_count 118 = .ok (.aload_n 0, 1) := by decide +kernel
theorem dX12_count_119 : decode cX12_count 119 = .ok (.getfield 140, 3) := by decide +kernel
theorem dX12_count_122 : decode cX12_count 122 = .ok (.ireturn, 1) := by decide +kernel
theorem dX12_count_123 : decode cX12_count 123 = .ok (.aload_n 0, 1) := by decide +kernel
theorem dX12_count_124 : decode cX12_count 124 = .ok (.getfield 147, 3) := by decide +kernel
theorem dX12_count_127 : decode cX12_count 127 = .ok (.ireturn, 1) := by decide +kernel
theorem dX12_count_128 : decode cX12_count 128 = .ok (.aload_n 0, 1) := by decide +kernel
theorem dX12_count_129 : decode cX12_count 129 = .ok (.getfield 150, 3) := by decide +kernel
theorem dX12_count_132 : decode cX12_count 132 = .ok (.ireturn, 1) := by decide +kernel
theorem dX12_count_133 : decode cX12_count 133 = .ok (.aload_n 0, 1) := by decide +kernel
theorem dX12_count_134 : decode cX12_count 134 = .ok (.getfield 49, 3) := by decide +kernel
theorem dX12_count_137 : decode cX12_count 137 = .ok (.bipush 25, 2) := by decide +kernel
theorem dX12_count_139 : decode cX12_count 139 = .ok (.iaload, 1) := by decide +kernel
theorem dX12_count_140 : decode cX12_count 140 = .ok (.ireturn, 1) := by decide +kernel
theorem dX12_count_141 : decode cX12_count 141 = .ok (.aload_n 0, 1) := by decide +kernel
theorem dX12_count_142 : decode cX12_count 142 = .ok (.getfield 49, 3) := by decide +kernel
theorem dX12_count_145 : decode cX12_count 145 = .ok (.bipush 24, 2) := by decide +kernel
theorem dX12_count_147 : decode cX12_count 147 = .ok (.iaload, 1) := by decide +kernel
theorem dX12_count_148 : decode cX12_count 148 = .ok (.ireturn, 1) := by decide +kernel
theorem dX12_count_149 : decode cX12_count 149 = .ok (.iload_n 2, 1) := by decide +kernel
theorem dX12_count_150 : decode cX12_count 150 = .ok (.ireturn, 1) := by decide +kernel
theorem dX12_count_151 : decode cX12_count 151 = .ok (.aload_n 0, 1) := by decide +kernel
theorem dX12_count_152 : decode cX12_count 152 = .ok (.getfield 212, 3) := by decide +kernel
theorem dX12_count_155 : decode cX12_count 155 = .ok (.ireturn, 1) := by decide +kernel
theorem dX12_count_156 : decode cX12_count 156 = .ok (.aload_n 0, 1) := by decide +kernel
theorem dX12_count_157 : decode cX12_count 157 = .ok (.getfield 215, 3) := by decide +kernel
theorem dX12_count_160 : decode cX12_count 160 = .ok (.ireturn, 1) := by decide +kernel
theorem dX12_count_161 : decode cX12_count 161 = .ok (.aload_n 0, 1) := by decide +kernel
theorem dX12_count_162 : decode cX12_count 162 = .ok (.getfield 15, 3) := by decide +kernel
theorem dX12_count_165 : decode cX12_count 165 = .ok (.ireturn, 1) := by decide +kernel
theorem dX12_count_166 : decode cX12_count 166 = .ok (.aload_n 0, 1) := by decide +kernel
theorem dX12_count_167 : decode cX12_count 167 = .ok (.getfield 159, 3) := by decide +kernel
theorem dX12_count_170 : decode cX12_count 170 = .ok (.ireturn, 1) := by decide +kernel
theorem dX12_count_171 : decode cX12_count 171 = .ok (.bipush (-100), 2) := by decide +kernel
theorem dX12_count_173 : decode cX12_count 173 = .ok (.ireturn, 1) := by decide +kernel
theorem dX12_row_0 : decode cX12_row 0 = .ok (.aload_n 0, 1) := by decide +kernel
theorem dX12_row_1 : decode cX12_row 1 = .ok (.iconst 0, 1) := by decide +kernel
theorem dX12_row_2 : decode cX12_row 2 = .ok (.putfield 3, 3) := by decide +kernel
theorem dX12_row_5 : decode cX12_row 5 = .ok (.iload_n 1, 1) := by decide +kernel
theorem dX12_row_6 : decode cX12_row 6 = .ok (.i2l, 1) := by decide +kernel
theorem dX12_row_7 : decode cX12_row 7 = .ok (.lconst 0, 1) := by decide +kernel
theorem dX12_row_8 : decode cX12_row 8 = .ok (.aload_n 0, 1) := by decide +kernel
theorem dX12_row_9 : decode cX12_row 9 = .ok (.getfield 15, 3) := by decide +kernel
theorem dX12_row_12 : decode cX12_row 12 = .ok (.iconst 1, 1) := by decide +kernel
theorem dX12_row_13 : decode cX12_row 13 = .ok (.isub, 1) := by decide +kernel
theorem dX12_row_14 : decode cX12_row 14 = .ok (.i2l, 1) := by decide +kernel
theorem dX12_row_15 : decode cX12_row 15 = .ok (.invokestatic 143, 3) := by decide +kernel
theorem dX12_row_18 : decode cX12_row 18 = .ok (.ifCond .ne 10, 3) := by decide +kernel
theorem dX12_row_21 : decode cX12_row 21 = .ok (.aload_n 0, 1) := by decide +kernel
theorem dX12_row_22 : decode cX12_row 22 = .ok (.iconst 1, 1) := by decide +kernel
theorem dX12_row_23 : decode cX12_row 23 = .ok (.putfield 3, 3) := by decide +kernel
theorem dX12_row_26 : decode cX12_row 26 = .ok (.lconst 0, 1) := by decide +kernel
theorem dX12_row_27 : decode cX12_row 27 = .ok (.lreturn, 1) := by decide +kernel
theorem dX12_row_28 : decode cX12_row 28 = .ok (.aload_n 0, 1) := by decide +kernel
theorem dX12_row_29 : decode cX12_row 29 = .ok (.getfield 11, 3) := by decide +kernel
theorem dX12_row_32 : decode cX12_row 32 = .ok (.iload_n 1, 1) := by decide +kernel
theorem dX12_row_33 : decode cX12_row 33 = .ok (.laload, 1) := by decide +kernel
theorem dX12_row_34 : decode cX12_row 34 = .ok (.lreturn, 1) := by decide +kernel
