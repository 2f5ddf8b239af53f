theorem dX12_thrown_0 : decode mX12_thrown.2.1 0 = .ok (.aload_n 0, 1) := by decide +kernel
theorem dX12_thrown_1 : decode mX12_thrown.2.1 1 = .ok (.getfield 3, 3) := by decide +kernel
theorem dX12_thrown_4 : decode mX12_thrown.2.1 4 = .ok (.ireturn, 1) := by decide +kernel
theorem dX12_refuse_0 : decode mX12_refuse.2.1 0 = .ok (.aload_n 0, 1) := by decide +kernel
theorem dX12_refuse_1 : decode mX12_refuse.2.1 1 = .ok (.iconst 1, 1) := by decide +kernel
theorem dX12_refuse_2 : decode mX12_refuse.2.1 2 = .ok (.putfield 3, 3) := by decide +kernel
theorem dX12_refuse_5 : decode mX12_refuse.2.1 5 = .ok (.iconst 0, 1) := by decide +kernel
theorem dX12_refuse_6 : decode mX12_refuse.2.1 6 = .ok (.ireturn, 1) := by decide +kernel
theorem dX12_in_0 : decode mX12_in.2.1 0 = .ok (.lload_n 0, 1) := by decide +kernel
theorem dX12_in_1 : decode mX12_in.2.1 1 = .ok (.lload_n 2, 1) := by decide +kernel
theorem dX12_in_2 : decode mX12_in.2.1 2 = .ok (.lcmp, 1) := by decide +kernel
theorem dX12_in_3 : decode mX12_in.2.1 3 = .ok (.ifCond .lt 14, 3) := by decide +kernel
theorem dX12_in_6 : decode mX12_in.2.1 6 = .ok (.lload_n 0, 1) := by decide +kernel
theorem dX12_in_7 : decode mX12_in.2.1 7 = .ok (.lload 4, 2) := by decide +kernel
theorem dX12_in_9 : decode mX12_in.2.1 9 = .ok (.lcmp, 1) := by decide +kernel
theorem dX12_in_10 : decode mX12_in.2.1 10 = .ok (.ifCond .gt 7, 3) := by decide +kernel
theorem dX12_in_13 : decode mX12_in.2.1 13 = .ok (.iconst 1, 1) := by decide +kernel
theorem dX12_in_14 : decode mX12_in.2.1 14 = .ok (.goto 4, 3) := by decide +kernel
theorem dX12_in_17 : decode mX12_in.2.1 17 = .ok (.iconst 0, 1) := by decide +kernel
theorem dX12_in_18 : decode mX12_in.2.1 18 = .ok (.ireturn, 1) := by decide +kernel
theorem dX12_has_0 : decode mX12_has.2.1 0 = .ok (.iload_n 0, 1) := by decide +kernel
theorem dX12_has_1 : decode mX12_has.2.1 1 = .ok (.iload_n 1, 1) := by decide +kernel
theorem dX12_has_2 : decode mX12_has.2.1 2 = .ok (.ishr, 1) := by decide +kernel
theorem dX12_has_3 : decode mX12_has.2.1 3 = .ok (.iconst 1, 1) := by decide +kernel
theorem dX12_has_4 : decode mX12_has.2.1 4 = .ok (.iand, 1) := by decide +kernel
theorem dX12_has_5 : decode mX12_has.2.1 5 = .ok (.iconst 1, 1) := by decide +kernel
theorem dX12_has_6 : decode mX12_has.2.1 6 = .ok (.if_icmp .ne 7, 3) := by decide +kernel
theorem dX12_has_9 : decode mX12_has.2.1 9 = .ok (.iconst 1, 1) := by decide +kernel
theorem dX12_has_10 : decode mX12_has.2.1 10 = .ok (.goto 4, 3) := by decide +kernel
theorem dX12_has_13 : decode mX12_has.2.1 13 = .ok (.iconst 0, 1) := by decide +kernel
theorem dX12_has_14 : decode mX12_has.2.1 14 = .ok (.ireturn, 1) := by decide +kernel
theorem dX12_flag_0 : decode mX12_flag.2.1 0 = .ok (.iload_n 0, 1) := by decide +kernel
theorem dX12_flag_1 : decode mX12_flag.2.1 1 = .ok (.ifCond .eq 7, 3) := by decide +kernel
theorem dX12_flag_4 : decode mX12_flag.2.1 4 = .ok (.iconst 1, 1) := by decide +kernel
theorem dX12_flag_5 : decode mX12_flag.2.1 5 = .ok (.goto 4, 3) := by decide +kernel
theorem dX12_flag_8 : decode mX12_flag.2.1 8 = .ok (.iconst 0, 1) := by decide +kernel
theorem dX12_flag_9 : decode mX12_flag.2.1 9 = .ok (.ireturn, 1) := by decide +kernel
theorem dX12_common_0 : decode mX12_common.2.1 0 = .ok (.lload_n 2, 1) := by decide +kernel
theorem dX12_common_1 : decode mX12_common.2.1 1 = .ok (.lconst 0, 1) := by decide +kernel
theorem dX12_common_2 : decode mX12_common.2.1 2 = .ok (.lcmp, 1) := by decide +kernel
theorem dX12_common_3 : decode mX12_common.2.1 3 = .ok (.ifCond .ne 7, 3) := by decide +kernel
theorem dX12_common_6 : decode mX12_common.2.1 6 = .ok (.lload_n 0, 1) := by decide +kernel
theorem dX12_common_7 : decode mX12_common.2.1 7 = .ok (.goto 10, 3) := by decide +kernel
theorem dX12_common_10 : decode mX12_common.2.1 10 = .ok (.lload_n 2, 1) := by decide +kernel
theorem dX12_common_11 : decode mX12_common.2.1 11 = .ok (.lload_n 0, 1) := by decide +kernel
theorem dX12_common_12 : decode mX12_common.2.1 12 = .ok (.lload_n 2, 1) := by decide +kernel
theorem dX12_common_13 : decode mX12_common.2.1 13 = .ok (.lrem, 1) := by decide +kernel
theorem dX12_common_14 : decode mX12_common.2.1 14 = .ok (.invokestatic 7, 3) := by decide +kernel
theorem dX12_common_17 : decode mX12_common.2.1 17 = .ok (.lreturn, 1) := by decide +kernel
theorem dX12_enters_0 : decode mX12_enters.2.1 0 = .ok (.aload_n 0, 1) := by decide +kernel
theorem dX12_enters_1 : decode mX12_enters.2.1 1 = .ok (.getfield 11, 3) := by decide +kernel
theorem dX12_enters_4 : decode mX12_enters.2.1 4 = .ok (.aload_n 0, 1) := by decide +kernel
theorem dX12_enters_5 : decode mX12_enters.2.1 5 = .ok (.getfield 15, 3) := by decide +kernel
theorem dX12_enters_8 : decode mX12_enters.2.1 8 = .ok (.lload_n 1, 1) := by decide +kernel
theorem dX12_enters_9 : decode mX12_enters.2.1 9 = .ok (.lastore, 1) := by decide +kernel
theorem dX12_enters_10 : decode mX12_enters.2.1 10 = .ok (.aload_n 0, 1) := by decide +kernel
theorem dX12_enters_11 : decode mX12_enters.2.1 11 = .ok (.dup, 1) := by decide +kernel
theorem dX12_enters_12 : decode mX12_enters.2.1 12 = .ok (.getfield 15, 3) := by decide +kernel
theorem dX12_enters_15 : decode mX12_enters.2.1 15 = .ok (.iconst 1, 1) := by decide +kernel
theorem dX12_enters_16 : decode mX12_enters.2.1 16 = .ok (.iadd, 1) := by decide +kernel
theorem dX12_enters_17 : decode mX12_enters.2.1 17 = .ok (.putfield 15, 3) := by decide +kernel
theorem dX12_enters_20 : decode mX12_enters.2.1 20 = .ok (.return_, 1) := by decide +kernel
theorem dX12_init_0 : decode mX12_init.2.1 0 = .ok (.aload_n 0, 1) := by decide +kernel
theorem dX12_init_1 : decode mX12_init.2.1 1 = .ok (.invokespecial 18, 3) := by decide +kernel
theorem dX12_init_4 : decode mX12_init.2.1 4 = .ok (.aload_n 0, 1) := by decide +kernel
theorem dX12_init_5 : decode mX12_init.2.1 5 = .ok (.bipush 36, 2) := by decide +kernel
theorem dX12_init_7 : decode mX12_init.2.1 7 = .ok (.newarray .long, 2) := by decide +kernel
theorem dX12_init_9 : decode mX12_init.2.1 9 = .ok (.putfield 11, 3) := by decide +kernel
theorem dX12_init_12 : decode mX12_init.2.1 12 = .ok (.aload_n 0, 1) := by decide +kernel
theorem dX12_init_13 : decode mX12_init.2.1 13 = .ok (.iconst 1, 1) := by decide +kernel
theorem dX12_init_14 : decode mX12_init.2.1 14 = .ok (.putfield 24, 3) := by decide +kernel
theorem dX12_init_17 : decode mX12_init.2.1 17 = .ok (.aload_n 0, 1) := by decide +kernel
theorem dX12_init_18 : decode mX12_init.2.1 18 = .ok (.iconst 1, 1) := by decide +kernel
theorem dX12_init_19 : decode mX12_init.2.1 19 = .ok (.putfield 27, 3) := by decide +kernel
theorem dX12_init_22 : decode mX12_init.2.1 22 = .ok (.aload_n 0, 1) := by decide +kernel
theorem dX12_init_23 : decode mX12_init.2.1 23 = .ok (.bipush 8, 2) := by decide +kernel
theorem dX12_init_25 : decode mX12_init.2.1 25 = .ok (.newarray .int, 2) := by decide +kernel
theorem dX12_init_27 : decode mX12_init.2.1 27 = .ok (.putfield 30, 3) := by decide +kernel
theorem dX12_init_30 : decode mX12_init.2.1 30 = .ok (.aload_n 0, 1) := by decide +kernel
theorem dX12_init_31 : decode mX12_init.2.1 31 = .ok (.bipush 8, 2) := by decide +kernel
theorem dX12_init_33 : decode mX12_init.2.1 33 = .ok (.newarray .int, 2) := by decide +kernel
theorem dX12_init_35 : decode mX12_init.2.1 35 = .ok (.putfield 34, 3) := by decide +kernel
theorem dX12_init_38 : decode mX12_init.2.1 38 = .ok (.aload_n 0, 1) := by decide +kernel
theorem dX12_init_39 : decode mX12_init.2.1 39 = .ok (.bipush 8, 2) := by decide +kernel
theorem dX12_init_41 : decode mX12_init.2.1 41 = .ok (.newarray .int, 2) := by decide +kernel
theorem dX12_init_43 : decode mX12_init.2.1 43 = .ok (.putfield 37, 3) := by decide +kernel
theorem dX12_init_46 : decode mX12_init.2.1 46 = .ok (.aload_n 0, 1) := by decide +kernel
theorem dX12_init_47 : decode mX12_init.2.1 47 = .ok (.bipush 8, 2) := by decide +kernel
theorem dX12_init_49 : decode mX12_init.2.1 49 = .ok (.newarray .int, 2) := by decide +kernel
theorem dX12_init_51 : decode mX12_init.2.1 51 = .ok (.putfield 40, 3) := by decide +kernel
theorem dX12_init_54 : decode mX12_init.2.1 54 = .ok (.aload_n 0, 1) := by decide +kernel
theorem dX12_init_55 : decode mX12_init.2.1 55 = .ok (.iconst 4, 1) := by decide +kernel
theorem dX12_init_56 : decode mX12_init.2.1 56 = .ok (.newarray .int, 2) := by decide +kernel
theorem dX12_init_58 : decode mX12_init.2.1 58 = .ok (.putfield 43, 3) := by decide +kernel
theorem dX12_init_61 : decode mX12_init.2.1 61 = .ok (.aload_n 0, 1) := by decide +kernel
theorem dX12_init_62 : decode mX12_init.2.1 62 = .ok (.iconst 4, 1) := by decide +kernel
theorem dX12_init_63 : decode mX12_init.2.1 63 = .ok (.newarray .int, 2) := by decide +kernel
theorem dX12_init_65 : decode mX12_init.2.1 65 = .ok (.putfield 46, 3) := by decide +kernel
theorem dX12_init_68 : decode mX12_init.2.1 68 = .ok (.aload_n 0, 1) := by decide +kernel
theorem dX12_init_69 : decode mX12_init.2.1 69 = .ok (.bipush 26, 2) := by decide +kernel
theorem dX12_init_71 : decode mX12_init.2.1 71 = .ok (.newarray .int, 2) := by decide +kernel
theorem dX12_init_73 : decode mX12_init.2.1 73 = .ok (.putfield 49, 3) := by decide +kernel
theorem dX12_init_76 : decode mX12_init.2.1 76 = .ok (.aload_n 0, 1) := by decide +kernel
theorem dX12_init_77 : decode mX12_init.2.1 77 = .ok (.bipush 26, 2) := by decide +kernel
theorem dX12_init_79 : decode mX12_init.2.1 79 = .ok (.newarray .int, 2) := by decide +kernel
theorem dX12_init_81 : decode mX12_init.2.1 81 = .ok (.putfield 52, 3) := by decide +kernel
theorem dX12_init_84 : decode mX12_init.2.1 84 = .ok (.aload_n 0, 1) := by decide +kernel
theorem dX12_init_85 : decode mX12_init.2.1 85 = .ok (.bipush 80, 2) := by decide +kernel
theorem dX12_init_87 : decode mX12_init.2.1 87 = .ok (.newarray .int, 2) := by decide +kernel
theorem dX12_init_89 : decode mX12_init.2.1 89 = .ok (.putfield 55, 3) := by decide +kernel
theorem dX12_init_92 : decode mX12_init.2.1 92 = .ok (.aload_n 0, 1) := by decide +kernel
theorem dX12_init_93 : decode mX12_init.2.1 93 = .ok (.bipush 32, 2) := by decide +kernel
theorem dX12_init_95 : decode mX12_init.2.1 95 = .ok (.newarray .int, 2) := by decide +kernel
theorem dX12_init_97 : decode mX12_init.2.1 97 = .ok (.putfield 58, 3) := by decide +kernel
theorem dX12_init_100 : decode mX12_init.2.1 100 = .ok (.aload_n 0, 1) := by decide +kernel
theorem dX12_init_101 : decode mX12_init.2.1 101 = .ok (.bipush 80, 2) := by decide +kernel
theorem dX12_init_103 : decode mX12_init.2.1 103 = .ok (.newarray .int, 2) := by decide +kernel
theorem dX12_init_105 : decode mX12_init.2.1 105 = .ok (.putfield 61, 3) := by decide +kernel
theorem dX12_init_108 : decode mX12_init.2.1 108 = .ok (.aload_n 0, 1) := by decide +kernel
theorem dX12_init_109 : decode mX12_init.2.1 109 = .ok (.bipush 80, 2) := by decide +kernel
theorem dX12_init_111 : decode mX12_init.2.1 111 = .ok (.newarray .int, 2) := by decide +kernel
theorem dX12_init_113 : decode mX12_init.2.1 113 = .ok (.putfield 64, 3) := by decide +kernel
theorem dX12_init_116 : decode mX12_init.2.1 116 = .ok (.aload_n 0, 1) := by decide +kernel
theorem dX12_init_117 : decode mX12_init.2.1 117 = .ok (.bipush 80, 2) := by decide +kernel
theorem dX12_init_119 : decode mX12_init.2.1 119 = .ok (.newarray .int, 2) := by decide +kernel
theorem dX12_init_121 : decode mX12_init.2.1 121 = .ok (.putfield 67, 3) := by decide +kernel
theorem dX12_init_124 : decode mX12_init.2.1 124 = .ok (.aload_n 0, 1) := by decide +kernel
theorem dX12_init_125 : decode mX12_init.2.1 125 = .ok (.bipush 6, 2) := by decide +kernel
theorem dX12_init_127 : decode mX12_init.2.1 127 = .ok (.newarray .int, 2) := by decide +kernel
theorem dX12_init_129 : decode mX12_init.2.1 129 = .ok (.putfield 70, 3) := by decide +kernel
theorem dX12_init_132 : decode mX12_init.2.1 132 = .ok (.aload_n 0, 1) := by decide +kernel
theorem dX12_init_133 : decode mX12_init.2.1 133 = .ok (.sipush 416, 3) := by decide +kernel
theorem dX12_init_136 : decode mX12_init.2.1 136 = .ok (.newarray .int, 2) := by decide +kernel
theorem dX12_init_138 : decode mX12_init.2.1 138 = .ok (.putfield 73, 3) := by decide +kernel
theorem dX12_init_141 : decode mX12_init.2.1 141 = .ok (.aload_n 0, 1) := by decide +kernel
theorem dX12_init_142 : decode mX12_init.2.1 142 = .ok (.iconst 4, 1) := by decide +kernel
theorem dX12_init_143 : decode mX12_init.2.1 143 = .ok (.newarray .int, 2) := by decide +kernel
theorem dX12_init_145 : decode mX12_init.2.1 145 = .ok (.putfield 76, 3) := by decide +kernel
theorem dX12_init_148 : decode mX12_init.2.1 148 = .ok (.aload_n 0, 1) := by decide +kernel
theorem dX12_init_149 : decode mX12_init.2.1 149 = .ok (.bipush 60, 2) := by decide +kernel
theorem dX12_init_151 : decode mX12_init.2.1 151 = .ok (.newarray .int, 2) := by decide +kernel
theorem dX12_init_153 : decode mX12_init.2.1 153 = .ok (.putfield 79, 3) := by decide +kernel
theorem dX12_init_156 : decode mX12_init.2.1 156 = .ok (.aload_n 0, 1) := by decide +kernel
theorem dX12_init_157 : decode mX12_init.2.1 157 = .ok (.bipush 60, 2) := by decide +kernel
theorem dX12_init_159 : decode mX12_init.2.1 159 = .ok (.newarray .int, 2) := by decide +kernel
theorem dX12_init_161 : decode mX12_init.2.1 161 = .ok (.putfield 82, 3) := by decide +kernel
theorem dX12_init_164 : decode mX12_init.2.1 164 = .ok (.aload_n 0, 1) := by decide +kernel
theorem dX12_init_165 : decode mX12_init.2.1 165 = .ok (.bipush 60, 2) := by decide +kernel
theorem dX12_init_167 : decode mX12_init.2.1 167 = .ok (.newarray .int, 2) := by decide +kernel
theorem dX12_init_169 : decode mX12_init.2.1 169 = .ok (.putfield 85, 3) := by decide +kernel
theorem dX12_init_172 : decode mX12_init.2.1 172 = .ok (.aload_n 0, 1) := by decide +kernel
theorem dX12_init_173 : decode mX12_init.2.1 173 = .ok (.bipush 60, 2) := by decide +kernel
theorem dX12_init_175 : decode mX12_init.2.1 175 = .ok (.newarray .int, 2) := by decide +kernel
theorem dX12_init_177 : decode mX12_init.2.1 177 = .ok (.putfield 88, 3) := by decide +kernel
theorem dX12_init_180 : decode mX12_init.2.1 180 = .ok (.aload_n 0, 1) := by decide +kernel
theorem dX12_init_181 : decode mX12_init.2.1 181 = .ok (.bipush 60, 2) := by decide +kernel
theorem dX12_init_183 : decode mX12_init.2.1 183 = .ok (.newarray .int, 2) := by decide +kernel
theorem dX12_init_185 : decode mX12_init.2.1 185 = .ok (.putfield 91, 3) := by decide +kernel
theorem dX12_init_188 : decode mX12_init.2.1 188 = .ok (.aload_n 0, 1) := by decide +kernel
theorem dX12_init_189 : decode mX12_init.2.1 189 = .ok (.bipush 36, 2) := by decide +kernel
theorem dX12_init_191 : decode mX12_init.2.1 191 = .ok (.newarray .boolean, 2) := by decide +kernel
theorem dX12_init_193 : decode mX12_init.2.1 193 = .ok (.putfield 94, 3) := by decide +kernel
theorem dX12_init_196 : decode mX12_init.2.1 196 = .ok (.aload_n 0, 1) := by decide +kernel
theorem dX12_init_197 : decode mX12_init.2.1 197 = .ok (.bipush 36, 2) := by decide +kernel
theorem dX12_init_199 : decode mX12_init.2.1 199 = .ok (.newarray .int, 2) := by decide +kernel
theorem dX12_init_201 : decode mX12_init.2.1 201 = .ok (.putfield 98, 3) := by decide +kernel
theorem dX12_init_204 : decode mX12_init.2.1 204 = .ok (.aload_n 0, 1) := by decide +kernel
theorem dX12_init_205 : decode mX12_init.2.1 205 = .ok (.bipush 36, 2) := by decide +kernel
theorem dX12_init_207 : decode mX12_init.2.1 207 = .ok (.newarray .boolean, 2) := by decide +kernel
theorem dX12_init_209 : decode mX12_init.2.1 209 = .ok (.putfield 101, 3) := by decide +kernel
theorem dX12_init_212 : decode mX12_init.2.1 212 = .ok (.aload_n 0, 1) := by decide +kernel
theorem dX12_init_213 : decode mX12_init.2.1 213 = .ok (.bipush 36, 2) := by decide +kernel
theorem dX12_init_215 : decode mX12_init.2.1 215 = .ok (.newarray .boolean, 2) := by decide +kernel
theorem dX12_init_217 : decode mX12_init.2.1 217 = .ok (.putfield 104, 3) := by decide +kernel
theorem dX12_init_220 : decode mX12_init.2.1 220 = .ok (.aload_n 0, 1) := by decide +kernel
theorem dX12_init_221 : decode mX12_init.2.1 221 = .ok (.bipush 12, 2) := by decide +kernel
theorem dX12_init_223 : decode mX12_init.2.1 223 = .ok (.newarray .int, 2) := by decide +kernel
theorem dX12_init_225 : decode mX12_init.2.1 225 = .ok (.putfield 107, 3) := by decide +kernel
theorem dX12_init_228 : decode mX12_init.2.1 228 = .ok (.aload_n 0, 1) := by decide +kernel
theorem dX12_init_229 : decode mX12_init.2.1 229 = .ok (.bipush 12, 2) := by decide +kernel
theorem dX12_init_231 : decode mX12_init.2.1 231 = .ok (.newarray .int, 2) := by decide +kernel
theorem dX12_init_233 : decode mX12_init.2.1 233 = .ok (.putfield 110, 3) := by decide +kernel
theorem dX12_init_236 : decode mX12_init.2.1 236 = .ok (.aload_n 0, 1) := by decide +kernel
theorem dX12_init_237 : decode mX12_init.2.1 237 = .ok (.bipush 12, 2) := by decide +kernel
theorem dX12_init_239 : decode mX12_init.2.1 239 = .ok (.newarray .int, 2) := by decide +kernel
theorem dX12_init_241 : decode mX12_init.2.1 241 = .ok (.putfield 113, 3) := by decide +kernel
theorem dX12_init_244 : decode mX12_init.2.1 244 = .ok (.aload_n 0, 1) := by decide +kernel
theorem dX12_init_245 : decode mX12_init.2.1 245 = .ok (.sipush 2560, 3) := by decide +kernel
theorem dX12_init_248 : decode mX12_init.2.1 248 = .ok (.newarray .boolean, 2) := by decide +kernel
theorem dX12_init_250 : decode mX12_init.2.1 250 = .ok (.putfield 116, 3) := by decide +kernel
theorem dX12_init_253 : decode mX12_init.2.1 253 = .ok (.aload_n 0, 1) := by decide +kernel
theorem dX12_init_254 : decode mX12_init.2.1 254 = .ok (.bipush 8, 2) := by decide +kernel
theorem dX12_init_256 : decode mX12_init.2.1 256 = .ok (.newarray .int, 2) := by decide +kernel
theorem dX12_init_258 : decode mX12_init.2.1 258 = .ok (.putfield 119, 3) := by decide +kernel
theorem dX12_init_261 : decode mX12_init.2.1 261 = .ok (.aload_n 0, 1) := by decide +kernel
theorem dX12_init_262 : decode mX12_init.2.1 262 = .ok (.bipush 8, 2) := by decide +kernel
theorem dX12_init_264 : decode mX12_init.2.1 264 = .ok (.newarray .int, 2) := by decide +kernel
theorem dX12_init_266 : decode mX12_init.2.1 266 = .ok (.putfield 122, 3) := by decide +kernel
theorem dX12_init_269 : decode mX12_init.2.1 269 = .ok (.aload_n 0, 1) := by decide +kernel
theorem dX12_init_270 : decode mX12_init.2.1 270 = .ok (.bipush 8, 2) := by decide +kernel
theorem dX12_init_272 : decode mX12_init.2.1 272 = .ok (.newarray .int, 2) := by decide +kernel
theorem dX12_init_274 : decode mX12_init.2.1 274 = .ok (.putfield 125, 3) := by decide +kernel
theorem dX12_init_277 : decode mX12_init.2.1 277 = .ok (.aload_n 0, 1) := by decide +kernel
theorem dX12_init_278 : decode mX12_init.2.1 278 = .ok (.bipush 80, 2) := by decide +kernel
theorem dX12_init_280 : decode mX12_init.2.1 280 = .ok (.newarray .int, 2) := by decide +kernel
theorem dX12_init_282 : decode mX12_init.2.1 282 = .ok (.putfield 128, 3) := by decide +kernel
theorem dX12_init_285 : decode mX12_init.2.1 285 = .ok (.aload_n 0, 1) := by decide +kernel
theorem dX12_init_286 : decode mX12_init.2.1 286 = .ok (.iconst 3, 1) := by decide +kernel
theorem dX12_init_287 : decode mX12_init.2.1 287 = .ok (.newarray .boolean, 2) := by decide +kernel
theorem dX12_init_289 : decode mX12_init.2.1 289 = .ok (.putfield 131, 3) := by decide +kernel
theorem dX12_init_292 : decode mX12_init.2.1 292 = .ok (.aload_n 0, 1) := by decide +kernel
theorem dX12_init_293 : decode mX12_init.2.1 293 = .ok (.iconst 3, 1) := by decide +kernel
theorem dX12_init_294 : decode mX12_init.2.1 294 = .ok (.newarray .int, 2) := by decide +kernel
theorem dX12_init_296 : decode mX12_init.2.1 296 = .ok (.putfield 134, 3) := by decide +kernel
theorem dX12_init_299 : decode mX12_init.2.1 299 = .ok (.aload_n 0, 1) := by decide +kernel
theorem dX12_init_300 : decode mX12_init.2.1 300 = .ok (.bipush 78, 2) := by decide +kernel
theorem dX12_init_302 : decode mX12_init.2.1 302 = .ok (.newarray .int, 2) := by decide +kernel
theorem dX12_init_304 : decode mX12_init.2.1 304 = .ok (.putfield 137, 3) := by decide +kernel
theorem dX12_init_307 : decode mX12_init.2.1 307 = .ok (.iconst 0, 1) := by decide +kernel
theorem dX12_init_308 : decode mX12_init.2.1 308 = .ok (.istore_n 1, 1) := by decide +kernel
theorem dX12_init_309 : decode mX12_init.2.1 309 = .ok (.iload_n 1, 1) := by decide +kernel
theorem dX12_init_310 : decode mX12_init.2.1 310 = .ok (.bipush 8, 2) := by decide +kernel
theorem dX12_init_312 : decode mX12_init.2.1 312 = .ok (.if_icmp .ge 19, 3) := by decide +kernel
theorem dX12_init_315 : decode mX12_init.2.1 315 = .ok (.aload_n 0, 1) := by decide +kernel
theorem dX12_init_316 : decode mX12_init.2.1 316 = .ok (.getfield 49, 3) := by decide +kernel
theorem dX12_init_319 : decode mX12_init.2.1 319 = .ok (.bipush 16, 2) := by decide +kernel
theorem dX12_init_321 : decode mX12_init.2.1 321 = .ok (.iload_n 1, 1) := by decide +kernel
theorem dX12_init_322 : decode mX12_init.2.1 322 = .ok (.iadd, 1) := by decide +kernel
theorem dX12_init_323 : decode mX12_init.2.1 323 = .ok (.iconst (-1), 1) := by decide +kernel
theorem dX12_init_324 : decode mX12_init.2.1 324 = .ok (.iastore, 1) := by decide +kernel
theorem dX12_init_325 : decode mX12_init.2.1 325 = .ok (.iinc 1 1, 3) := by decide +kernel
theorem dX12_init_328 : decode mX12_init.2.1 328 = .ok (.goto (-19), 3) := by decide +kernel
theorem dX12_init_331 : decode mX12_init.2.1 331 = .ok (.return_, 1) := by decide +kernel
theorem dX12_isThing_0 : decode mX12_isThing.2.1 0 = .ok (.iload_n 1, 1) := by decide +kernel
theorem dX12_isThing_1 : decode mX12_isThing.2.1 1 = .ok (.i2l, 1) := by decide +kernel
theorem dX12_isThing_2 : decode mX12_isThing.2.1 2 = .ok (.lconst 0, 1) := by decide +kernel
theorem dX12_isThing_3 : decode mX12_isThing.2.1 3 = .ok (.aload_n 0, 1) := by decide +kernel
theorem dX12_isThing_4 : decode mX12_isThing.2.1 4 = .ok (.getfield 140, 3) := by decide +kernel
theorem dX12_isThing_7 : decode mX12_isThing.2.1 7 = .ok (.iconst 1, 1) := by decide +kernel
theorem dX12_isThing_8 : decode mX12_isThing.2.1 8 = .ok (.isub, 1) := by decide +kernel
theorem dX12_isThing_9 : decode mX12_isThing.2.1 9 = .ok (.i2l, 1) := by decide +kernel
theorem dX12_isThing_10 : decode mX12_isThing.2.1 10 = .ok (.invokestatic 143, 3) := by decide +kernel
theorem dX12_isThing_13 : decode mX12_isThing.2.1 13 = .ok (.ireturn, 1) := by decide +kernel
theorem dX12_isPane_0 : decode mX12_isPane.2.1 0 = .ok (.iload_n 1, 1) := by decide +kernel
theorem dX12_isPane_1 : decode mX12_isPane.2.1 1 = .ok (.i2l, 1) := by decide +kernel
theorem dX12_isPane_2 : decode mX12_isPane.2.1 2 = .ok (.lconst 0, 1) := by decide +kernel
theorem dX12_isPane_3 : decode mX12_isPane.2.1 3 = .ok (.aload_n 0, 1) := by decide +kernel
theorem dX12_isPane_4 : decode mX12_isPane.2.1 4 = .ok (.getfield 147, 3) := by decide +kernel
theorem dX12_isPane_7 : decode mX12_isPane.2.1 7 = .ok (.iconst 1, 1) := by decide +kernel
theorem dX12_isPane_8 : decode mX12_isPane.2.1 8 = .ok (.isub, 1) := by decide +kernel
theorem dX12_isPane_9 : decode mX12_isPane.2.1 9 = .ok (.i2l, 1) := by decide +kernel
theorem dX12_isPane_10 : decode mX12_isPane.2.1 10 = .ok (.invokestatic 143, 3) := by decide +kernel
theorem dX12_isPane_13 : decode mX12_isPane.2.1 13 = .ok (.ireturn, 1) := by decide +kernel
theorem dX12_isRoom_0 : decode mX12_isRoom.2.1 0 = .ok (.iload_n 1, 1) := by decide +kernel
theorem dX12_isRoom_1 : decode mX12_isRoom.2.1 1 = .ok (.i2l, 1) := by decide +kernel
theorem dX12_isRoom_2 : decode mX12_isRoom.2.1 2 = .ok (.lconst 0, 1) := by decide +kernel
theorem dX12_isRoom_3 : decode mX12_isRoom.2.1 3 = .ok (.aload_n 0, 1) := by decide +kernel
theorem dX12_isRoom_4 : decode mX12_isRoom.2.1 4 = .ok (.getfield 150, 3) := by decide +kernel
theorem dX12_isRoom_7 : decode mX12_isRoom.2.1 7 = .ok (.iconst 1, 1) := by decide +kernel
theorem dX12_isRoom_8 : decode mX12_isRoom.2.1 8 = .ok (.isub, 1) := by decide +kernel
theorem dX12_isRoom_9 : decode mX12_isRoom.2.1 9 = .ok (.i2l, 1) := by decide +kernel
theorem dX12_isRoom_10 : decode mX12_isRoom.2.1 10 = .ok (.invokestatic 143, 3) := by decide +kernel
theorem dX12_isRoom_13 : decode mX12_isRoom.2.1 13 = .ok (.ireturn, 1) := by decide +kernel
theorem dX12_isField_0 : decode mX12_isField.2.1 0 = .ok (.iload_n 1, 1) := by decide +kernel
theorem dX12_isField_1 : decode mX12_isField.2.1 1 = .ok (.i2l, 1) := by decide +kernel
theorem dX12_isField_2 : decode mX12_isField.2.1 2 = .ok (.lconst 0, 1) := by decide +kernel
theorem dX12_isField_3 : decode mX12_isField.2.1 3 = .ok (.aload_n 0, 1) := by decide +kernel
theorem dX12_isField_4 : decode mX12_isField.2.1 4 = .ok (.getfield 24, 3) := by decide +kernel
theorem dX12_isField_7 : decode mX12_isField.2.1 7 = .ok (.aload_n 0, 1) := by decide +kernel
theorem dX12_isField_8 : decode mX12_isField.2.1 8 = .ok (.getfield 27, 3) := by decide +kernel
theorem dX12_isField_11 : decode mX12_isField.2.1 11 = .ok (.imul, 1) := by decide +kernel
theorem dX12_isField_12 : decode mX12_isField.2.1 12 = .ok (.iconst 1, 1) := by decide +kernel
theorem dX12_isField_13 : decode mX12_isField.2.1 13 = .ok (.isub, 1) := by decide +kernel
theorem dX12_isField_14 : decode mX12_isField.2.1 14 = .ok (.i2l, 1) := by decide +kernel
theorem dX12_isField_15 : decode mX12_isField.2.1 15 = .ok (.invokestatic 143, 3) := by decide +kernel
theorem dX12_isField_18 : decode mX12_isField.2.1 18 = .ok (.ireturn, 1) := by decide +kernel
theorem dX12_all_0 : decode mX12_all.2.1 0 = .ok (.iconst 1, 1) := by decide +kernel
theorem dX12_all_1 : decode mX12_all.2.1 1 = .ok (.iload_n 0, 1) := by decide +kernel
theorem dX12_all_2 : decode mX12_all.2.1 2 = .ok (.ishl, 1) := by decide +kernel
theorem dX12_all_3 : decode mX12_all.2.1 3 = .ok (.iconst 1, 1) := by decide +kernel
theorem dX12_all_4 : decode mX12_all.2.1 4 = .ok (.isub, 1) := by decide +kernel
theorem dX12_all_5 : decode mX12_all.2.1 5 = .ok (.ireturn, 1) := by decide +kernel
theorem dX12_far_0 : decode mX12_far.2.1 0 = .ok (.iload_n 1, 1) := by decide +kernel
theorem dX12_far_1 : decode mX12_far.2.1 1 = .ok (.aload_n 0, 1) := by decide +kernel
theorem dX12_far_2 : decode mX12_far.2.1 2 = .ok (.getfield 27, 3) := by decide +kernel
theorem dX12_far_5 : decode mX12_far.2.1 5 = .ok (.idiv, 1) := by decide +kernel
theorem dX12_far_6 : decode mX12_far.2.1 6 = .ok (.iload_n 2, 1) := by decide +kernel
theorem dX12_far_7 : decode mX12_far.2.1 7 = .ok (.aload_n 0, 1) := by decide +kernel
theorem dX12_far_8 : decode mX12_far.2.1 8 = .ok (.getfield 27, 3) := by decide +kernel
theorem dX12_far_11 : decode mX12_far.2.1 11 = .ok (.idiv, 1) := by decide +kernel
theorem dX12_far_12 : decode mX12_far.2.1 12 = .ok (.isub, 1) := by decide +kernel
theorem dX12_far_13 : decode mX12_far.2.1 13 = .ok (.invokestatic 153, 3) := by decide +kernel
theorem dX12_far_16 : decode mX12_far.2.1 16 = .ok (.iload_n 1, 1) := by decide +kernel
theorem dX12_far_17 : decode mX12_far.2.1 17 = .ok (.aload_n 0, 1) := by decide +kernel
theorem dX12_far_18 : decode mX12_far.2.1 18 = .ok (.getfield 27, 3) := by decide +kernel
theorem dX12_far_21 : decode mX12_far.2.1 21 = .ok (.irem, 1) := by decide +kernel
theorem dX12_far_22 : decode mX12_far.2.1 22 = .ok (.iload_n 2, 1) := by decide +kernel
theorem dX12_far_23 : decode mX12_far.2.1 23 = .ok (.aload_n 0, 1) := by decide +kernel
theorem dX12_far_24 : decode mX12_far.2.1 24 = .ok (.getfield 27, 3) := by decide +kernel
theorem dX12_far_27 : decode mX12_far.2.1 27 = .ok (.irem, 1) := by decide +kernel
theorem dX12_far_28 : decode mX12_far.2.1 28 = .ok (.isub, 1) := by decide +kernel
theorem dX12_far_29 : decode mX12_far.2.1 29 = .ok (.invokestatic 153, 3) := by decide +kernel
theorem dX12_far_32 : decode mX12_far.2.1 32 = .ok (.iadd, 1) := by decide +kernel
theorem dX12_far_33 : decode mX12_far.2.1 33 = .ok (.ireturn, 1) := by decide +kernel
theorem dX12_beside_0 : decode mX12_beside.2.1 0 = .ok (.iload_n 1, 1) := by decide +kernel
theorem dX12_beside_1 : decode mX12_beside.2.1 1 = .ok (.aload_n 0, 1) := by decide +kernel
theorem dX12_beside_2 : decode mX12_beside.2.1 2 = .ok (.getfield 27, 3) := by decide +kernel
theorem dX12_beside_5 : decode mX12_beside.2.1 5 = .ok (.idiv, 1) := by decide +kernel
theorem dX12_beside_6 : decode mX12_beside.2.1 6 = .ok (.iload_n 2, 1) := by decide +kernel
theorem dX12_beside_7 : decode mX12_beside.2.1 7 = .ok (.iconst 2, 1) := by decide +kernel
theorem dX12_beside_8 : decode mX12_beside.2.1 8 = .ok (.if_icmp .ne 7, 3) := by decide +kernel
theorem dX12_beside_11 : decode mX12_beside.2.1 11 = .ok (.iconst 1, 1) := by decide +kernel
theorem dX12_beside_12 : decode mX12_beside.2.1 12 = .ok (.goto 12, 3) := by decide +kernel
theorem dX12_beside_15 : decode mX12_beside.2.1 15 = .ok (.iload_n 2, 1) := by decide +kernel
theorem dX12_beside_16 : decode mX12_beside.2.1 16 = .ok (.ifCond .ne 7, 3) := by decide +kernel
theorem dX12_beside_19 : decode mX12_beside.2.1 19 = .ok (.iconst (-1), 1) := by decide +kernel
theorem dX12_beside_20 : decode mX12_beside.2.1 20 = .ok (.goto 4, 3) := by decide +kernel
theorem dX12_beside_23 : decode mX12_beside.2.1 23 = .ok (.iconst 0, 1) := by decide +kernel
theorem dX12_beside_24 : decode mX12_beside.2.1 24 = .ok (.iadd, 1) := by decide +kernel
theorem dX12_beside_25 : decode mX12_beside.2.1 25 = .ok (.istore_n 3, 1) := by decide +kernel
theorem dX12_beside_26 : decode mX12_beside.2.1 26 = .ok (.iload_n 1, 1) := by decide +kernel
theorem dX12_beside_27 : decode mX12_beside.2.1 27 = .ok (.aload_n 0, 1) := by decide +kernel
theorem dX12_beside_28 : decode mX12_beside.2.1 28 = .ok (.getfield 27, 3) := by decide +kernel
theorem dX12_beside_31 : decode mX12_beside.2.1 31 = .ok (.irem, 1) := by decide +kernel
theorem dX12_beside_32 : decode mX12_beside.2.1 32 = .ok (.iload_n 2, 1) := by decide +kernel
theorem dX12_beside_33 : decode mX12_beside.2.1 33 = .ok (.iconst 1, 1) := by decide +kernel
theorem dX12_beside_34 : decode mX12_beside.2.1 34 = .ok (.if_icmp .ne 7, 3) := by decide +kernel
theorem dX12_beside_37 : decode mX12_beside.2.1 37 = .ok (.iconst 1, 1) := by decide +kernel
theorem dX12_beside_38 : decode mX12_beside.2.1 38 = .ok (.goto 13, 3) := by decide +kernel
theorem dX12_beside_41 : decode mX12_beside.2.1 41 = .ok (.iload_n 2, 1) := by decide +kernel
theorem dX12_beside_42 : decode mX12_beside.2.1 42 = .ok (.iconst 3, 1) := by decide +kernel
theorem dX12_beside_43 : decode mX12_beside.2.1 43 = .ok (.if_icmp .ne 7, 3) := by decide +kernel
theorem dX12_beside_46 : decode mX12_beside.2.1 46 = .ok (.iconst (-1), 1) := by decide +kernel
theorem dX12_beside_47 : decode mX12_beside.2.1 47 = .ok (.goto 4, 3) := by decide +kernel
theorem dX12_beside_50 : decode mX12_beside.2.1 50 = .ok (.iconst 0, 1) := by decide +kernel
theorem dX12_beside_51 : decode mX12_beside.2.1 51 = .ok (.iadd, 1) := by decide +kernel
theorem dX12_beside_52 : decode mX12_beside.2.1 52 = .ok (.istore 4, 2) := by decide +kernel
theorem dX12_beside_54 : decode mX12_beside.2.1 54 = .ok (.iload_n 3, 1) := by decide +kernel
theorem dX12_beside_55 : decode mX12_beside.2.1 55 = .ok (.i2l, 1) := by decide +kernel
theorem dX12_beside_56 : decode mX12_beside.2.1 56 = .ok (.lconst 0, 1) := by decide +kernel
theorem dX12_beside_57 : decode mX12_beside.2.1 57 = .ok (.aload_n 0, 1) := by decide +kernel
theorem dX12_beside_58 : decode mX12_beside.2.1 58 = .ok (.getfield 24, 3) := by decide +kernel
theorem dX12_beside_61 : decode mX12_beside.2.1 61 = .ok (.iconst 1, 1) := by decide +kernel
theorem dX12_beside_62 : decode mX12_beside.2.1 62 = .ok (.isub, 1) := by decide +kernel
theorem dX12_beside_63 : decode mX12_beside.2.1 63 = .ok (.i2l, 1) := by decide +kernel
theorem dX12_beside_64 : decode mX12_beside.2.1 64 = .ok (.invokestatic 143, 3) := by decide +kernel
theorem dX12_beside_67 : decode mX12_beside.2.1 67 = .ok (.ifCond .eq 32, 3) := by decide +kernel
theorem dX12_beside_70 : decode mX12_beside.2.1 70 = .ok (.iload 4, 2) := by decide +kernel
theorem dX12_beside_72 : decode mX12_beside.2.1 72 = .ok (.i2l, 1) := by decide +kernel
theorem dX12_beside_73 : decode mX12_beside.2.1 73 = .ok (.lconst 0, 1) := by decide +kernel
theorem dX12_beside_74 : decode mX12_beside.2.1 74 = .ok (.aload_n 0, 1) := by decide +kernel
theorem dX12_beside_75 : decode mX12_beside.2.1 75 = .ok (.getfield 27, 3) := by decide +kernel
theorem dX12_beside_78 : decode mX12_beside.2.1 78 = .ok (.iconst 1, 1) := by decide +kernel
theorem dX12_beside_79 : decode mX12_beside.2.1 79 = .ok (.isub, 1) := by decide +kernel
theorem dX12_beside_80 : decode mX12_beside.2.1 80 = .ok (.i2l, 1) := by decide +kernel
theorem dX12_beside_81 : decode mX12_beside.2.1 81 = .ok (.invokestatic 143, 3) := by decide +kernel
theorem dX12_beside_84 : decode mX12_beside.2.1 84 = .ok (.ifCond .eq 15, 3) := by decide +kernel
theorem dX12_beside_87 : decode mX12_beside.2.1 87 = .ok (.aload_n 0, 1) := by decide +kernel
theorem dX12_beside_88 : decode mX12_beside.2.1 88 = .ok (.getfield 27, 3) := by decide +kernel
theorem dX12_beside_91 : decode mX12_beside.2.1 91 = .ok (.iload_n 3, 1) := by decide +kernel
theorem dX12_beside_92 : decode mX12_beside.2.1 92 = .ok (.imul, 1) := by decide +kernel
theorem dX12_beside_93 : decode mX12_beside.2.1 93 = .ok (.iload 4, 2) := by decide +kernel
theorem dX12_beside_95 : decode mX12_beside.2.1 95 = .ok (.iadd, 1) := by decide +kernel
theorem dX12_beside_96 : decode mX12_beside.2.1 96 = .ok (.goto 4, 3) := by decide +kernel
theorem dX12_beside_99 : decode mX12_beside.2.1 99 = .ok (.iconst (-1), 1) := by decide +kernel
theorem dX12_beside_100 : decode mX12_beside.2.1 100 = .ok (.ireturn, 1) := by decide +kernel
theorem dX12_sign_0 : decode mX12_sign.2.1 0 = .ok (.aload_n 0, 1) := by decide +kernel
theorem dX12_sign_1 : decode mX12_sign.2.1 1 = .ok (.iconst 0, 1) := by decide +kernel
theorem dX12_sign_2 : decode mX12_sign.2.1 2 = .ok (.putfield 3, 3) := by decide +kernel
theorem dX12_sign_5 : decode mX12_sign.2.1 5 = .ok (.aload_n 0, 1) := by decide +kernel
theorem dX12_sign_6 : decode mX12_sign.2.1 6 = .ok (.getfield 159, 3) := by decide +kernel
theorem dX12_sign_9 : decode mX12_sign.2.1 9 = .ok (.bipush 76, 2) := by decide +kernel
theorem dX12_sign_11 : decode mX12_sign.2.1 11 = .ok (.if_icmp .le 5, 3) := by decide +kernel
theorem dX12_sign_14 : decode mX12_sign.2.1 14 = .ok (.iconst (-1), 1) := by decide +kernel
theorem dX12_sign_15 : decode mX12_sign.2.1 15 = .ok (.ireturn, 1) := by decide +kernel
theorem dX12_sign_16 : decode mX12_sign.2.1 16 = .ok (.iconst 0, 1) := by decide +kernel
theorem dX12_sign_17 : decode mX12_sign.2.1 17 = .ok (.istore_n 2, 1) := by decide +kernel
theorem dX12_sign_18 : decode mX12_sign.2.1 18 = .ok (.iload_n 2, 1) := by decide +kernel
theorem dX12_sign_19 : decode mX12_sign.2.1 19 = .ok (.iconst 4, 1) := by decide +kernel
theorem dX12_sign_20 : decode mX12_sign.2.1 20 = .ok (.if_icmp .ge 33, 3) := by decide +kernel
theorem dX12_sign_23 : decode mX12_sign.2.1 23 = .ok (.aload_n 0, 1) := by decide +kernel
theorem dX12_sign_24 : decode mX12_sign.2.1 24 = .ok (.getfield 55, 3) := by decide +kernel
theorem dX12_sign_27 : decode mX12_sign.2.1 27 = .ok (.aload_n 0, 1) := by decide +kernel
theorem dX12_sign_28 : decode mX12_sign.2.1 28 = .ok (.getfield 159, 3) := by decide +kernel
theorem dX12_sign_31 : decode mX12_sign.2.1 31 = .ok (.iload_n 2, 1) := by decide +kernel
theorem dX12_sign_32 : decode mX12_sign.2.1 32 = .ok (.iadd, 1) := by decide +kernel
theorem dX12_sign_33 : decode mX12_sign.2.1 33 = .ok (.iload_n 1, 1) := by decide +kernel
theorem dX12_sign_34 : decode mX12_sign.2.1 34 = .ok (.bipush 24, 2) := by decide +kernel
theorem dX12_sign_36 : decode mX12_sign.2.1 36 = .ok (.bipush 8, 2) := by decide +kernel
theorem dX12_sign_38 : decode mX12_sign.2.1 38 = .ok (.iload_n 2, 1) := by decide +kernel
theorem dX12_sign_39 : decode mX12_sign.2.1 39 = .ok (.imul, 1) := by decide +kernel
theorem dX12_sign_40 : decode mX12_sign.2.1 40 = .ok (.isub, 1) := by decide +kernel
theorem dX12_sign_41 : decode mX12_sign.2.1 41 = .ok (.ishr, 1) := by decide +kernel
theorem dX12_sign_42 : decode mX12_sign.2.1 42 = .ok (.sipush 255, 3) := by decide +kernel
theorem dX12_sign_45 : decode mX12_sign.2.1 45 = .ok (.iand, 1) := by decide +kernel
theorem dX12_sign_46 : decode mX12_sign.2.1 46 = .ok (.iastore, 1) := by decide +kernel
theorem dX12_sign_47 : decode mX12_sign.2.1 47 = .ok (.iinc 2 1, 3) := by decide +kernel
theorem dX12_sign_50 : decode mX12_sign.2.1 50 = .ok (.goto (-32), 3) := by decide +kernel
theorem dX12_sign_53 : decode mX12_sign.2.1 53 = .ok (.aload_n 0, 1) := by decide +kernel
theorem dX12_sign_54 : decode mX12_sign.2.1 54 = .ok (.dup, 1) := by decide +kernel
theorem dX12_sign_55 : decode mX12_sign.2.1 55 = .ok (.getfield 159, 3) := by decide +kernel
theorem dX12_sign_58 : decode mX12_sign.2.1 58 = .ok (.iconst 4, 1) := by decide +kernel
theorem dX12_sign_59 : decode mX12_sign.2.1 59 = .ok (.iadd, 1) := by decide +kernel
theorem dX12_sign_60 : decode mX12_sign.2.1 60 = .ok (.putfield 159, 3) := by decide +kernel
theorem dX12_sign_63 : decode mX12_sign.2.1 63 = .ok (.aload_n 0, 1) := by decide +kernel
theorem dX12_sign_64 : decode mX12_sign.2.1 64 = .ok (.getfield 159, 3) := by decide +kernel
theorem dX12_sign_67 : decode mX12_sign.2.1 67 = .ok (.ireturn, 1) := by decide +kernel
theorem dX12_end_0 : decode mX12_end.2.1 0 = .ok (.aload_n 0, 1) := by decide +kernel
theorem dX12_end_1 : decode mX12_end.2.1 1 = .ok (.iconst 0, 1) := by decide +kernel
theorem dX12_end_2 : decode mX12_end.2.1 2 = .ok (.putfield 3, 3) := by decide +kernel
theorem dX12_end_5 : decode mX12_end.2.1 5 = .ok (.iload_n 1, 1) := by decide +kernel
theorem dX12_end_6 : decode mX12_end.2.1 6 = .ok (.i2l, 1) := by decide +kernel
theorem dX12_end_7 : decode mX12_end.2.1 7 = .ok (.lconst 0, 1) := by decide +kernel
theorem dX12_end_8 : decode mX12_end.2.1 8 = .ok (.aload_n 0, 1) := by decide +kernel
theorem dX12_end_9 : decode mX12_end.2.1 9 = .ok (.getfield 159, 3) := by decide +kernel
theorem dX12_end_12 : decode mX12_end.2.1 12 = .ok (.i2l, 1) := by decide +kernel
theorem dX12_end_13 : decode mX12_end.2.1 13 = .ok (.invokestatic 143, 3) := by decide +kernel
theorem dX12_end_16 : decode mX12_end.2.1 16 = .ok (.ifCond .ne 5, 3) := by decide +kernel
theorem dX12_end_19 : decode mX12_end.2.1 19 = .ok (.iconst 0, 1) := by decide +kernel
theorem dX12_end_20 : decode mX12_end.2.1 20 = .ok (.ireturn, 1) := by decide +kernel
theorem dX12_end_21 : decode mX12_end.2.1 21 = .ok (.aload_n 0, 1) := by decide +kernel
theorem dX12_end_22 : decode mX12_end.2.1 22 = .ok (.iload_n 1, 1) := by decide +kernel
theorem dX12_end_23 : decode mX12_end.2.1 23 = .ok (.putfield 159, 3) := by decide +kernel
theorem dX12_end_26 : decode mX12_end.2.1 26 = .ok (.iconst 1, 1) := by decide +kernel
theorem dX12_end_27 : decode mX12_end.2.1 27 = .ok (.ireturn, 1) := by decide +kernel
theorem dX12_begins_0 : decode mX12_begins.2.1 0 = .ok (.aload_n 0, 1) := by decide +kernel
theorem dX12_begins_1 : decode mX12_begins.2.1 1 = .ok (.getfield 159, 3) := by decide +kernel
theorem dX12_begins_4 : decode mX12_begins.2.1 4 = .ok (.istore_n 2, 1) := by decide +kernel
theorem dX12_begins_5 : decode mX12_begins.2.1 5 = .ok (.aload_n 0, 1) := by decide +kernel
theorem dX12_begins_6 : decode mX12_begins.2.1 6 = .ok (.iconst 0, 1) := by decide +kernel
theorem dX12_begins_7 : decode mX12_begins.2.1 7 = .ok (.putfield 159, 3) := by decide +kernel
theorem dX12_begins_10 : decode mX12_begins.2.1 10 = .ok (.aload_n 0, 1) := by decide +kernel
theorem dX12_begins_11 : decode mX12_begins.2.1 11 = .ok (.iconst 0, 1) := by decide +kernel
theorem dX12_begins_12 : decode mX12_begins.2.1 12 = .ok (.putfield 162, 3) := by decide +kernel
theorem dX12_begins_15 : decode mX12_begins.2.1 15 = .ok (.aload_n 0, 1) := by decide +kernel
theorem dX12_begins_16 : decode mX12_begins.2.1 16 = .ok (.iconst 0, 1) := by decide +kernel
theorem dX12_begins_17 : decode mX12_begins.2.1 17 = .ok (.putfield 165, 3) := by decide +kernel
theorem dX12_begins_20 : decode mX12_begins.2.1 20 = .ok (.aload_n 0, 1) := by decide +kernel
theorem dX12_begins_21 : decode mX12_begins.2.1 21 = .ok (.iload_n 2, 1) := by decide +kernel
theorem dX12_begins_22 : decode mX12_begins.2.1 22 = .ok (.iload_n 1, 1) := by decide +kernel
theorem dX12_begins_23 : decode mX12_begins.2.1 23 = .ok (.invokestatic 168, 3) := by decide +kernel
theorem dX12_begins_26 : decode mX12_begins.2.1 26 = .ok (.putfield 172, 3) := by decide +kernel
theorem dX12_begins_29 : decode mX12_begins.2.1 29 = .ok (.iload_n 2, 1) := by decide +kernel
theorem dX12_begins_30 : decode mX12_begins.2.1 30 = .ok (.ireturn, 1) := by decide +kernel
theorem dX12_takesSign_0 : decode mX12_takesSign.2.1 0 = .ok (.aload_n 0, 1) := by decide +kernel
theorem dX12_takesSign_1 : decode mX12_takesSign.2.1 1 = .ok (.getfield 162, 3) := by decide +kernel
theorem dX12_takesSign_4 : decode mX12_takesSign.2.1 4 = .ok (.aload_n 0, 1) := by decide +kernel
theorem dX12_takesSign_5 : decode mX12_takesSign.2.1 5 = .ok (.getfield 172, 3) := by decide +kernel
theorem dX12_takesSign_8 : decode mX12_takesSign.2.1 8 = .ok (.if_icmp .ge 20, 3) := by decide +kernel
theorem dX12_takesSign_11 : decode mX12_takesSign.2.1 11 = .ok (.aload_n 0, 1) := by decide +kernel
theorem dX12_takesSign_12 : decode mX12_takesSign.2.1 12 = .ok (.getfield 55, 3) := by decide +kernel
theorem dX12_takesSign_15 : decode mX12_takesSign.2.1 15 = .ok (.aload_n 0, 1) := by decide +kernel
theorem dX12_takesSign_16 : decode mX12_takesSign.2.1 16 = .ok (.getfield 162, 3) := by decide +kernel
theorem dX12_takesSign_19 : decode mX12_takesSign.2.1 19 = .ok (.iaload, 1) := by decide +kernel
theorem dX12_takesSign_20 : decode mX12_takesSign.2.1 20 = .ok (.iload_n 1, 1) := by decide +kernel
theorem dX12_takesSign_21 : decode mX12_takesSign.2.1 21 = .ok (.if_icmp .ne 7, 3) := by decide +kernel
theorem dX12_takesSign_24 : decode mX12_takesSign.2.1 24 = .ok (.iconst 1, 1) := by decide +kernel
theorem dX12_takesSign_25 : decode mX12_takesSign.2.1 25 = .ok (.goto 4, 3) := by decide +kernel
theorem dX12_takesSign_28 : decode mX12_takesSign.2.1 28 = .ok (.iconst 0, 1) := by decide +kernel
theorem dX12_takesSign_29 : decode mX12_takesSign.2.1 29 = .ok (.istore_n 2, 1) := by decide +kernel
theorem dX12_takesSign_30 : decode mX12_takesSign.2.1 30 = .ok (.aload_n 0, 1) := by decide +kernel
theorem dX12_takesSign_31 : decode mX12_takesSign.2.1 31 = .ok (.dup, 1) := by decide +kernel
theorem dX12_takesSign_32 : decode mX12_takesSign.2.1 32 = .ok (.getfield 162, 3) := by decide +kernel
theorem dX12_takesSign_35 : decode mX12_takesSign.2.1 35 = .ok (.iload_n 2, 1) := by decide +kernel
theorem dX12_takesSign_36 : decode mX12_takesSign.2.1 36 = .ok (.invokestatic 175, 3) := by decide +kernel
theorem dX12_takesSign_39 : decode mX12_takesSign.2.1 39 = .ok (.iadd, 1) := by decide +kernel
theorem dX12_takesSign_40 : decode mX12_takesSign.2.1 40 = .ok (.putfield 162, 3) := by decide +kernel
theorem dX12_takesSign_43 : decode mX12_takesSign.2.1 43 = .ok (.iload_n 2, 1) := by decide +kernel
theorem dX12_takesSign_44 : decode mX12_takesSign.2.1 44 = .ok (.ireturn, 1) := by decide +kernel
theorem dX12_isDigit_0 : decode mX12_isDigit.2.1 0 = .ok (.aload_n 0, 1) := by decide +kernel
theorem dX12_isDigit_1 : decode mX12_isDigit.2.1 1 = .ok (.getfield 162, 3) := by decide +kernel
theorem dX12_isDigit_4 : decode mX12_isDigit.2.1 4 = .ok (.aload_n 0, 1) := by decide +kernel
theorem dX12_isDigit_5 : decode mX12_isDigit.2.1 5 = .ok (.getfield 172, 3) := by decide +kernel
theorem dX12_isDigit_8 : decode mX12_isDigit.2.1 8 = .ok (.if_icmp .ge 29, 3) := by decide +kernel
theorem dX12_isDigit_11 : decode mX12_isDigit.2.1 11 = .ok (.aload_n 0, 1) := by decide +kernel
theorem dX12_isDigit_12 : decode mX12_isDigit.2.1 12 = .ok (.getfield 55, 3) := by decide +kernel
theorem dX12_isDigit_15 : decode mX12_isDigit.2.1 15 = .ok (.aload_n 0, 1) := by decide +kernel
theorem dX12_isDigit_16 : decode mX12_isDigit.2.1 16 = .ok (.getfield 162, 3) := by decide +kernel
theorem dX12_isDigit_19 : decode mX12_isDigit.2.1 19 = .ok (.iaload, 1) := by decide +kernel
theorem dX12_isDigit_20 : decode mX12_isDigit.2.1 20 = .ok (.i2l, 1) := by decide +kernel
theorem dX12_isDigit_21 : decode mX12_isDigit.2.1 21 = .ok (.ldc2_w 179, 3) := by decide +kernel
theorem dX12_isDigit_24 : decode mX12_isDigit.2.1 24 = .ok (.ldc2_w 181, 3) := by decide +kernel
theorem dX12_isDigit_27 : decode mX12_isDigit.2.1 27 = .ok (.invokestatic 143, 3) := by decide +kernel
theorem dX12_isDigit_30 : decode mX12_isDigit.2.1 30 = .ok (.ifCond .eq 7, 3) := by decide +kernel
theorem dX12_isDigit_33 : decode mX12_isDigit.2.1 33 = .ok (.iconst 1, 1) := by decide +kernel
theorem dX12_isDigit_34 : decode mX12_isDigit.2.1 34 = .ok (.goto 4, 3) := by decide +kernel
theorem dX12_isDigit_37 : decode mX12_isDigit.2.1 37 = .ok (.iconst 0, 1) := by decide +kernel
theorem dX12_isDigit_38 : decode mX12_isDigit.2.1 38 = .ok (.ireturn, 1) := by decide +kernel
theorem dX12_among_0 : decode mX12_among.2.1 0 = .ok (.iconst 0, 1) := by decide +kernel
theorem dX12_among_1 : decode mX12_among.2.1 1 = .ok (.istore_n 2, 1) := by decide +kernel
theorem dX12_among_2 : decode mX12_among.2.1 2 = .ok (.iload_n 2, 1) := by decide +kernel
theorem dX12_among_3 : decode mX12_among.2.1 3 = .ok (.aload_n 1, 1) := by decide +kernel
theorem dX12_among_4 : decode mX12_among.2.1 4 = .ok (.invokevirtual 183, 3) := by decide +kernel
theorem dX12_among_7 : decode mX12_among.2.1 7 = .ok (.if_icmp .ge 39, 3) := by decide +kernel
theorem dX12_among_10 : decode mX12_among.2.1 10 = .ok (.aload_n 0, 1) := by decide +kernel
theorem dX12_among_11 : decode mX12_among.2.1 11 = .ok (.getfield 162, 3) := by decide +kernel
theorem dX12_among_14 : decode mX12_among.2.1 14 = .ok (.aload_n 0, 1) := by decide +kernel
theorem dX12_among_15 : decode mX12_among.2.1 15 = .ok (.getfield 172, 3) := by decide +kernel
theorem dX12_among_18 : decode mX12_among.2.1 18 = .ok (.if_icmp .ge 28, 3) := by decide +kernel
theorem dX12_among_21 : decode mX12_among.2.1 21 = .ok (.aload_n 1, 1) := by decide +kernel
theorem dX12_among_22 : decode mX12_among.2.1 22 = .ok (.iload_n 2, 1) := by decide +kernel
theorem dX12_among_23 : decode mX12_among.2.1 23 = .ok (.invokevirtual 189, 3) := by decide +kernel
theorem dX12_among_26 : decode mX12_among.2.1 26 = .ok (.aload_n 0, 1) := by decide +kernel
theorem dX12_among_27 : decode mX12_among.2.1 27 = .ok (.getfield 55, 3) := by decide +kernel
theorem dX12_among_30 : decode mX12_among.2.1 30 = .ok (.aload_n 0, 1) := by decide +kernel
theorem dX12_among_31 : decode mX12_among.2.1 31 = .ok (.getfield 162, 3) := by decide +kernel
theorem dX12_among_34 : decode mX12_among.2.1 34 = .ok (.iaload, 1) := by decide +kernel
theorem dX12_among_35 : decode mX12_among.2.1 35 = .ok (.if_icmp .ne 5, 3) := by decide +kernel
theorem dX12_among_38 : decode mX12_among.2.1 38 = .ok (.iload_n 2, 1) := by decide +kernel
theorem dX12_among_39 : decode mX12_among.2.1 39 = .ok (.ireturn, 1) := by decide +kernel
theorem dX12_among_40 : decode mX12_among.2.1 40 = .ok (.iinc 2 1, 3) := by decide +kernel
theorem dX12_among_43 : decode mX12_among.2.1 43 = .ok (.goto (-41), 3) := by decide +kernel
theorem dX12_among_46 : decode mX12_among.2.1 46 = .ok (.iconst (-1), 1) := by decide +kernel
theorem dX12_among_47 : decode mX12_among.2.1 47 = .ok (.ireturn, 1) := by decide +kernel
theorem dX12_takesOf_0 : decode mX12_takesOf.2.1 0 = .ok (.aload_n 0, 1) := by decide +kernel
theorem dX12_takesOf_1 : decode mX12_takesOf.2.1 1 = .ok (.aload_n 1, 1) := by decide +kernel
theorem dX12_takesOf_2 : decode mX12_takesOf.2.1 2 = .ok (.invokevirtual 193, 3) := by decide +kernel
theorem dX12_takesOf_5 : decode mX12_takesOf.2.1 5 = .ok (.istore_n 2, 1) := by decide +kernel
theorem dX12_takesOf_6 : decode mX12_takesOf.2.1 6 = .ok (.aload_n 0, 1) := by decide +kernel
theorem dX12_takesOf_7 : decode mX12_takesOf.2.1 7 = .ok (.dup, 1) := by decide +kernel
theorem dX12_takesOf_8 : decode mX12_takesOf.2.1 8 = .ok (.getfield 162, 3) := by decide +kernel
theorem dX12_takesOf_11 : decode mX12_takesOf.2.1 11 = .ok (.iload_n 2, 1) := by decide +kernel
theorem dX12_takesOf_12 : decode mX12_takesOf.2.1 12 = .ok (.ifCond .lt 7, 3) := by decide +kernel
theorem dX12_takesOf_15 : decode mX12_takesOf.2.1 15 = .ok (.iconst 1, 1) := by decide +kernel
theorem dX12_takesOf_16 : decode mX12_takesOf.2.1 16 = .ok (.goto 4, 3) := by decide +kernel
theorem dX12_takesOf_19 : decode mX12_takesOf.2.1 19 = .ok (.iconst 0, 1) := by decide +kernel
theorem dX12_takesOf_20 : decode mX12_takesOf.2.1 20 = .ok (.invokestatic 175, 3) := by decide +kernel
theorem dX12_takesOf_23 : decode mX12_takesOf.2.1 23 = .ok (.iadd, 1) := by decide +kernel
theorem dX12_takesOf_24 : decode mX12_takesOf.2.1 24 = .ok (.putfield 162, 3) := by decide +kernel
theorem dX12_takesOf_27 : decode mX12_takesOf.2.1 27 = .ok (.iload_n 2, 1) := by decide +kernel
theorem dX12_takesOf_28 : decode mX12_takesOf.2.1 28 = .ok (.ireturn, 1) := by decide +kernel
theorem dX12_number_0 : decode mX12_number.2.1 0 = .ok (.aload_n 0, 1) := by decide +kernel
theorem dX12_number_1 : decode mX12_number.2.1 1 = .ok (.invokevirtual 197, 3) := by decide +kernel
theorem dX12_number_4 : decode mX12_number.2.1 4 = .ok (.ifCond .ne 5, 3) := by decide +kernel
theorem dX12_number_7 : decode mX12_number.2.1 7 = .ok (.iconst (-1), 1) := by decide +kernel
theorem dX12_number_8 : decode mX12_number.2.1 8 = .ok (.ireturn, 1) := by decide +kernel
theorem dX12_number_9 : decode mX12_number.2.1 9 = .ok (.iconst 0, 1) := by decide +kernel
theorem dX12_number_10 : decode mX12_number.2.1 10 = .ok (.istore_n 2, 1) := by decide +kernel
theorem dX12_number_11 : decode mX12_number.2.1 11 = .ok (.iconst 0, 1) := by decide +kernel
theorem dX12_number_12 : decode mX12_number.2.1 12 = .ok (.istore_n 3, 1) := by decide +kernel
theorem dX12_number_13 : decode mX12_number.2.1 13 = .ok (.iload_n 3, 1) := by decide +kernel
theorem dX12_number_14 : decode mX12_number.2.1 14 = .ok (.iload_n 1, 1) := by decide +kernel
theorem dX12_number_15 : decode mX12_number.2.1 15 = .ok (.if_icmp .ge 44, 3) := by decide +kernel
theorem dX12_number_18 : decode mX12_number.2.1 18 = .ok (.aload_n 0, 1) := by decide +kernel
theorem dX12_number_19 : decode mX12_number.2.1 19 = .ok (.invokevirtual 197, 3) := by decide +kernel
theorem dX12_number_22 : decode mX12_number.2.1 22 = .ok (.ifCond .eq 37, 3) := by decide +kernel
theorem dX12_number_25 : decode mX12_number.2.1 25 = .ok (.bipush 10, 2) := by decide +kernel
theorem dX12_number_27 : decode mX12_number.2.1 27 = .ok (.iload_n 2, 1) := by decide +kernel
theorem dX12_number_28 : decode mX12_number.2.1 28 = .ok (.imul, 1) := by decide +kernel
theorem dX12_number_29 : decode mX12_number.2.1 29 = .ok (.aload_n 0, 1) := by decide +kernel
theorem dX12_number_30 : decode mX12_number.2.1 30 = .ok (.getfield 55, 3) := by decide +kernel
theorem dX12_number_33 : decode mX12_number.2.1 33 = .ok (.aload_n 0, 1) := by decide +kernel
theorem dX12_number_34 : decode mX12_number.2.1 34 = .ok (.getfield 162, 3) := by decide +kernel
theorem dX12_number_37 : decode mX12_number.2.1 37 = .ok (.iaload, 1) := by decide +kernel
theorem dX12_number_38 : decode mX12_number.2.1 38 = .ok (.iadd, 1) := by decide +kernel
theorem dX12_number_39 : decode mX12_number.2.1 39 = .ok (.bipush 48, 2) := by decide +kernel
theorem dX12_number_41 : decode mX12_number.2.1 41 = .ok (.isub, 1) := by decide +kernel
theorem dX12_number_42 : decode mX12_number.2.1 42 = .ok (.istore_n 2, 1) := by decide +kernel
theorem dX12_number_43 : decode mX12_number.2.1 43 = .ok (.aload_n 0, 1) := by decide +kernel
theorem dX12_number_44 : decode mX12_number.2.1 44 = .ok (.dup, 1) := by decide +kernel
theorem dX12_number_45 : decode mX12_number.2.1 45 = .ok (.getfield 162, 3) := by decide +kernel
theorem dX12_number_48 : decode mX12_number.2.1 48 = .ok (.iconst 1, 1) := by decide +kernel
theorem dX12_number_49 : decode mX12_number.2.1 49 = .ok (.iadd, 1) := by decide +kernel
theorem dX12_number_50 : decode mX12_number.2.1 50 = .ok (.putfield 162, 3) := by decide +kernel
theorem dX12_number_53 : decode mX12_number.2.1 53 = .ok (.iinc 3 1, 3) := by decide +kernel
theorem dX12_number_56 : decode mX12_number.2.1 56 = .ok (.goto (-43), 3) := by decide +kernel
theorem dX12_number_59 : decode mX12_number.2.1 59 = .ok (.iload_n 2, 1) := by decide +kernel
theorem dX12_number_60 : decode mX12_number.2.1 60 = .ok (.ireturn, 1) := by decide +kernel
theorem dX12_digitIn_0 : decode mX12_digitIn.2.1 0 = .ok (.aload_n 0, 1) := by decide +kernel
theorem dX12_digitIn_1 : decode mX12_digitIn.2.1 1 = .ok (.getfield 162, 3) := by decide +kernel
theorem dX12_digitIn_4 : decode mX12_digitIn.2.1 4 = .ok (.aload_n 0, 1) := by decide +kernel
theorem dX12_digitIn_5 : decode mX12_digitIn.2.1 5 = .ok (.getfield 172, 3) := by decide +kernel
theorem dX12_digitIn_8 : decode mX12_digitIn.2.1 8 = .ok (.if_icmp .ge 26, 3) := by decide +kernel
theorem dX12_digitIn_11 : decode mX12_digitIn.2.1 11 = .ok (.aload_n 0, 1) := by decide +kernel
theorem dX12_digitIn_12 : decode mX12_digitIn.2.1 12 = .ok (.getfield 55, 3) := by decide +kernel
theorem dX12_digitIn_15 : decode mX12_digitIn.2.1 15 = .ok (.aload_n 0, 1) := by decide +kernel
theorem dX12_digitIn_16 : decode mX12_digitIn.2.1 16 = .ok (.getfield 162, 3) := by decide +kernel
theorem dX12_digitIn_19 : decode mX12_digitIn.2.1 19 = .ok (.iaload, 1) := by decide +kernel
theorem dX12_digitIn_20 : decode mX12_digitIn.2.1 20 = .ok (.bipush 48, 2) := by decide +kernel
theorem dX12_digitIn_22 : decode mX12_digitIn.2.1 22 = .ok (.isub, 1) := by decide +kernel
theorem dX12_digitIn_23 : decode mX12_digitIn.2.1 23 = .ok (.i2l, 1) := by decide +kernel
theorem dX12_digitIn_24 : decode mX12_digitIn.2.1 24 = .ok (.iload_n 1, 1) := by decide +kernel
theorem dX12_digitIn_25 : decode mX12_digitIn.2.1 25 = .ok (.i2l, 1) := by decide +kernel
theorem dX12_digitIn_26 : decode mX12_digitIn.2.1 26 = .ok (.iload_n 2, 1) := by decide +kernel
theorem dX12_digitIn_27 : decode mX12_digitIn.2.1 27 = .ok (.i2l, 1) := by decide +kernel
theorem dX12_digitIn_28 : decode mX12_digitIn.2.1 28 = .ok (.invokestatic 143, 3) := by decide +kernel
theorem dX12_digitIn_31 : decode mX12_digitIn.2.1 31 = .ok (.ifCond .ne 5, 3) := by decide +kernel
theorem dX12_digitIn_34 : decode mX12_digitIn.2.1 34 = .ok (.iconst (-1), 1) := by decide +kernel
theorem dX12_digitIn_35 : decode mX12_digitIn.2.1 35 = .ok (.ireturn, 1) := by decide +kernel
theorem dX12_digitIn_36 : decode mX12_digitIn.2.1 36 = .ok (.aload_n 0, 1) := by decide +kernel
theorem dX12_digitIn_37 : decode mX12_digitIn.2.1 37 = .ok (.dup, 1) := by decide +kernel
theorem dX12_digitIn_38 : decode mX12_digitIn.2.1 38 = .ok (.getfield 162, 3) := by decide +kernel
theorem dX12_digitIn_41 : decode mX12_digitIn.2.1 41 = .ok (.iconst 1, 1) := by decide +kernel
theorem dX12_digitIn_42 : decode mX12_digitIn.2.1 42 = .ok (.iadd, 1) := by decide +kernel
theorem dX12_digitIn_43 : decode mX12_digitIn.2.1 43 = .ok (.putfield 162, 3) := by decide +kernel
theorem dX12_digitIn_46 : decode mX12_digitIn.2.1 46 = .ok (.aload_n 0, 1) := by decide +kernel
theorem dX12_digitIn_47 : decode mX12_digitIn.2.1 47 = .ok (.getfield 55, 3) := by decide +kernel
theorem dX12_digitIn_50 : decode mX12_digitIn.2.1 50 = .ok (.aload_n 0, 1) := by decide +kernel
theorem dX12_digitIn_51 : decode mX12_digitIn.2.1 51 = .ok (.getfield 162, 3) := by decide +kernel
theorem dX12_digitIn_54 : decode mX12_digitIn.2.1 54 = .ok (.iconst 1, 1) := by decide +kernel
theorem dX12_digitIn_55 : decode mX12_digitIn.2.1 55 = .ok (.isub, 1) := by decide +kernel
theorem dX12_digitIn_56 : decode mX12_digitIn.2.1 56 = .ok (.iaload, 1) := by decide +kernel
theorem dX12_digitIn_57 : decode mX12_digitIn.2.1 57 = .ok (.bipush 48, 2) := by decide +kernel
theorem dX12_digitIn_59 : decode mX12_digitIn.2.1 59 = .ok (.isub, 1) := by decide +kernel
theorem dX12_digitIn_60 : decode mX12_digitIn.2.1 60 = .ok (.ireturn, 1) := by decide +kernel
theorem dX12_letters_0 : decode mX12_letters.2.1 0 = .ok (.iconst 0, 1) := by decide +kernel
theorem dX12_letters_1 : decode mX12_letters.2.1 1 = .ok (.istore_n 1, 1) := by decide +kernel
theorem dX12_letters_2 : decode mX12_letters.2.1 2 = .ok (.aload_n 0, 1) := by decide +kernel
theorem dX12_letters_3 : decode mX12_letters.2.1 3 = .ok (.ldc 201, 2) := by decide +kernel
theorem dX12_letters_5 : decode mX12_letters.2.1 5 = .ok (.invokevirtual 193, 3) := by decide +kernel
theorem dX12_letters_8 : decode mX12_letters.2.1 8 = .ok (.ifCond .lt 28, 3) := by decide +kernel
theorem dX12_letters_11 : decode mX12_letters.2.1 11 = .ok (.iload_n 1, 1) := by decide +kernel
theorem dX12_letters_12 : decode mX12_letters.2.1 12 = .ok (.aload_n 0, 1) := by decide +kernel
theorem dX12_letters_13 : decode mX12_letters.2.1 13 = .ok (.ldc 201, 2) := by decide +kernel
theorem dX12_letters_15 : decode mX12_letters.2.1 15 = .ok (.invokevirtual 193, 3) := by decide +kernel
theorem dX12_letters_18 : decode mX12_letters.2.1 18 = .ok (.ishr, 1) := by decide +kernel
theorem dX12_letters_19 : decode mX12_letters.2.1 19 = .ok (.ifCond .ne 17, 3) := by decide +kernel
theorem dX12_letters_22 : decode mX12_letters.2.1 22 = .ok (.iload_n 1, 1) := by decide +kernel
theorem dX12_letters_23 : decode mX12_letters.2.1 23 = .ok (.iconst 1, 1) := by decide +kernel
theorem dX12_letters_24 : decode mX12_letters.2.1 24 = .ok (.aload_n 0, 1) := by decide +kernel
theorem dX12_letters_25 : decode mX12_letters.2.1 25 = .ok (.ldc 201, 2) := by decide +kernel
theorem dX12_letters_27 : decode mX12_letters.2.1 27 = .ok (.invokevirtual 203, 3) := by decide +kernel
theorem dX12_letters_30 : decode mX12_letters.2.1 30 = .ok (.ishl, 1) := by decide +kernel
theorem dX12_letters_31 : decode mX12_letters.2.1 31 = .ok (.ior, 1) := by decide +kernel
theorem dX12_letters_32 : decode mX12_letters.2.1 32 = .ok (.istore_n 1, 1) := by decide +kernel
theorem dX12_letters_33 : decode mX12_letters.2.1 33 = .ok (.goto (-31), 3) := by decide +kernel
theorem dX12_letters_36 : decode mX12_letters.2.1 36 = .ok (.iload_n 1, 1) := by decide +kernel
theorem dX12_letters_37 : decode mX12_letters.2.1 37 = .ok (.ireturn, 1) := by decide +kernel
theorem dX12_faultOf_0 : decode mX12_faultOf.2.1 0 = .ok (.iload_n 3, 1) := by decide +kernel
theorem dX12_faultOf_1 : decode mX12_faultOf.2.1 1 = .ok (.ifCond .eq 18, 3) := by decide +kernel
theorem dX12_faultOf_4 : decode mX12_faultOf.2.1 4 = .ok (.aload_n 0, 1) := by decide +kernel
theorem dX12_faultOf_5 : decode mX12_faultOf.2.1 5 = .ok (.getfield 162, 3) := by decide +kernel
theorem dX12_faultOf_8 : decode mX12_faultOf.2.1 8 = .ok (.aload_n 0, 1) := by decide +kernel
theorem dX12_faultOf_9 : decode mX12_faultOf.2.1 9 = .ok (.getfield 172, 3) := by decide +kernel
theorem dX12_faultOf_12 : decode mX12_faultOf.2.1 12 = .ok (.if_icmp .ne 7, 3) := by decide +kernel
theorem dX12_faultOf_15 : decode mX12_faultOf.2.1 15 = .ok (.iconst 1, 1) := by decide +kernel
theorem dX12_faultOf_16 : decode mX12_faultOf.2.1 16 = .ok (.goto 4, 3) := by decide +kernel
theorem dX12_faultOf_19 : decode mX12_faultOf.2.1 19 = .ok (.iconst 0, 1) := by decide +kernel
theorem dX12_faultOf_20 : decode mX12_faultOf.2.1 20 = .ok (.istore 4, 2) := by decide +kernel
theorem dX12_faultOf_22 : decode mX12_faultOf.2.1 22 = .ok (.iload_n 1, 1) := by decide +kernel
theorem dX12_faultOf_23 : decode mX12_faultOf.2.1 23 = .ok (.iload_n 2, 1) := by decide +kernel
theorem dX12_faultOf_24 : decode mX12_faultOf.2.1 24 = .ok (.if_icmp .le 20, 3) := by decide +kernel
theorem dX12_faultOf_27 : decode mX12_faultOf.2.1 27 = .ok (.iload 4, 2) := by decide +kernel
theorem dX12_faultOf_29 : decode mX12_faultOf.2.1 29 = .ok (.ifCond .ne 11, 3) := by decide +kernel
theorem dX12_faultOf_32 : decode mX12_faultOf.2.1 32 = .ok (.aload_n 0, 1) := by decide +kernel
theorem dX12_faultOf_33 : decode mX12_faultOf.2.1 33 = .ok (.getfield 162, 3) := by decide +kernel
theorem dX12_faultOf_36 : decode mX12_faultOf.2.1 36 = .ok (.iload_n 2, 1) := by decide +kernel
theorem dX12_faultOf_37 : decode mX12_faultOf.2.1 37 = .ok (.if_icmp .lt 7, 3) := by decide +kernel
theorem dX12_faultOf_40 : decode mX12_faultOf.2.1 40 = .ok (.iconst (-1), 1) := by decide +kernel
theorem dX12_faultOf_41 : decode mX12_faultOf.2.1 41 = .ok (.iload_n 2, 1) := by decide +kernel
theorem dX12_faultOf_42 : decode mX12_faultOf.2.1 42 = .ok (.isub, 1) := by decide +kernel
theorem dX12_faultOf_43 : decode mX12_faultOf.2.1 43 = .ok (.ireturn, 1) := by decide +kernel
theorem dX12_faultOf_44 : decode mX12_faultOf.2.1 44 = .ok (.iload 4, 2) := by decide +kernel
theorem dX12_faultOf_46 : decode mX12_faultOf.2.1 46 = .ok (.ifCond .eq 7, 3) := by decide +kernel
theorem dX12_faultOf_49 : decode mX12_faultOf.2.1 49 = .ok (.iconst 0, 1) := by decide +kernel
theorem dX12_faultOf_50 : decode mX12_faultOf.2.1 50 = .ok (.goto 9, 3) := by decide +kernel
theorem dX12_faultOf_53 : decode mX12_faultOf.2.1 53 = .ok (.iconst (-1), 1) := by decide +kernel
theorem dX12_faultOf_54 : decode mX12_faultOf.2.1 54 = .ok (.aload_n 0, 1) := by decide +kernel
theorem dX12_faultOf_55 : decode mX12_faultOf.2.1 55 = .ok (.getfield 162, 3) := by decide +kernel
theorem dX12_faultOf_58 : decode mX12_faultOf.2.1 58 = .ok (.isub, 1) := by decide +kernel
theorem dX12_faultOf_59 : decode mX12_faultOf.2.1 59 = .ok (.ireturn, 1) := by decide +kernel
theorem dX12_square_0 : decode mX12_square.2.1 0 = .ok (.aload_n 0, 1) := by decide +kernel
theorem dX12_square_1 : decode mX12_square.2.1 1 = .ok (.iconst 0, 1) := by decide +kernel
theorem dX12_square_2 : decode mX12_square.2.1 2 = .ok (.putfield 3, 3) := by decide +kernel
theorem dX12_square_5 : decode mX12_square.2.1 5 = .ok (.aload_n 0, 1) := by decide +kernel
theorem dX12_square_6 : decode mX12_square.2.1 6 = .ok (.bipush 80, 2) := by decide +kernel
theorem dX12_square_8 : decode mX12_square.2.1 8 = .ok (.invokevirtual 206, 3) := by decide +kernel
theorem dX12_square_11 : decode mX12_square.2.1 11 = .ok (.pop, 1) := by decide +kernel
theorem dX12_square_12 : decode mX12_square.2.1 12 = .ok (.aload_n 0, 1) := by decide +kernel
theorem dX12_square_13 : decode mX12_square.2.1 13 = .ok (.iconst 1, 1) := by decide +kernel
theorem dX12_square_14 : decode mX12_square.2.1 14 = .ok (.bipush 6, 2) := by decide +kernel
theorem dX12_square_16 : decode mX12_square.2.1 16 = .ok (.invokevirtual 209, 3) := by decide +kernel
theorem dX12_square_19 : decode mX12_square.2.1 19 = .ok (.istore_n 1, 1) := by decide +kernel
theorem dX12_square_20 : decode mX12_square.2.1 20 = .ok (.iload_n 1, 1) := by decide +kernel
theorem dX12_square_21 : decode mX12_square.2.1 21 = .ok (.ifCond .ge 7, 3) := by decide +kernel
theorem dX12_square_24 : decode mX12_square.2.1 24 = .ok (.iconst (-1), 1) := by decide +kernel
theorem dX12_square_25 : decode mX12_square.2.1 25 = .ok (.goto 10, 3) := by decide +kernel
theorem dX12_square_28 : decode mX12_square.2.1 28 = .ok (.aload_n 0, 1) := by decide +kernel
theorem dX12_square_29 : decode mX12_square.2.1 29 = .ok (.iconst 1, 1) := by decide +kernel
theorem dX12_square_30 : decode mX12_square.2.1 30 = .ok (.bipush 6, 2) := by decide +kernel
theorem dX12_square_32 : decode mX12_square.2.1 32 = .ok (.invokevirtual 209, 3) := by decide +kernel
theorem dX12_square_35 : decode mX12_square.2.1 35 = .ok (.istore_n 2, 1) := by decide +kernel
theorem dX12_square_36 : decode mX12_square.2.1 36 = .ok (.iload_n 2, 1) := by decide +kernel
theorem dX12_square_37 : decode mX12_square.2.1 37 = .ok (.ifCond .lt 14, 3) := by decide +kernel
theorem dX12_square_40 : decode mX12_square.2.1 40 = .ok (.aload_n 0, 1) := by decide +kernel
theorem dX12_square_41 : decode mX12_square.2.1 41 = .ok (.getfield 162, 3) := by decide +kernel
theorem dX12_square_44 : decode mX12_square.2.1 44 = .ok (.aload_n 0, 1) := by decide +kernel
theorem dX12_square_45 : decode mX12_square.2.1 45 = .ok (.getfield 172, 3) := by decide +kernel
theorem dX12_square_48 : decode mX12_square.2.1 48 = .ok (.if_icmp .ge 10, 3) := by decide +kernel
theorem dX12_square_51 : decode mX12_square.2.1 51 = .ok (.iconst (-1), 1) := by decide +kernel
theorem dX12_square_52 : decode mX12_square.2.1 52 = .ok (.aload_n 0, 1) := by decide +kernel
theorem dX12_square_53 : decode mX12_square.2.1 53 = .ok (.getfield 162, 3) := by decide +kernel
theorem dX12_square_56 : decode mX12_square.2.1 56 = .ok (.isub, 1) := by decide +kernel
theorem dX12_square_57 : decode mX12_square.2.1 57 = .ok (.ireturn, 1) := by decide +kernel
theorem dX12_square_58 : decode mX12_square.2.1 58 = .ok (.aload_n 0, 1) := by decide +kernel
theorem dX12_square_59 : decode mX12_square.2.1 59 = .ok (.iload_n 1, 1) := by decide +kernel
theorem dX12_square_60 : decode mX12_square.2.1 60 = .ok (.putfield 24, 3) := by decide +kernel
theorem dX12_square_63 : decode mX12_square.2.1 63 = .ok (.aload_n 0, 1) := by decide +kernel
theorem dX12_square_64 : decode mX12_square.2.1 64 = .ok (.iload_n 2, 1) := by decide +kernel
theorem dX12_square_65 : decode mX12_square.2.1 65 = .ok (.putfield 27, 3) := by decide +kernel
theorem dX12_square_68 : decode mX12_square.2.1 68 = .ok (.aload_n 0, 1) := by decide +kernel
theorem dX12_square_69 : decode mX12_square.2.1 69 = .ok (.iconst 0, 1) := by decide +kernel
theorem dX12_square_70 : decode mX12_square.2.1 70 = .ok (.putfield 140, 3) := by decide +kernel
theorem dX12_square_73 : decode mX12_square.2.1 73 = .ok (.aload_n 0, 1) := by decide +kernel
theorem dX12_square_74 : decode mX12_square.2.1 74 = .ok (.iconst 0, 1) := by decide +kernel
theorem dX12_square_75 : decode mX12_square.2.1 75 = .ok (.putfield 147, 3) := by decide +kernel
theorem dX12_square_78 : decode mX12_square.2.1 78 = .ok (.aload_n 0, 1) := by decide +kernel
theorem dX12_square_79 : decode mX12_square.2.1 79 = .ok (.iconst 0, 1) := by decide +kernel
theorem dX12_square_80 : decode mX12_square.2.1 80 = .ok (.putfield 150, 3) := by decide +kernel
theorem dX12_square_83 : decode mX12_square.2.1 83 = .ok (.aload_n 0, 1) := by decide +kernel
theorem dX12_square_84 : decode mX12_square.2.1 84 = .ok (.iconst 0, 1) := by decide +kernel
theorem dX12_square_85 : decode mX12_square.2.1 85 = .ok (.putfield 212, 3) := by decide +kernel
theorem dX12_square_88 : decode mX12_square.2.1 88 = .ok (.aload_n 0, 1) := by decide +kernel
theorem dX12_square_89 : decode mX12_square.2.1 89 = .ok (.iconst 0, 1) := by decide +kernel
theorem dX12_square_90 : decode mX12_square.2.1 90 = .ok (.putfield 215, 3) := by decide +kernel
theorem dX12_square_93 : decode mX12_square.2.1 93 = .ok (.aload_n 0, 1) := by decide +kernel
theorem dX12_square_94 : decode mX12_square.2.1 94 = .ok (.getfield 49, 3) := by decide +kernel
theorem dX12_square_97 : decode mX12_square.2.1 97 = .ok (.bipush 24, 2) := by decide +kernel
theorem dX12_square_99 : decode mX12_square.2.1 99 = .ok (.iconst 0, 1) := by decide +kernel
theorem dX12_square_100 : decode mX12_square.2.1 100 = .ok (.iastore, 1) := by decide +kernel
theorem dX12_square_101 : decode mX12_square.2.1 101 = .ok (.aload_n 0, 1) := by decide +kernel
theorem dX12_square_102 : decode mX12_square.2.1 102 = .ok (.getfield 49, 3) := by decide +kernel
theorem dX12_square_105 : decode mX12_square.2.1 105 = .ok (.bipush 25, 2) := by decide +kernel
theorem dX12_square_107 : decode mX12_square.2.1 107 = .ok (.iconst 0, 1) := by decide +kernel
theorem dX12_square_108 : decode mX12_square.2.1 108 = .ok (.iastore, 1) := by decide +kernel
theorem dX12_square_109 : decode mX12_square.2.1 109 = .ok (.iconst 0, 1) := by decide +kernel
theorem dX12_square_110 : decode mX12_square.2.1 110 = .ok (.istore_n 3, 1) := by decide +kernel
theorem dX12_square_111 : decode mX12_square.2.1 111 = .ok (.iload_n 3, 1) := by decide +kernel
theorem dX12_square_112 : decode mX12_square.2.1 112 = .ok (.iconst 3, 1) := by decide +kernel
theorem dX12_square_113 : decode mX12_square.2.1 113 = .ok (.if_icmp .ge 16, 3) := by decide +kernel
theorem dX12_square_116 : decode mX12_square.2.1 116 = .ok (.aload_n 0, 1) := by decide +kernel
theorem dX12_square_117 : decode mX12_square.2.1 117 = .ok (.getfield 131, 3) := by decide +kernel
theorem dX12_square_120 : decode mX12_square.2.1 120 = .ok (.iload_n 3, 1) := by decide +kernel
theorem dX12_square_121 : decode mX12_square.2.1 121 = .ok (.iconst 0, 1) := by decide +kernel
theorem dX12_square_122 : decode mX12_square.2.1 122 = .ok (.bastore, 1) := by decide +kernel
theorem dX12_square_123 : decode mX12_square.2.1 123 = .ok (.iinc 3 1, 3) := by decide +kernel
theorem dX12_square_126 : decode mX12_square.2.1 126 = .ok (.goto (-15), 3) := by decide +kernel
theorem dX12_square_129 : decode mX12_square.2.1 129 = .ok (.iload_n 1, 1) := by decide +kernel
theorem dX12_square_130 : decode mX12_square.2.1 130 = .ok (.iload_n 2, 1) := by decide +kernel
theorem dX12_square_131 : decode mX12_square.2.1 131 = .ok (.imul, 1) := by decide +kernel
theorem dX12_square_132 : decode mX12_square.2.1 132 = .ok (.ireturn, 1) := by decide +kernel
theorem dX12_readsField_0 : decode mX12_readsField.2.1 0 = .ok (.aload_n 0, 1) := by decide +kernel
theorem dX12_readsField_1 : decode mX12_readsField.2.1 1 = .ok (.iconst 0, 1) := by decide +kernel
theorem dX12_readsField_2 : decode mX12_readsField.2.1 2 = .ok (.aload_n 0, 1) := by decide +kernel
theorem dX12_readsField_3 : decode mX12_readsField.2.1 3 = .ok (.getfield 24, 3) := by decide +kernel
theorem dX12_readsField_6 : decode mX12_readsField.2.1 6 = .ok (.iconst 1, 1) := by decide +kernel
theorem dX12_readsField_7 : decode mX12_readsField.2.1 7 = .ok (.isub, 1) := by decide +kernel
theorem dX12_readsField_8 : decode mX12_readsField.2.1 8 = .ok (.invokevirtual 209, 3) := by decide +kernel
theorem dX12_readsField_11 : decode mX12_readsField.2.1 11 = .ok (.istore_n 1, 1) := by decide +kernel
theorem dX12_readsField_12 : decode mX12_readsField.2.1 12 = .ok (.iload_n 1, 1) := by decide +kernel
theorem dX12_readsField_13 : decode mX12_readsField.2.1 13 = .ok (.ifCond .ge 7, 3) := by decide +kernel
theorem dX12_readsField_16 : decode mX12_readsField.2.1 16 = .ok (.iconst (-1), 1) := by decide +kernel
theorem dX12_readsField_17 : decode mX12_readsField.2.1 17 = .ok (.goto 14, 3) := by decide +kernel
theorem dX12_readsField_20 : decode mX12_readsField.2.1 20 = .ok (.aload_n 0, 1) := by decide +kernel
theorem dX12_readsField_21 : decode mX12_readsField.2.1 21 = .ok (.iconst 0, 1) := by decide +kernel
theorem dX12_readsField_22 : decode mX12_readsField.2.1 22 = .ok (.aload_n 0, 1) := by decide +kernel
theorem dX12_readsField_23 : decode mX12_readsField.2.1 23 = .ok (.getfield 27, 3) := by decide +kernel
theorem dX12_readsField_26 : decode mX12_readsField.2.1 26 = .ok (.iconst 1, 1) := by decide +kernel
theorem dX12_readsField_27 : decode mX12_readsField.2.1 27 = .ok (.isub, 1) := by decide +kernel
theorem dX12_readsField_28 : decode mX12_readsField.2.1 28 = .ok (.invokevirtual 209, 3) := by decide +kernel
theorem dX12_readsField_31 : decode mX12_readsField.2.1 31 = .ok (.istore_n 2, 1) := by decide +kernel
theorem dX12_readsField_32 : decode mX12_readsField.2.1 32 = .ok (.iload_n 2, 1) := by decide +kernel
theorem dX12_readsField_33 : decode mX12_readsField.2.1 33 = .ok (.ifCond .ge 7, 3) := by decide +kernel
theorem dX12_readsField_36 : decode mX12_readsField.2.1 36 = .ok (.iconst (-1), 1) := by decide +kernel
theorem dX12_readsField_37 : decode mX12_readsField.2.1 37 = .ok (.goto 11, 3) := by decide +kernel
theorem dX12_readsField_40 : decode mX12_readsField.2.1 40 = .ok (.aload_n 0, 1) := by decide +kernel
theorem dX12_readsField_41 : decode mX12_readsField.2.1 41 = .ok (.getfield 27, 3) := by decide +kernel
theorem dX12_readsField_44 : decode mX12_readsField.2.1 44 = .ok (.iload_n 1, 1) := by decide +kernel
theorem dX12_readsField_45 : decode mX12_readsField.2.1 45 = .ok (.imul, 1) := by decide +kernel
theorem dX12_readsField_46 : decode mX12_readsField.2.1 46 = .ok (.iload_n 2, 1) := by decide +kernel
theorem dX12_readsField_47 : decode mX12_readsField.2.1 47 = .ok (.iadd, 1) := by decide +kernel
theorem dX12_readsField_48 : decode mX12_readsField.2.1 48 = .ok (.ireturn, 1) := by decide +kernel
theorem dX12_readsThing_0 : decode mX12_readsThing.2.1 0 = .ok (.aload_n 0, 1) := by decide +kernel
theorem dX12_readsThing_1 : decode mX12_readsThing.2.1 1 = .ok (.getfield 140, 3) := by decide +kernel
theorem dX12_readsThing_4 : decode mX12_readsThing.2.1 4 = .ok (.aload_n 0, 1) := by decide +kernel
theorem dX12_readsThing_5 : decode mX12_readsThing.2.1 5 = .ok (.getfield 218, 3) := by decide +kernel
theorem dX12_readsThing_8 : decode mX12_readsThing.2.1 8 = .ok (.iadd, 1) := by decide +kernel
theorem dX12_readsThing_9 : decode mX12_readsThing.2.1 9 = .ok (.bipush 8, 2) := by decide +kernel
theorem dX12_readsThing_11 : decode mX12_readsThing.2.1 11 = .ok (.if_icmp .ne 5, 3) := by decide +kernel
theorem dX12_readsThing_14 : decode mX12_readsThing.2.1 14 = .ok (.iconst 0, 1) := by decide +kernel
theorem dX12_readsThing_15 : decode mX12_readsThing.2.1 15 = .ok (.ireturn, 1) := by decide +kernel
theorem dX12_readsThing_16 : decode mX12_readsThing.2.1 16 = .ok (.iconst 4, 1) := by decide +kernel
theorem dX12_readsThing_17 : decode mX12_readsThing.2.1 17 = .ok (.aload_n 0, 1) := by decide +kernel
theorem dX12_readsThing_18 : decode mX12_readsThing.2.1 18 = .ok (.getfield 218, 3) := by decide +kernel
theorem dX12_readsThing_21 : decode mX12_readsThing.2.1 21 = .ok (.imul, 1) := by decide +kernel
theorem dX12_readsThing_22 : decode mX12_readsThing.2.1 22 = .ok (.istore_n 1, 1) := by decide +kernel
theorem dX12_readsThing_23 : decode mX12_readsThing.2.1 23 = .ok (.aload_n 0, 1) := by decide +kernel
theorem dX12_readsThing_24 : decode mX12_readsThing.2.1 24 = .ok (.getfield 58, 3) := by decide +kernel
theorem dX12_readsThing_27 : decode mX12_readsThing.2.1 27 = .ok (.iload_n 1, 1) := by decide +kernel
theorem dX12_readsThing_28 : decode mX12_readsThing.2.1 28 = .ok (.aload_n 0, 1) := by decide +kernel
theorem dX12_readsThing_29 : decode mX12_readsThing.2.1 29 = .ok (.ldc 201, 2) := by decide +kernel
theorem dX12_readsThing_31 : decode mX12_readsThing.2.1 31 = .ok (.invokevirtual 203, 3) := by decide +kernel
theorem dX12_readsThing_34 : decode mX12_readsThing.2.1 34 = .ok (.iastore, 1) := by decide +kernel
theorem dX12_readsThing_35 : decode mX12_readsThing.2.1 35 = .ok (.aload_n 0, 1) := by decide +kernel
theorem dX12_readsThing_36 : decode mX12_readsThing.2.1 36 = .ok (.getfield 58, 3) := by decide +kernel
theorem dX12_readsThing_39 : decode mX12_readsThing.2.1 39 = .ok (.iload_n 1, 1) := by decide +kernel
theorem dX12_readsThing_40 : decode mX12_readsThing.2.1 40 = .ok (.iconst 1, 1) := by decide +kernel
theorem dX12_readsThing_41 : decode mX12_readsThing.2.1 41 = .ok (.iadd, 1) := by decide +kernel
theorem dX12_readsThing_42 : decode mX12_readsThing.2.1 42 = .ok (.aload_n 0, 1) := by decide +kernel
theorem dX12_readsThing_43 : decode mX12_readsThing.2.1 43 = .ok (.getfield 58, 3) := by decide +kernel
theorem dX12_readsThing_46 : decode mX12_readsThing.2.1 46 = .ok (.iload_n 1, 1) := by decide +kernel
theorem dX12_readsThing_47 : decode mX12_readsThing.2.1 47 = .ok (.iaload, 1) := by decide +kernel
theorem dX12_readsThing_48 : decode mX12_readsThing.2.1 48 = .ok (.ifCond .ge 7, 3) := by decide +kernel
theorem dX12_readsThing_51 : decode mX12_readsThing.2.1 51 = .ok (.iconst (-1), 1) := by decide +kernel
theorem dX12_readsThing_52 : decode mX12_readsThing.2.1 52 = .ok (.goto 8, 3) := by decide +kernel
theorem dX12_readsThing_55 : decode mX12_readsThing.2.1 55 = .ok (.aload_n 0, 1) := by decide +kernel
theorem dX12_readsThing_56 : decode mX12_readsThing.2.1 56 = .ok (.iconst 1, 1) := by decide +kernel
theorem dX12_readsThing_57 : decode mX12_readsThing.2.1 57 = .ok (.invokevirtual 221, 3) := by decide +kernel
theorem dX12_readsThing_60 : decode mX12_readsThing.2.1 60 = .ok (.iastore, 1) := by decide +kernel
theorem dX12_readsThing_61 : decode mX12_readsThing.2.1 61 = .ok (.aload_n 0, 1) := by decide +kernel
theorem dX12_readsThing_62 : decode mX12_readsThing.2.1 62 = .ok (.getfield 58, 3) := by decide +kernel
theorem dX12_readsThing_65 : decode mX12_readsThing.2.1 65 = .ok (.iload_n 1, 1) := by decide +kernel
theorem dX12_readsThing_66 : decode mX12_readsThing.2.1 66 = .ok (.iconst 2, 1) := by decide +kernel
theorem dX12_readsThing_67 : decode mX12_readsThing.2.1 67 = .ok (.iadd, 1) := by decide +kernel
theorem dX12_readsThing_68 : decode mX12_readsThing.2.1 68 = .ok (.aload_n 0, 1) := by decide +kernel
theorem dX12_readsThing_69 : decode mX12_readsThing.2.1 69 = .ok (.getfield 58, 3) := by decide +kernel
theorem dX12_readsThing_72 : decode mX12_readsThing.2.1 72 = .ok (.iload_n 1, 1) := by decide +kernel
theorem dX12_readsThing_73 : decode mX12_readsThing.2.1 73 = .ok (.iconst 1, 1) := by decide +kernel
theorem dX12_readsThing_74 : decode mX12_readsThing.2.1 74 = .ok (.iadd, 1) := by decide +kernel
theorem dX12_readsThing_75 : decode mX12_readsThing.2.1 75 = .ok (.iaload, 1) := by decide +kernel
theorem dX12_readsThing_76 : decode mX12_readsThing.2.1 76 = .ok (.ifCond .ge 7, 3) := by decide +kernel
theorem dX12_readsThing_79 : decode mX12_readsThing.2.1 79 = .ok (.iconst (-1), 1) := by decide +kernel
theorem dX12_readsThing_80 : decode mX12_readsThing.2.1 80 = .ok (.goto 7, 3) := by decide +kernel
theorem dX12_readsThing_83 : decode mX12_readsThing.2.1 83 = .ok (.aload_n 0, 1) := by decide +kernel
theorem dX12_readsThing_84 : decode mX12_readsThing.2.1 84 = .ok (.invokevirtual 224, 3) := by decide +kernel
theorem dX12_readsThing_87 : decode mX12_readsThing.2.1 87 = .ok (.iastore, 1) := by decide +kernel
theorem dX12_readsThing_88 : decode mX12_readsThing.2.1 88 = .ok (.aload_n 0, 1) := by decide +kernel
theorem dX12_readsThing_89 : decode mX12_readsThing.2.1 89 = .ok (.getfield 58, 3) := by decide +kernel
theorem dX12_readsThing_92 : decode mX12_readsThing.2.1 92 = .ok (.iload_n 1, 1) := by decide +kernel
theorem dX12_readsThing_93 : decode mX12_readsThing.2.1 93 = .ok (.iconst 3, 1) := by decide +kernel
theorem dX12_readsThing_94 : decode mX12_readsThing.2.1 94 = .ok (.iadd, 1) := by decide +kernel
theorem dX12_readsThing_95 : decode mX12_readsThing.2.1 95 = .ok (.aload_n 0, 1) := by decide +kernel
theorem dX12_readsThing_96 : decode mX12_readsThing.2.1 96 = .ok (.getfield 58, 3) := by decide +kernel
theorem dX12_readsThing_99 : decode mX12_readsThing.2.1 99 = .ok (.iload_n 1, 1) := by decide +kernel
theorem dX12_readsThing_100 : decode mX12_readsThing.2.1 100 = .ok (.iconst 2, 1) := by decide +kernel
theorem dX12_readsThing_101 : decode mX12_readsThing.2.1 101 = .ok (.iadd, 1) := by decide +kernel
theorem dX12_readsThing_102 : decode mX12_readsThing.2.1 102 = .ok (.iaload, 1) := by decide +kernel
theorem dX12_readsThing_103 : decode mX12_readsThing.2.1 103 = .ok (.ifCond .ge 7, 3) := by decide +kernel
theorem dX12_readsThing_106 : decode mX12_readsThing.2.1 106 = .ok (.iconst (-1), 1) := by decide +kernel
theorem dX12_readsThing_107 : decode mX12_readsThing.2.1 107 = .ok (.goto 9, 3) := by decide +kernel
theorem dX12_readsThing_110 : decode mX12_readsThing.2.1 110 = .ok (.aload_n 0, 1) := by decide +kernel
theorem dX12_readsThing_111 : decode mX12_readsThing.2.1 111 = .ok (.ldc 227, 2) := by decide +kernel
theorem dX12_readsThing_113 : decode mX12_readsThing.2.1 113 = .ok (.invokevirtual 203, 3) := by decide +kernel
theorem dX12_readsThing_116 : decode mX12_readsThing.2.1 116 = .ok (.iastore, 1) := by decide +kernel
theorem dX12_readsThing_117 : decode mX12_readsThing.2.1 117 = .ok (.aload_n 0, 1) := by decide +kernel
theorem dX12_readsThing_118 : decode mX12_readsThing.2.1 118 = .ok (.dup, 1) := by decide +kernel
theorem dX12_readsThing_119 : decode mX12_readsThing.2.1 119 = .ok (.getfield 218, 3) := by decide +kernel
theorem dX12_readsThing_122 : decode mX12_readsThing.2.1 122 = .ok (.iconst 1, 1) := by decide +kernel
theorem dX12_readsThing_123 : decode mX12_readsThing.2.1 123 = .ok (.iadd, 1) := by decide +kernel
theorem dX12_readsThing_124 : decode mX12_readsThing.2.1 124 = .ok (.putfield 218, 3) := by decide +kernel
theorem dX12_readsThing_127 : decode mX12_readsThing.2.1 127 = .ok (.aload_n 0, 1) := by decide +kernel
theorem dX12_readsThing_128 : decode mX12_readsThing.2.1 128 = .ok (.getfield 58, 3) := by decide +kernel
theorem dX12_readsThing_131 : decode mX12_readsThing.2.1 131 = .ok (.iload_n 1, 1) := by decide +kernel
theorem dX12_readsThing_132 : decode mX12_readsThing.2.1 132 = .ok (.iconst 3, 1) := by decide +kernel
theorem dX12_readsThing_133 : decode mX12_readsThing.2.1 133 = .ok (.iadd, 1) := by decide +kernel
theorem dX12_readsThing_134 : decode mX12_readsThing.2.1 134 = .ok (.iaload, 1) := by decide +kernel
theorem dX12_readsThing_135 : decode mX12_readsThing.2.1 135 = .ok (.ifCond .lt 7, 3) := by decide +kernel
theorem dX12_readsThing_138 : decode mX12_readsThing.2.1 138 = .ok (.iconst 1, 1) := by decide +kernel
theorem dX12_readsThing_139 : decode mX12_readsThing.2.1 139 = .ok (.goto 4, 3) := by decide +kernel
theorem dX12_readsThing_142 : decode mX12_readsThing.2.1 142 = .ok (.iconst 0, 1) := by decide +kernel
theorem dX12_readsThing_143 : decode mX12_readsThing.2.1 143 = .ok (.ireturn, 1) := by decide +kernel
theorem dX12_readsPane_0 : decode mX12_readsPane.2.1 0 = .ok (.aload_n 0, 1) := by decide +kernel
theorem dX12_readsPane_1 : decode mX12_readsPane.2.1 1 = .ok (.getfield 147, 3) := by decide +kernel
theorem dX12_readsPane_4 : decode mX12_readsPane.2.1 4 = .ok (.aload_n 0, 1) := by decide +kernel
theorem dX12_readsPane_5 : decode mX12_readsPane.2.1 5 = .ok (.getfield 218, 3) := by decide +kernel
theorem dX12_readsPane_8 : decode mX12_readsPane.2.1 8 = .ok (.iadd, 1) := by decide +kernel
theorem dX12_readsPane_9 : decode mX12_readsPane.2.1 9 = .ok (.bipush 8, 2) := by decide +kernel
theorem dX12_readsPane_11 : decode mX12_readsPane.2.1 11 = .ok (.if_icmp .ne 5, 3) := by decide +kernel
theorem dX12_readsPane_14 : decode mX12_readsPane.2.1 14 = .ok (.iconst 0, 1) := by decide +kernel
theorem dX12_readsPane_15 : decode mX12_readsPane.2.1 15 = .ok (.ireturn, 1) := by decide +kernel
theorem dX12_readsPane_16 : decode mX12_readsPane.2.1 16 = .ok (.iconst 2, 1) := by decide +kernel
theorem dX12_readsPane_17 : decode mX12_readsPane.2.1 17 = .ok (.aload_n 0, 1) := by decide +kernel
theorem dX12_readsPane_18 : decode mX12_readsPane.2.1 18 = .ok (.getfield 218, 3) := by decide +kernel
theorem dX12_readsPane_21 : decode mX12_readsPane.2.1 21 = .ok (.imul, 1) := by decide +kernel
theorem dX12_readsPane_22 : decode mX12_readsPane.2.1 22 = .ok (.istore_n 1, 1) := by decide +kernel
theorem dX12_readsPane_23 : decode mX12_readsPane.2.1 23 = .ok (.aload_n 0, 1) := by decide +kernel
theorem dX12_readsPane_24 : decode mX12_readsPane.2.1 24 = .ok (.getfield 58, 3) := by decide +kernel
theorem dX12_readsPane_27 : decode mX12_readsPane.2.1 27 = .ok (.iload_n 1, 1) := by decide +kernel
theorem dX12_readsPane_28 : decode mX12_readsPane.2.1 28 = .ok (.aload_n 0, 1) := by decide +kernel
theorem dX12_readsPane_29 : decode mX12_readsPane.2.1 29 = .ok (.iconst 1, 1) := by decide +kernel
theorem dX12_readsPane_30 : decode mX12_readsPane.2.1 30 = .ok (.invokevirtual 221, 3) := by decide +kernel
theorem dX12_readsPane_33 : decode mX12_readsPane.2.1 33 = .ok (.iastore, 1) := by decide +kernel
theorem dX12_readsPane_34 : decode mX12_readsPane.2.1 34 = .ok (.aload_n 0, 1) := by decide +kernel
theorem dX12_readsPane_35 : decode mX12_readsPane.2.1 35 = .ok (.getfield 58, 3) := by decide +kernel
theorem dX12_readsPane_38 : decode mX12_readsPane.2.1 38 = .ok (.iload_n 1, 1) := by decide +kernel
theorem dX12_readsPane_39 : decode mX12_readsPane.2.1 39 = .ok (.iconst 1, 1) := by decide +kernel
theorem dX12_readsPane_40 : decode mX12_readsPane.2.1 40 = .ok (.iadd, 1) := by decide +kernel
theorem dX12_readsPane_41 : decode mX12_readsPane.2.1 41 = .ok (.aload_n 0, 1) := by decide +kernel
theorem dX12_readsPane_42 : decode mX12_readsPane.2.1 42 = .ok (.getfield 58, 3) := by decide +kernel
theorem dX12_readsPane_45 : decode mX12_readsPane.2.1 45 = .ok (.iload_n 1, 1) := by decide +kernel
theorem dX12_readsPane_46 : decode mX12_readsPane.2.1 46 = .ok (.iaload, 1) := by decide +kernel
theorem dX12_readsPane_47 : decode mX12_readsPane.2.1 47 = .ok (.ifCond .ge 7, 3) := by decide +kernel
theorem dX12_readsPane_50 : decode mX12_readsPane.2.1 50 = .ok (.iconst 0, 1) := by decide +kernel
theorem dX12_readsPane_51 : decode mX12_readsPane.2.1 51 = .ok (.goto 7, 3) := by decide +kernel
theorem dX12_readsPane_54 : decode mX12_readsPane.2.1 54 = .ok (.aload_n 0, 1) := by decide +kernel
theorem dX12_readsPane_55 : decode mX12_readsPane.2.1 55 = .ok (.invokevirtual 229, 3) := by decide +kernel
theorem dX12_readsPane_58 : decode mX12_readsPane.2.1 58 = .ok (.iastore, 1) := by decide +kernel
theorem dX12_readsPane_59 : decode mX12_readsPane.2.1 59 = .ok (.aload_n 0, 1) := by decide +kernel
theorem dX12_readsPane_60 : decode mX12_readsPane.2.1 60 = .ok (.dup, 1) := by decide +kernel
theorem dX12_readsPane_61 : decode mX12_readsPane.2.1 61 = .ok (.getfield 218, 3) := by decide +kernel
theorem dX12_readsPane_64 : decode mX12_readsPane.2.1 64 = .ok (.iconst 1, 1) := by decide +kernel
theorem dX12_readsPane_65 : decode mX12_readsPane.2.1 65 = .ok (.iadd, 1) := by decide +kernel
theorem dX12_readsPane_66 : decode mX12_readsPane.2.1 66 = .ok (.putfield 218, 3) := by decide +kernel
theorem dX12_readsPane_69 : decode mX12_readsPane.2.1 69 = .ok (.aload_n 0, 1) := by decide +kernel
theorem dX12_readsPane_70 : decode mX12_readsPane.2.1 70 = .ok (.getfield 58, 3) := by decide +kernel
theorem dX12_readsPane_73 : decode mX12_readsPane.2.1 73 = .ok (.iload_n 1, 1) := by decide +kernel
theorem dX12_readsPane_74 : decode mX12_readsPane.2.1 74 = .ok (.iaload, 1) := by decide +kernel
theorem dX12_readsPane_75 : decode mX12_readsPane.2.1 75 = .ok (.ifCond .lt 7, 3) := by decide +kernel
theorem dX12_readsPane_78 : decode mX12_readsPane.2.1 78 = .ok (.iconst 1, 1) := by decide +kernel
theorem dX12_readsPane_79 : decode mX12_readsPane.2.1 79 = .ok (.goto 4, 3) := by decide +kernel
theorem dX12_readsPane_82 : decode mX12_readsPane.2.1 82 = .ok (.iconst 0, 1) := by decide +kernel
theorem dX12_readsPane_83 : decode mX12_readsPane.2.1 83 = .ok (.ireturn, 1) := by decide +kernel
theorem dX12_readsRoom_0 : decode mX12_readsRoom.2.1 0 = .ok (.aload_n 0, 1) := by decide +kernel
theorem dX12_readsRoom_1 : decode mX12_readsRoom.2.1 1 = .ok (.getfield 150, 3) := by decide +kernel
theorem dX12_readsRoom_4 : decode mX12_readsRoom.2.1 4 = .ok (.aload_n 0, 1) := by decide +kernel
theorem dX12_readsRoom_5 : decode mX12_readsRoom.2.1 5 = .ok (.getfield 218, 3) := by decide +kernel
theorem dX12_readsRoom_8 : decode mX12_readsRoom.2.1 8 = .ok (.iadd, 1) := by decide +kernel
theorem dX12_readsRoom_9 : decode mX12_readsRoom.2.1 9 = .ok (.iconst 4, 1) := by decide +kernel
theorem dX12_readsRoom_10 : decode mX12_readsRoom.2.1 10 = .ok (.if_icmp .ne 5, 3) := by decide +kernel
theorem dX12_readsRoom_13 : decode mX12_readsRoom.2.1 13 = .ok (.iconst 0, 1) := by decide +kernel
theorem dX12_readsRoom_14 : decode mX12_readsRoom.2.1 14 = .ok (.ireturn, 1) := by decide +kernel
theorem dX12_readsRoom_15 : decode mX12_readsRoom.2.1 15 = .ok (.iconst 2, 1) := by decide +kernel
theorem dX12_readsRoom_16 : decode mX12_readsRoom.2.1 16 = .ok (.aload_n 0, 1) := by decide +kernel
theorem dX12_readsRoom_17 : decode mX12_readsRoom.2.1 17 = .ok (.getfield 218, 3) := by decide +kernel
theorem dX12_readsRoom_20 : decode mX12_readsRoom.2.1 20 = .ok (.imul, 1) := by decide +kernel
theorem dX12_readsRoom_21 : decode mX12_readsRoom.2.1 21 = .ok (.istore_n 1, 1) := by decide +kernel
theorem dX12_readsRoom_22 : decode mX12_readsRoom.2.1 22 = .ok (.aload_n 0, 1) := by decide +kernel
theorem dX12_readsRoom_23 : decode mX12_readsRoom.2.1 23 = .ok (.getfield 58, 3) := by decide +kernel
theorem dX12_readsRoom_26 : decode mX12_readsRoom.2.1 26 = .ok (.iload_n 1, 1) := by decide +kernel
theorem dX12_readsRoom_27 : decode mX12_readsRoom.2.1 27 = .ok (.aload_n 0, 1) := by decide +kernel
theorem dX12_readsRoom_28 : decode mX12_readsRoom.2.1 28 = .ok (.invokevirtual 224, 3) := by decide +kernel
theorem dX12_readsRoom_31 : decode mX12_readsRoom.2.1 31 = .ok (.iastore, 1) := by decide +kernel
theorem dX12_readsRoom_32 : decode mX12_readsRoom.2.1 32 = .ok (.aload_n 0, 1) := by decide +kernel
theorem dX12_readsRoom_33 : decode mX12_readsRoom.2.1 33 = .ok (.getfield 58, 3) := by decide +kernel
theorem dX12_readsRoom_36 : decode mX12_readsRoom.2.1 36 = .ok (.iload_n 1, 1) := by decide +kernel
theorem dX12_readsRoom_37 : decode mX12_readsRoom.2.1 37 = .ok (.iconst 1, 1) := by decide +kernel
theorem dX12_readsRoom_38 : decode mX12_readsRoom.2.1 38 = .ok (.iadd, 1) := by decide +kernel
theorem dX12_readsRoom_39 : decode mX12_readsRoom.2.1 39 = .ok (.aload_n 0, 1) := by decide +kernel
theorem dX12_readsRoom_40 : decode mX12_readsRoom.2.1 40 = .ok (.getfield 58, 3) := by decide +kernel
theorem dX12_readsRoom_43 : decode mX12_readsRoom.2.1 43 = .ok (.iload_n 1, 1) := by decide +kernel
theorem dX12_readsRoom_44 : decode mX12_readsRoom.2.1 44 = .ok (.iaload, 1) := by decide +kernel
theorem dX12_readsRoom_45 : decode mX12_readsRoom.2.1 45 = .ok (.ifCond .ge 7, 3) := by decide +kernel
theorem dX12_readsRoom_48 : decode mX12_readsRoom.2.1 48 = .ok (.iconst (-1), 1) := by decide +kernel
theorem dX12_readsRoom_49 : decode mX12_readsRoom.2.1 49 = .ok (.goto 8, 3) := by decide +kernel
theorem dX12_readsRoom_52 : decode mX12_readsRoom.2.1 52 = .ok (.aload_n 0, 1) := by decide +kernel
theorem dX12_readsRoom_53 : decode mX12_readsRoom.2.1 53 = .ok (.iconst 1, 1) := by decide +kernel
theorem dX12_readsRoom_54 : decode mX12_readsRoom.2.1 54 = .ok (.invokevirtual 221, 3) := by decide +kernel
theorem dX12_readsRoom_57 : decode mX12_readsRoom.2.1 57 = .ok (.iastore, 1) := by decide +kernel
theorem dX12_readsRoom_58 : decode mX12_readsRoom.2.1 58 = .ok (.aload_n 0, 1) := by decide +kernel
theorem dX12_readsRoom_59 : decode mX12_readsRoom.2.1 59 = .ok (.dup, 1) := by decide +kernel
theorem dX12_readsRoom_60 : decode mX12_readsRoom.2.1 60 = .ok (.getfield 218, 3) := by decide +kernel
theorem dX12_readsRoom_63 : decode mX12_readsRoom.2.1 63 = .ok (.iconst 1, 1) := by decide +kernel
theorem dX12_readsRoom_64 : decode mX12_readsRoom.2.1 64 = .ok (.iadd, 1) := by decide +kernel
theorem dX12_readsRoom_65 : decode mX12_readsRoom.2.1 65 = .ok (.putfield 218, 3) := by decide +kernel
theorem dX12_readsRoom_68 : decode mX12_readsRoom.2.1 68 = .ok (.aload_n 0, 1) := by decide +kernel
theorem dX12_readsRoom_69 : decode mX12_readsRoom.2.1 69 = .ok (.getfield 58, 3) := by decide +kernel
theorem dX12_readsRoom_72 : decode mX12_readsRoom.2.1 72 = .ok (.iload_n 1, 1) := by decide +kernel
theorem dX12_readsRoom_73 : decode mX12_readsRoom.2.1 73 = .ok (.iconst 1, 1) := by decide +kernel
theorem dX12_readsRoom_74 : decode mX12_readsRoom.2.1 74 = .ok (.iadd, 1) := by decide +kernel
theorem dX12_readsRoom_75 : decode mX12_readsRoom.2.1 75 = .ok (.iaload, 1) := by decide +kernel
theorem dX12_readsRoom_76 : decode mX12_readsRoom.2.1 76 = .ok (.ifCond .lt 7, 3) := by decide +kernel
theorem dX12_readsRoom_79 : decode mX12_readsRoom.2.1 79 = .ok (.iconst 1, 1) := by decide +kernel
theorem dX12_readsRoom_80 : decode mX12_readsRoom.2.1 80 = .ok (.goto 4, 3) := by decide +kernel
theorem dX12_readsRoom_83 : decode mX12_readsRoom.2.1 83 = .ok (.iconst 0, 1) := by decide +kernel
theorem dX12_readsRoom_84 : decode mX12_readsRoom.2.1 84 = .ok (.ireturn, 1) := by decide +kernel
theorem dX12_readsLine_0 : decode mX12_readsLine.2.1 0 = .ok (.iload_n 1, 1) := by decide +kernel
theorem dX12_readsLine_1 : decode mX12_readsLine.2.1 1 = .ok (.ifCond .ne 10, 3) := by decide +kernel
theorem dX12_readsLine_4 : decode mX12_readsLine.2.1 4 = .ok (.aload_n 0, 1) := by decide +kernel
theorem dX12_readsLine_5 : decode mX12_readsLine.2.1 5 = .ok (.invokevirtual 232, 3) := by decide +kernel
theorem dX12_readsLine_8 : decode mX12_readsLine.2.1 8 = .ok (.goto 19, 3) := by decide +kernel
theorem dX12_readsLine_11 : decode mX12_readsLine.2.1 11 = .ok (.iload_n 1, 1) := by decide +kernel
theorem dX12_readsLine_12 : decode mX12_readsLine.2.1 12 = .ok (.iconst 1, 1) := by decide +kernel
theorem dX12_readsLine_13 : decode mX12_readsLine.2.1 13 = .ok (.if_icmp .ne 10, 3) := by decide +kernel
theorem dX12_readsLine_16 : decode mX12_readsLine.2.1 16 = .ok (.aload_n 0, 1) := by decide +kernel
theorem dX12_readsLine_17 : decode mX12_readsLine.2.1 17 = .ok (.invokevirtual 235, 3) := by decide +kernel
theorem dX12_readsLine_20 : decode mX12_readsLine.2.1 20 = .ok (.goto 7, 3) := by decide +kernel
theorem dX12_readsLine_23 : decode mX12_readsLine.2.1 23 = .ok (.aload_n 0, 1) := by decide +kernel
theorem dX12_readsLine_24 : decode mX12_readsLine.2.1 24 = .ok (.invokevirtual 238, 3) := by decide +kernel
theorem dX12_readsLine_27 : decode mX12_readsLine.2.1 27 = .ok (.ireturn, 1) := by decide +kernel
theorem dX12_readsLines_0 : decode mX12_readsLines.2.1 0 = .ok (.aload_n 0, 1) := by decide +kernel
theorem dX12_readsLines_1 : decode mX12_readsLines.2.1 1 = .ok (.iload_n 2, 1) := by decide +kernel
theorem dX12_readsLines_2 : decode mX12_readsLines.2.1 2 = .ok (.invokevirtual 206, 3) := by decide +kernel
theorem dX12_readsLines_5 : decode mX12_readsLines.2.1 5 = .ok (.istore_n 3, 1) := by decide +kernel
theorem dX12_readsLines_6 : decode mX12_readsLines.2.1 6 = .ok (.aload_n 0, 1) := by decide +kernel
theorem dX12_readsLines_7 : decode mX12_readsLines.2.1 7 = .ok (.iconst 0, 1) := by decide +kernel
theorem dX12_readsLines_8 : decode mX12_readsLines.2.1 8 = .ok (.putfield 218, 3) := by decide +kernel
theorem dX12_readsLines_11 : decode mX12_readsLines.2.1 11 = .ok (.iconst 1, 1) := by decide +kernel
theorem dX12_readsLines_12 : decode mX12_readsLines.2.1 12 = .ok (.istore 4, 2) := by decide +kernel
theorem dX12_readsLines_14 : decode mX12_readsLines.2.1 14 = .ok (.iload_n 3, 1) := by decide +kernel
theorem dX12_readsLines_15 : decode mX12_readsLines.2.1 15 = .ok (.ifCond .le 7, 3) := by decide +kernel
theorem dX12_readsLines_18 : decode mX12_readsLines.2.1 18 = .ok (.iconst 1, 1) := by decide +kernel
theorem dX12_readsLines_19 : decode mX12_readsLines.2.1 19 = .ok (.goto 4, 3) := by decide +kernel
theorem dX12_readsLines_22 : decode mX12_readsLines.2.1 22 = .ok (.iconst 0, 1) := by decide +kernel
theorem dX12_readsLines_23 : decode mX12_readsLines.2.1 23 = .ok (.istore 5, 2) := by decide +kernel
theorem dX12_readsLines_25 : decode mX12_readsLines.2.1 25 = .ok (.iload 5, 2) := by decide +kernel
theorem dX12_readsLines_27 : decode mX12_readsLines.2.1 27 = .ok (.ifCond .eq 34, 3) := by decide +kernel
theorem dX12_readsLines_30 : decode mX12_readsLines.2.1 30 = .ok (.aload_n 0, 1) := by decide +kernel
theorem dX12_readsLines_31 : decode mX12_readsLines.2.1 31 = .ok (.iload_n 1, 1) := by decide +kernel
theorem dX12_readsLines_32 : decode mX12_readsLines.2.1 32 = .ok (.invokevirtual 241, 3) := by decide +kernel
theorem dX12_readsLines_35 : decode mX12_readsLines.2.1 35 = .ok (.istore 4, 2) := by decide +kernel
theorem dX12_readsLines_37 : decode mX12_readsLines.2.1 37 = .ok (.iload 4, 2) := by decide +kernel
theorem dX12_readsLines_39 : decode mX12_readsLines.2.1 39 = .ok (.ifCond .eq 16, 3) := by decide +kernel
theorem dX12_readsLines_42 : decode mX12_readsLines.2.1 42 = .ok (.aload_n 0, 1) := by decide +kernel
theorem dX12_readsLines_43 : decode mX12_readsLines.2.1 43 = .ok (.bipush 59, 2) := by decide +kernel
theorem dX12_readsLines_45 : decode mX12_readsLines.2.1 45 = .ok (.invokevirtual 245, 3) := by decide +kernel
theorem dX12_readsLines_48 : decode mX12_readsLines.2.1 48 = .ok (.ifCond .eq 7, 3) := by decide +kernel
theorem dX12_readsLines_51 : decode mX12_readsLines.2.1 51 = .ok (.iconst 1, 1) := by decide +kernel
theorem dX12_readsLines_52 : decode mX12_readsLines.2.1 52 = .ok (.goto 4, 3) := by decide +kernel
theorem dX12_readsLines_55 : decode mX12_readsLines.2.1 55 = .ok (.iconst 0, 1) := by decide +kernel
theorem dX12_readsLines_56 : decode mX12_readsLines.2.1 56 = .ok (.istore 5, 2) := by decide +kernel
theorem dX12_readsLines_58 : decode mX12_readsLines.2.1 58 = .ok (.goto (-33), 3) := by decide +kernel
theorem dX12_readsLines_61 : decode mX12_readsLines.2.1 61 = .ok (.aload_n 0, 1) := by decide +kernel
theorem dX12_readsLines_62 : decode mX12_readsLines.2.1 62 = .ok (.iload_n 3, 1) := by decide +kernel
theorem dX12_readsLines_63 : decode mX12_readsLines.2.1 63 = .ok (.iload_n 2, 1) := by decide +kernel
theorem dX12_readsLines_64 : decode mX12_readsLines.2.1 64 = .ok (.iload 4, 2) := by decide +kernel
theorem dX12_readsLines_66 : decode mX12_readsLines.2.1 66 = .ok (.invokevirtual 248, 3) := by decide +kernel
theorem dX12_readsLines_69 : decode mX12_readsLines.2.1 69 = .ok (.ireturn, 1) := by decide +kernel
theorem dX12_isNew_0 : decode mX12_isNew.2.1 0 = .ok (.aload_n 0, 1) := by decide +kernel
theorem dX12_isNew_1 : decode mX12_isNew.2.1 1 = .ok (.aload_n 0, 1) := by decide +kernel
theorem dX12_isNew_2 : decode mX12_isNew.2.1 2 = .ok (.getfield 218, 3) := by decide +kernel
theorem dX12_isNew_5 : decode mX12_isNew.2.1 5 = .ok (.ifCond .le 7, 3) := by decide +kernel
theorem dX12_isNew_8 : decode mX12_isNew.2.1 8 = .ok (.iconst 0, 1) := by decide +kernel
theorem dX12_isNew_9 : decode mX12_isNew.2.1 9 = .ok (.goto 7, 3) := by decide +kernel
theorem dX12_isNew_12 : decode mX12_isNew.2.1 12 = .ok (.aload_n 0, 1) := by decide +kernel
theorem dX12_isNew_13 : decode mX12_isNew.2.1 13 = .ok (.getfield 215, 3) := by decide +kernel
theorem dX12_isNew_16 : decode mX12_isNew.2.1 16 = .ok (.putfield 215, 3) := by decide +kernel
theorem dX12_isNew_19 : decode mX12_isNew.2.1 19 = .ok (.aload_n 0, 1) := by decide +kernel
theorem dX12_isNew_20 : decode mX12_isNew.2.1 20 = .ok (.dup, 1) := by decide +kernel
theorem dX12_isNew_21 : decode mX12_isNew.2.1 21 = .ok (.getfield 252, 3) := by decide +kernel
theorem dX12_isNew_24 : decode mX12_isNew.2.1 24 = .ok (.aload_n 0, 1) := by decide +kernel
theorem dX12_isNew_25 : decode mX12_isNew.2.1 25 = .ok (.getfield 218, 3) := by decide +kernel
theorem dX12_isNew_28 : decode mX12_isNew.2.1 28 = .ok (.ifCond .le 7, 3) := by decide +kernel
theorem dX12_isNew_31 : decode mX12_isNew.2.1 31 = .ok (.iconst 1, 1) := by decide +kernel
theorem dX12_isNew_32 : decode mX12_isNew.2.1 32 = .ok (.goto 4, 3) := by decide +kernel
theorem dX12_isNew_35 : decode mX12_isNew.2.1 35 = .ok (.iconst 0, 1) := by decide +kernel
theorem dX12_isNew_36 : decode mX12_isNew.2.1 36 = .ok (.invokestatic 175, 3) := by decide +kernel
theorem dX12_isNew_39 : decode mX12_isNew.2.1 39 = .ok (.iadd, 1) := by decide +kernel
theorem dX12_isNew_40 : decode mX12_isNew.2.1 40 = .ok (.putfield 252, 3) := by decide +kernel
theorem dX12_isNew_43 : decode mX12_isNew.2.1 43 = .ok (.aload_n 0, 1) := by decide +kernel
theorem dX12_isNew_44 : decode mX12_isNew.2.1 44 = .ok (.getfield 218, 3) := by decide +kernel
theorem dX12_isNew_47 : decode mX12_isNew.2.1 47 = .ok (.ireturn, 1) := by decide +kernel
theorem dX12_things_0 : decode mX12_things.2.1 0 = .ok (.aload_n 0, 1) := by decide +kernel
theorem dX12_things_1 : decode mX12_things.2.1 1 = .ok (.iconst 0, 1) := by decide +kernel
theorem dX12_things_2 : decode mX12_things.2.1 2 = .ok (.putfield 3, 3) := by decide +kernel
theorem dX12_things_5 : decode mX12_things.2.1 5 = .ok (.aload_n 0, 1) := by decide +kernel
theorem dX12_things_6 : decode mX12_things.2.1 6 = .ok (.iconst 0, 1) := by decide +kernel
theorem dX12_things_7 : decode mX12_things.2.1 7 = .ok (.bipush 47, 2) := by decide +kernel
theorem dX12_things_9 : decode mX12_things.2.1 9 = .ok (.invokevirtual 255, 3) := by decide +kernel
theorem dX12_things_12 : decode mX12_things.2.1 12 = .ok (.istore_n 1, 1) := by decide +kernel
theorem dX12_things_13 : decode mX12_things.2.1 13 = .ok (.iload_n 1, 1) := by decide +kernel
theorem dX12_things_14 : decode mX12_things.2.1 14 = .ok (.ifCond .ge 5, 3) := by decide +kernel
theorem dX12_things_17 : decode mX12_things.2.1 17 = .ok (.iload_n 1, 1) := by decide +kernel
theorem dX12_things_18 : decode mX12_things.2.1 18 = .ok (.ireturn, 1) := by decide +kernel
theorem dX12_things_19 : decode mX12_things.2.1 19 = .ok (.iconst 0, 1) := by decide +kernel
theorem dX12_things_20 : decode mX12_things.2.1 20 = .ok (.istore_n 2, 1) := by decide +kernel
theorem dX12_things_21 : decode mX12_things.2.1 21 = .ok (.iload_n 2, 1) := by decide +kernel
theorem dX12_things_22 : decode mX12_things.2.1 22 = .ok (.aload_n 0, 1) := by decide +kernel
theorem dX12_things_23 : decode mX12_things.2.1 23 = .ok (.getfield 218, 3) := by decide +kernel
theorem dX12_things_26 : decode mX12_things.2.1 26 = .ok (.if_icmp .ge 96, 3) := by decide +kernel
theorem dX12_things_29 : decode mX12_things.2.1 29 = .ok (.aload_n 0, 1) := by decide +kernel
theorem dX12_things_30 : decode mX12_things.2.1 30 = .ok (.getfield 30, 3) := by decide +kernel
theorem dX12_things_33 : decode mX12_things.2.1 33 = .ok (.aload_n 0, 1) := by decide +kernel
theorem dX12_things_34 : decode mX12_things.2.1 34 = .ok (.getfield 140, 3) := by decide +kernel
theorem dX12_things_37 : decode mX12_things.2.1 37 = .ok (.aload_n 0, 1) := by decide +kernel
theorem dX12_things_38 : decode mX12_things.2.1 38 = .ok (.getfield 58, 3) := by decide +kernel
theorem dX12_things_41 : decode mX12_things.2.1 41 = .ok (.iconst 4, 1) := by decide +kernel
theorem dX12_things_42 : decode mX12_things.2.1 42 = .ok (.iload_n 2, 1) := by decide +kernel
theorem dX12_things_43 : decode mX12_things.2.1 43 = .ok (.imul, 1) := by decide +kernel
theorem dX12_things_44 : decode mX12_things.2.1 44 = .ok (.iaload, 1) := by decide +kernel
theorem dX12_things_45 : decode mX12_things.2.1 45 = .ok (.iastore, 1) := by decide +kernel
theorem dX12_things_46 : decode mX12_things.2.1 46 = .ok (.aload_n 0, 1) := by decide +kernel
theorem dX12_things_47 : decode mX12_things.2.1 47 = .ok (.getfield 34, 3) := by decide +kernel
theorem dX12_things_50 : decode mX12_things.2.1 50 = .ok (.aload_n 0, 1) := by decide +kernel
theorem dX12_things_51 : decode mX12_things.2.1 51 = .ok (.getfield 140, 3) := by decide +kernel
theorem dX12_things_54 : decode mX12_things.2.1 54 = .ok (.aload_n 0, 1) := by decide +kernel
theorem dX12_things_55 : decode mX12_things.2.1 55 = .ok (.getfield 58, 3) := by decide +kernel
theorem dX12_things_58 : decode mX12_things.2.1 58 = .ok (.iconst 4, 1) := by decide +kernel
theorem dX12_things_59 : decode mX12_things.2.1 59 = .ok (.iload_n 2, 1) := by decide +kernel
theorem dX12_things_60 : decode mX12_things.2.1 60 = .ok (.imul, 1) := by decide +kernel
theorem dX12_things_61 : decode mX12_things.2.1 61 = .ok (.iconst 1, 1) := by decide +kernel
theorem dX12_things_62 : decode mX12_things.2.1 62 = .ok (.iadd, 1) := by decide +kernel
theorem dX12_things_63 : decode mX12_things.2.1 63 = .ok (.iaload, 1) := by decide +kernel
theorem dX12_things_64 : decode mX12_things.2.1 64 = .ok (.iastore, 1) := by decide +kernel
theorem dX12_things_65 : decode mX12_things.2.1 65 = .ok (.aload_n 0, 1) := by decide +kernel
theorem dX12_things_66 : decode mX12_things.2.1 66 = .ok (.getfield 49, 3) := by decide +kernel
theorem dX12_things_69 : decode mX12_things.2.1 69 = .ok (.aload_n 0, 1) := by decide +kernel
theorem dX12_things_70 : decode mX12_things.2.1 70 = .ok (.getfield 140, 3) := by decide +kernel
theorem dX12_things_73 : decode mX12_things.2.1 73 = .ok (.aload_n 0, 1) := by decide +kernel
theorem dX12_things_74 : decode mX12_things.2.1 74 = .ok (.getfield 58, 3) := by decide +kernel
theorem dX12_things_77 : decode mX12_things.2.1 77 = .ok (.iconst 4, 1) := by decide +kernel
theorem dX12_things_78 : decode mX12_things.2.1 78 = .ok (.iload_n 2, 1) := by decide +kernel
theorem dX12_things_79 : decode mX12_things.2.1 79 = .ok (.imul, 1) := by decide +kernel
theorem dX12_things_80 : decode mX12_things.2.1 80 = .ok (.iconst 2, 1) := by decide +kernel
theorem dX12_things_81 : decode mX12_things.2.1 81 = .ok (.iadd, 1) := by decide +kernel
theorem dX12_things_82 : decode mX12_things.2.1 82 = .ok (.iaload, 1) := by decide +kernel
theorem dX12_things_83 : decode mX12_things.2.1 83 = .ok (.iastore, 1) := by decide +kernel
theorem dX12_things_84 : decode mX12_things.2.1 84 = .ok (.aload_n 0, 1) := by decide +kernel
theorem dX12_things_85 : decode mX12_things.2.1 85 = .ok (.getfield 49, 3) := by decide +kernel
theorem dX12_things_88 : decode mX12_things.2.1 88 = .ok (.bipush 8, 2) := by decide +kernel
theorem dX12_things_90 : decode mX12_things.2.1 90 = .ok (.aload_n 0, 1) := by decide +kernel
theorem dX12_things_91 : decode mX12_things.2.1 91 = .ok (.getfield 140, 3) := by decide +kernel
theorem dX12_things_94 : decode mX12_things.2.1 94 = .ok (.iadd, 1) := by decide +kernel
theorem dX12_things_95 : decode mX12_things.2.1 95 = .ok (.aload_n 0, 1) := by decide +kernel
theorem dX12_things_96 : decode mX12_things.2.1 96 = .ok (.getfield 58, 3) := by decide +kernel
theorem dX12_things_99 : decode mX12_things.2.1 99 = .ok (.iconst 4, 1) := by decide +kernel
theorem dX12_things_100 : decode mX12_things.2.1 100 = .ok (.iload_n 2, 1) := by decide +kernel
theorem dX12_things_101 : decode mX12_things.2.1 101 = .ok (.imul, 1) := by decide +kernel
theorem dX12_things_102 : decode mX12_things.2.1 102 = .ok (.iconst 3, 1) := by decide +kernel
theorem dX12_things_103 : decode mX12_things.2.1 103 = .ok (.iadd, 1) := by decide +kernel
theorem dX12_things_104 : decode mX12_things.2.1 104 = .ok (.iaload, 1) := by decide +kernel
theorem dX12_things_105 : decode mX12_things.2.1 105 = .ok (.iastore, 1) := by decide +kernel
theorem dX12_things_106 : decode mX12_things.2.1 106 = .ok (.aload_n 0, 1) := by decide +kernel
theorem dX12_things_107 : decode mX12_things.2.1 107 = .ok (.dup, 1) := by decide +kernel
theorem dX12_things_108 : decode mX12_things.2.1 108 = .ok (.getfield 140, 3) := by decide +kernel
theorem dX12_things_111 : decode mX12_things.2.1 111 = .ok (.iconst 1, 1) := by decide +kernel
theorem dX12_things_112 : decode mX12_things.2.1 112 = .ok (.iadd, 1) := by decide +kernel
theorem dX12_things_113 : decode mX12_things.2.1 113 = .ok (.putfield 140, 3) := by decide +kernel
theorem dX12_things_116 : decode mX12_things.2.1 116 = .ok (.iinc 2 1, 3) := by decide +kernel
theorem dX12_things_119 : decode mX12_things.2.1 119 = .ok (.goto (-98), 3) := by decide +kernel
theorem dX12_things_122 : decode mX12_things.2.1 122 = .ok (.aload_n 0, 1) := by decide +kernel
theorem dX12_things_123 : decode mX12_things.2.1 123 = .ok (.invokevirtual 258, 3) := by decide +kernel
theorem dX12_things_126 : decode mX12_things.2.1 126 = .ok (.ireturn, 1) := by decide +kernel
theorem dX12_panes_0 : decode mX12_panes.2.1 0 = .ok (.aload_n 0, 1) := by decide +kernel
theorem dX12_panes_1 : decode mX12_panes.2.1 1 = .ok (.iconst 0, 1) := by decide +kernel
theorem dX12_panes_2 : decode mX12_panes.2.1 2 = .ok (.putfield 3, 3) := by decide +kernel
theorem dX12_panes_5 : decode mX12_panes.2.1 5 = .ok (.aload_n 0, 1) := by decide +kernel
theorem dX12_panes_6 : decode mX12_panes.2.1 6 = .ok (.iconst 1, 1) := by decide +kernel
theorem dX12_panes_7 : decode mX12_panes.2.1 7 = .ok (.bipush 79, 2) := by decide +kernel
theorem dX12_panes_9 : decode mX12_panes.2.1 9 = .ok (.invokevirtual 255, 3) := by decide +kernel
theorem dX12_panes_12 : decode mX12_panes.2.1 12 = .ok (.istore_n 1, 1) := by decide +kernel
theorem dX12_panes_13 : decode mX12_panes.2.1 13 = .ok (.iload_n 1, 1) := by decide +kernel
theorem dX12_panes_14 : decode mX12_panes.2.1 14 = .ok (.ifCond .ge 5, 3) := by decide +kernel
theorem dX12_panes_17 : decode mX12_panes.2.1 17 = .ok (.iload_n 1, 1) := by decide +kernel
theorem dX12_panes_18 : decode mX12_panes.2.1 18 = .ok (.ireturn, 1) := by decide +kernel
theorem dX12_panes_19 : decode mX12_panes.2.1 19 = .ok (.iconst 0, 1) := by decide +kernel
theorem dX12_panes_20 : decode mX12_panes.2.1 20 = .ok (.istore_n 2, 1) := by decide +kernel
theorem dX12_panes_21 : decode mX12_panes.2.1 21 = .ok (.iload_n 2, 1) := by decide +kernel
theorem dX12_panes_22 : decode mX12_panes.2.1 22 = .ok (.aload_n 0, 1) := by decide +kernel
theorem dX12_panes_23 : decode mX12_panes.2.1 23 = .ok (.getfield 218, 3) := by decide +kernel
theorem dX12_panes_26 : decode mX12_panes.2.1 26 = .ok (.if_icmp .ge 86, 3) := by decide +kernel
theorem dX12_panes_29 : decode mX12_panes.2.1 29 = .ok (.aload_n 0, 1) := by decide +kernel
theorem dX12_panes_30 : decode mX12_panes.2.1 30 = .ok (.getfield 37, 3) := by decide +kernel
theorem dX12_panes_33 : decode mX12_panes.2.1 33 = .ok (.aload_n 0, 1) := by decide +kernel
theorem dX12_panes_34 : decode mX12_panes.2.1 34 = .ok (.getfield 147, 3) := by decide +kernel
theorem dX12_panes_37 : decode mX12_panes.2.1 37 = .ok (.aload_n 0, 1) := by decide +kernel
theorem dX12_panes_38 : decode mX12_panes.2.1 38 = .ok (.getfield 58, 3) := by decide +kernel
theorem dX12_panes_41 : decode mX12_panes.2.1 41 = .ok (.iconst 2, 1) := by decide +kernel
theorem dX12_panes_42 : decode mX12_panes.2.1 42 = .ok (.iload_n 2, 1) := by decide +kernel
theorem dX12_panes_43 : decode mX12_panes.2.1 43 = .ok (.imul, 1) := by decide +kernel
theorem dX12_panes_44 : decode mX12_panes.2.1 44 = .ok (.iaload, 1) := by decide +kernel
theorem dX12_panes_45 : decode mX12_panes.2.1 45 = .ok (.iastore, 1) := by decide +kernel
theorem dX12_panes_46 : decode mX12_panes.2.1 46 = .ok (.aload_n 0, 1) := by decide +kernel
theorem dX12_panes_47 : decode mX12_panes.2.1 47 = .ok (.getfield 40, 3) := by decide +kernel
theorem dX12_panes_50 : decode mX12_panes.2.1 50 = .ok (.aload_n 0, 1) := by decide +kernel
theorem dX12_panes_51 : decode mX12_panes.2.1 51 = .ok (.getfield 147, 3) := by decide +kernel
theorem dX12_panes_54 : decode mX12_panes.2.1 54 = .ok (.aload_n 0, 1) := by decide +kernel
theorem dX12_panes_55 : decode mX12_panes.2.1 55 = .ok (.getfield 58, 3) := by decide +kernel
theorem dX12_panes_58 : decode mX12_panes.2.1 58 = .ok (.iconst 2, 1) := by decide +kernel
theorem dX12_panes_59 : decode mX12_panes.2.1 59 = .ok (.iload_n 2, 1) := by decide +kernel
theorem dX12_panes_60 : decode mX12_panes.2.1 60 = .ok (.imul, 1) := by decide +kernel
theorem dX12_panes_61 : decode mX12_panes.2.1 61 = .ok (.iconst 1, 1) := by decide +kernel
theorem dX12_panes_62 : decode mX12_panes.2.1 62 = .ok (.iadd, 1) := by decide +kernel
theorem dX12_panes_63 : decode mX12_panes.2.1 63 = .ok (.iaload, 1) := by decide +kernel
theorem dX12_panes_64 : decode mX12_panes.2.1 64 = .ok (.iastore, 1) := by decide +kernel
theorem dX12_panes_65 : decode mX12_panes.2.1 65 = .ok (.aload_n 0, 1) := by decide +kernel
theorem dX12_panes_66 : decode mX12_panes.2.1 66 = .ok (.getfield 49, 3) := by decide +kernel
theorem dX12_panes_69 : decode mX12_panes.2.1 69 = .ok (.bipush 16, 2) := by decide +kernel
theorem dX12_panes_71 : decode mX12_panes.2.1 71 = .ok (.aload_n 0, 1) := by decide +kernel
theorem dX12_panes_72 : decode mX12_panes.2.1 72 = .ok (.getfield 147, 3) := by decide +kernel
theorem dX12_panes_75 : decode mX12_panes.2.1 75 = .ok (.iadd, 1) := by decide +kernel
theorem dX12_panes_76 : decode mX12_panes.2.1 76 = .ok (.iconst (-1), 1) := by decide +kernel
theorem dX12_panes_77 : decode mX12_panes.2.1 77 = .ok (.iastore, 1) := by decide +kernel
theorem dX12_panes_78 : decode mX12_panes.2.1 78 = .ok (.aload_n 0, 1) := by decide +kernel
theorem dX12_panes_79 : decode mX12_panes.2.1 79 = .ok (.getfield 49, 3) := by decide +kernel
theorem dX12_panes_82 : decode mX12_panes.2.1 82 = .ok (.bipush 24, 2) := by decide +kernel
theorem dX12_panes_84 : decode mX12_panes.2.1 84 = .ok (.dup2, 1) := by decide +kernel
theorem dX12_panes_85 : decode mX12_panes.2.1 85 = .ok (.iaload, 1) := by decide +kernel
theorem dX12_panes_86 : decode mX12_panes.2.1 86 = .ok (.iconst 1, 1) := by decide +kernel
theorem dX12_panes_87 : decode mX12_panes.2.1 87 = .ok (.aload_n 0, 1) := by decide +kernel
theorem dX12_panes_88 : decode mX12_panes.2.1 88 = .ok (.getfield 147, 3) := by decide +kernel
theorem dX12_panes_91 : decode mX12_panes.2.1 91 = .ok (.ishl, 1) := by decide +kernel
theorem dX12_panes_92 : decode mX12_panes.2.1 92 = .ok (.iconst (-1), 1) := by decide +kernel
theorem dX12_panes_93 : decode mX12_panes.2.1 93 = .ok (.ixor, 1) := by decide +kernel
theorem dX12_panes_94 : decode mX12_panes.2.1 94 = .ok (.iand, 1) := by decide +kernel
theorem dX12_panes_95 : decode mX12_panes.2.1 95 = .ok (.iastore, 1) := by decide +kernel
theorem dX12_panes_96 : decode mX12_panes.2.1 96 = .ok (.aload_n 0, 1) := by decide +kernel
theorem dX12_panes_97 : decode mX12_panes.2.1 97 = .ok (.dup, 1) := by decide +kernel
theorem dX12_panes_98 : decode mX12_panes.2.1 98 = .ok (.getfield 147, 3) := by decide +kernel
theorem dX12_panes_101 : decode mX12_panes.2.1 101 = .ok (.iconst 1, 1) := by decide +kernel
theorem dX12_panes_102 : decode mX12_panes.2.1 102 = .ok (.iadd, 1) := by decide +kernel
theorem dX12_panes_103 : decode mX12_panes.2.1 103 = .ok (.putfield 147, 3) := by decide +kernel
theorem dX12_panes_106 : decode mX12_panes.2.1 106 = .ok (.iinc 2 1, 3) := by decide +kernel
theorem dX12_panes_109 : decode mX12_panes.2.1 109 = .ok (.goto (-88), 3) := by decide +kernel
theorem dX12_panes_112 : decode mX12_panes.2.1 112 = .ok (.aload_n 0, 1) := by decide +kernel
theorem dX12_panes_113 : decode mX12_panes.2.1 113 = .ok (.invokevirtual 258, 3) := by decide +kernel
theorem dX12_panes_116 : decode mX12_panes.2.1 116 = .ok (.ireturn, 1) := by decide +kernel
theorem dX12_rooms_0 : decode mX12_rooms.2.1 0 = .ok (.aload_n 0, 1) := by decide +kernel
theorem dX12_rooms_1 : decode mX12_rooms.2.1 1 = .ok (.iconst 0, 1) := by decide +kernel
theorem dX12_rooms_2 : decode mX12_rooms.2.1 2 = .ok (.putfield 3, 3) := by decide +kernel
theorem dX12_rooms_5 : decode mX12_rooms.2.1 5 = .ok (.aload_n 0, 1) := by decide +kernel
theorem dX12_rooms_6 : decode mX12_rooms.2.1 6 = .ok (.iconst 2, 1) := by decide +kernel
theorem dX12_rooms_7 : decode mX12_rooms.2.1 7 = .ok (.bipush 15, 2) := by decide +kernel
theorem dX12_rooms_9 : decode mX12_rooms.2.1 9 = .ok (.invokevirtual 255, 3) := by decide +kernel
theorem dX12_rooms_12 : decode mX12_rooms.2.1 12 = .ok (.istore_n 1, 1) := by decide +kernel
theorem dX12_rooms_13 : decode mX12_rooms.2.1 13 = .ok (.iload_n 1, 1) := by decide +kernel
theorem dX12_rooms_14 : decode mX12_rooms.2.1 14 = .ok (.ifCond .ge 5, 3) := by decide +kernel
theorem dX12_rooms_17 : decode mX12_rooms.2.1 17 = .ok (.iload_n 1, 1) := by decide +kernel
theorem dX12_rooms_18 : decode mX12_rooms.2.1 18 = .ok (.ireturn, 1) := by decide +kernel
theorem dX12_rooms_19 : decode mX12_rooms.2.1 19 = .ok (.iconst 0, 1) := by decide +kernel
theorem dX12_rooms_20 : decode mX12_rooms.2.1 20 = .ok (.istore_n 2, 1) := by decide +kernel
theorem dX12_rooms_21 : decode mX12_rooms.2.1 21 = .ok (.iload_n 2, 1) := by decide +kernel
theorem dX12_rooms_22 : decode mX12_rooms.2.1 22 = .ok (.aload_n 0, 1) := by decide +kernel
theorem dX12_rooms_23 : decode mX12_rooms.2.1 23 = .ok (.getfield 218, 3) := by decide +kernel
theorem dX12_rooms_26 : decode mX12_rooms.2.1 26 = .ok (.if_icmp .ge 55, 3) := by decide +kernel
theorem dX12_rooms_29 : decode mX12_rooms.2.1 29 = .ok (.aload_n 0, 1) := by decide +kernel
theorem dX12_rooms_30 : decode mX12_rooms.2.1 30 = .ok (.getfield 43, 3) := by decide +kernel
theorem dX12_rooms_33 : decode mX12_rooms.2.1 33 = .ok (.aload_n 0, 1) := by decide +kernel
theorem dX12_rooms_34 : decode mX12_rooms.2.1 34 = .ok (.getfield 150, 3) := by decide +kernel
theorem dX12_rooms_37 : decode mX12_rooms.2.1 37 = .ok (.aload_n 0, 1) := by decide +kernel
theorem dX12_rooms_38 : decode mX12_rooms.2.1 38 = .ok (.getfield 58, 3) := by decide +kernel
theorem dX12_rooms_41 : decode mX12_rooms.2.1 41 = .ok (.iconst 2, 1) := by decide +kernel
theorem dX12_rooms_42 : decode mX12_rooms.2.1 42 = .ok (.iload_n 2, 1) := by decide +kernel
theorem dX12_rooms_43 : decode mX12_rooms.2.1 43 = .ok (.imul, 1) := by decide +kernel
theorem dX12_rooms_44 : decode mX12_rooms.2.1 44 = .ok (.iaload, 1) := by decide +kernel
theorem dX12_rooms_45 : decode mX12_rooms.2.1 45 = .ok (.iastore, 1) := by decide +kernel
theorem dX12_rooms_46 : decode mX12_rooms.2.1 46 = .ok (.aload_n 0, 1) := by decide +kernel
theorem dX12_rooms_47 : decode mX12_rooms.2.1 47 = .ok (.getfield 46, 3) := by decide +kernel
theorem dX12_rooms_50 : decode mX12_rooms.2.1 50 = .ok (.aload_n 0, 1) := by decide +kernel
theorem dX12_rooms_51 : decode mX12_rooms.2.1 51 = .ok (.getfield 150, 3) := by decide +kernel
theorem dX12_rooms_54 : decode mX12_rooms.2.1 54 = .ok (.aload_n 0, 1) := by decide +kernel
theorem dX12_rooms_55 : decode mX12_rooms.2.1 55 = .ok (.getfield 58, 3) := by decide +kernel
theorem dX12_rooms_58 : decode mX12_rooms.2.1 58 = .ok (.iconst 2, 1) := by decide +kernel
theorem dX12_rooms_59 : decode mX12_rooms.2.1 59 = .ok (.iload_n 2, 1) := by decide +kernel
theorem dX12_rooms_60 : decode mX12_rooms.2.1 60 = .ok (.imul, 1) := by decide +kernel
theorem dX12_rooms_61 : decode mX12_rooms.2.1 61 = .ok (.iconst 1, 1) := by decide +kernel
theorem dX12_rooms_62 : decode mX12_rooms.2.1 62 = .ok (.iadd, 1) := by decide +kernel
theorem dX12_rooms_63 : decode mX12_rooms.2.1 63 = .ok (.iaload, 1) := by decide +kernel
theorem dX12_rooms_64 : decode mX12_rooms.2.1 64 = .ok (.iastore, 1) := by decide +kernel
theorem dX12_rooms_65 : decode mX12_rooms.2.1 65 = .ok (.aload_n 0, 1) := by decide +kernel
theorem dX12_rooms_66 : decode mX12_rooms.2.1 66 = .ok (.dup, 1) := by decide +kernel
theorem dX12_rooms_67 : decode mX12_rooms.2.1 67 = .ok (.getfield 150, 3) := by decide +kernel
theorem dX12_rooms_70 : decode mX12_rooms.2.1 70 = .ok (.iconst 1, 1) := by decide +kernel
theorem dX12_rooms_71 : decode mX12_rooms.2.1 71 = .ok (.iadd, 1) := by decide +kernel
theorem dX12_rooms_72 : decode mX12_rooms.2.1 72 = .ok (.putfield 150, 3) := by decide +kernel
theorem dX12_rooms_75 : decode mX12_rooms.2.1 75 = .ok (.iinc 2 1, 3) := by decide +kernel
theorem dX12_rooms_78 : decode mX12_rooms.2.1 78 = .ok (.goto (-57), 3) := by decide +kernel
theorem dX12_rooms_81 : decode mX12_rooms.2.1 81 = .ok (.aload_n 0, 1) := by decide +kernel
theorem dX12_rooms_82 : decode mX12_rooms.2.1 82 = .ok (.invokevirtual 258, 3) := by decide +kernel
theorem dX12_rooms_85 : decode mX12_rooms.2.1 85 = .ok (.ireturn, 1) := by decide +kernel
theorem dX12_codes_0 : decode mX12_codes.2.1 0 = .ok (.aload_n 0, 1) := by decide +kernel
theorem dX12_codes_1 : decode mX12_codes.2.1 1 = .ok (.getfield 64, 3) := by decide +kernel
theorem dX12_codes_4 : decode mX12_codes.2.1 4 = .ok (.aload_n 0, 1) := by decide +kernel
theorem dX12_codes_5 : decode mX12_codes.2.1 5 = .ok (.getfield 261, 3) := by decide +kernel
theorem dX12_codes_8 : decode mX12_codes.2.1 8 = .ok (.iload_n 1, 1) := by decide +kernel
theorem dX12_codes_9 : decode mX12_codes.2.1 9 = .ok (.iastore, 1) := by decide +kernel
theorem dX12_codes_10 : decode mX12_codes.2.1 10 = .ok (.aload_n 0, 1) := by decide +kernel
theorem dX12_codes_11 : decode mX12_codes.2.1 11 = .ok (.dup, 1) := by decide +kernel
theorem dX12_codes_12 : decode mX12_codes.2.1 12 = .ok (.getfield 261, 3) := by decide +kernel
theorem dX12_codes_15 : decode mX12_codes.2.1 15 = .ok (.iconst 1, 1) := by decide +kernel
theorem dX12_codes_16 : decode mX12_codes.2.1 16 = .ok (.iadd, 1) := by decide +kernel
theorem dX12_codes_17 : decode mX12_codes.2.1 17 = .ok (.putfield 261, 3) := by decide +kernel
theorem dX12_codes_20 : decode mX12_codes.2.1 20 = .ok (.return_, 1) := by decide +kernel
theorem dX12_readsTerm_0 : decode mX12_readsTerm.2.1 0 = .ok (.aload_n 0, 1) := by decide +kernel
theorem dX12_readsTerm_1 : decode mX12_readsTerm.2.1 1 = .ok (.bipush 45, 2) := by decide +kernel
theorem dX12_readsTerm_3 : decode mX12_readsTerm.2.1 3 = .ok (.invokevirtual 245, 3) := by decide +kernel
theorem dX12_readsTerm_6 : decode mX12_readsTerm.2.1 6 = .ok (.ifCond .eq 17, 3) := by decide +kernel
theorem dX12_readsTerm_9 : decode mX12_readsTerm.2.1 9 = .ok (.aload_n 0, 1) := by decide +kernel
theorem dX12_readsTerm_10 : decode mX12_readsTerm.2.1 10 = .ok (.invokevirtual 264, 3) := by decide +kernel
theorem dX12_readsTerm_13 : decode mX12_readsTerm.2.1 13 = .ok (.istore_n 1, 1) := by decide +kernel
theorem dX12_readsTerm_14 : decode mX12_readsTerm.2.1 14 = .ok (.aload_n 0, 1) := by decide +kernel
theorem dX12_readsTerm_15 : decode mX12_readsTerm.2.1 15 = .ok (.sipush 3000, 3) := by decide +kernel
theorem dX12_readsTerm_18 : decode mX12_readsTerm.2.1 18 = .ok (.invokevirtual 267, 3) := by decide +kernel
theorem dX12_readsTerm_21 : decode mX12_readsTerm.2.1 21 = .ok (.iload_n 1, 1) := by decide +kernel
theorem dX12_readsTerm_22 : decode mX12_readsTerm.2.1 22 = .ok (.ireturn, 1) := by decide +kernel
theorem dX12_readsTerm_23 : decode mX12_readsTerm.2.1 23 = .ok (.aload_n 0, 1) := by decide +kernel
theorem dX12_readsTerm_24 : decode mX12_readsTerm.2.1 24 = .ok (.invokevirtual 197, 3) := by decide +kernel
theorem dX12_readsTerm_27 : decode mX12_readsTerm.2.1 27 = .ok (.ifCond .eq 14, 3) := by decide +kernel
theorem dX12_readsTerm_30 : decode mX12_readsTerm.2.1 30 = .ok (.aload_n 0, 1) := by decide +kernel
theorem dX12_readsTerm_31 : decode mX12_readsTerm.2.1 31 = .ok (.aload_n 0, 1) := by decide +kernel
theorem dX12_readsTerm_32 : decode mX12_readsTerm.2.1 32 = .ok (.iconst 3, 1) := by decide +kernel
theorem dX12_readsTerm_33 : decode mX12_readsTerm.2.1 33 = .ok (.invokevirtual 221, 3) := by decide +kernel
theorem dX12_readsTerm_36 : decode mX12_readsTerm.2.1 36 = .ok (.invokevirtual 267, 3) := by decide +kernel
theorem dX12_readsTerm_39 : decode mX12_readsTerm.2.1 39 = .ok (.iconst 1, 1) := by decide +kernel
theorem dX12_readsTerm_40 : decode mX12_readsTerm.2.1 40 = .ok (.ireturn, 1) := by decide +kernel
theorem dX12_readsTerm_41 : decode mX12_readsTerm.2.1 41 = .ok (.aload_n 0, 1) := by decide +kernel
theorem dX12_readsTerm_42 : decode mX12_readsTerm.2.1 42 = .ok (.ldc_w 271, 3) := by decide +kernel
theorem dX12_readsTerm_45 : decode mX12_readsTerm.2.1 45 = .ok (.invokevirtual 203, 3) := by decide +kernel
theorem dX12_readsTerm_48 : decode mX12_readsTerm.2.1 48 = .ok (.istore_n 1, 1) := by decide +kernel
theorem dX12_readsTerm_49 : decode mX12_readsTerm.2.1 49 = .ok (.iload_n 1, 1) := by decide +kernel
theorem dX12_readsTerm_50 : decode mX12_readsTerm.2.1 50 = .ok (.ifCond .lt 14, 3) := by decide +kernel
theorem dX12_readsTerm_53 : decode mX12_readsTerm.2.1 53 = .ok (.aload_n 0, 1) := by decide +kernel
theorem dX12_readsTerm_54 : decode mX12_readsTerm.2.1 54 = .ok (.sipush 1000, 3) := by decide +kernel
theorem dX12_readsTerm_57 : decode mX12_readsTerm.2.1 57 = .ok (.iload_n 1, 1) := by decide +kernel
theorem dX12_readsTerm_58 : decode mX12_readsTerm.2.1 58 = .ok (.iadd, 1) := by decide +kernel
theorem dX12_readsTerm_59 : decode mX12_readsTerm.2.1 59 = .ok (.invokevirtual 267, 3) := by decide +kernel
theorem dX12_readsTerm_62 : decode mX12_readsTerm.2.1 62 = .ok (.iconst 1, 1) := by decide +kernel
theorem dX12_readsTerm_63 : decode mX12_readsTerm.2.1 63 = .ok (.ireturn, 1) := by decide +kernel
theorem dX12_readsTerm_64 : decode mX12_readsTerm.2.1 64 = .ok (.aload_n 0, 1) := by decide +kernel
theorem dX12_readsTerm_65 : decode mX12_readsTerm.2.1 65 = .ok (.getfield 165, 3) := by decide +kernel
theorem dX12_readsTerm_68 : decode mX12_readsTerm.2.1 68 = .ok (.iconst 4, 1) := by decide +kernel
theorem dX12_readsTerm_69 : decode mX12_readsTerm.2.1 69 = .ok (.if_icmp .eq 12, 3) := by decide +kernel
theorem dX12_readsTerm_72 : decode mX12_readsTerm.2.1 72 = .ok (.aload_n 0, 1) := by decide +kernel
theorem dX12_readsTerm_73 : decode mX12_readsTerm.2.1 73 = .ok (.bipush 40, 2) := by decide +kernel
theorem dX12_readsTerm_75 : decode mX12_readsTerm.2.1 75 = .ok (.invokevirtual 245, 3) := by decide +kernel
theorem dX12_readsTerm_78 : decode mX12_readsTerm.2.1 78 = .ok (.ifCond .ne 5, 3) := by decide +kernel
theorem dX12_readsTerm_81 : decode mX12_readsTerm.2.1 81 = .ok (.iconst 0, 1) := by decide +kernel
theorem dX12_readsTerm_82 : decode mX12_readsTerm.2.1 82 = .ok (.ireturn, 1) := by decide +kernel
theorem dX12_readsTerm_83 : decode mX12_readsTerm.2.1 83 = .ok (.aload_n 0, 1) := by decide +kernel
theorem dX12_readsTerm_84 : decode mX12_readsTerm.2.1 84 = .ok (.dup, 1) := by decide +kernel
theorem dX12_readsTerm_85 : decode mX12_readsTerm.2.1 85 = .ok (.getfield 165, 3) := by decide +kernel
theorem dX12_readsTerm_88 : decode mX12_readsTerm.2.1 88 = .ok (.iconst 1, 1) := by decide +kernel
theorem dX12_readsTerm_89 : decode mX12_readsTerm.2.1 89 = .ok (.iadd, 1) := by decide +kernel
theorem dX12_readsTerm_90 : decode mX12_readsTerm.2.1 90 = .ok (.putfield 165, 3) := by decide +kernel
theorem dX12_readsTerm_93 : decode mX12_readsTerm.2.1 93 = .ok (.aload_n 0, 1) := by decide +kernel
theorem dX12_readsTerm_94 : decode mX12_readsTerm.2.1 94 = .ok (.iconst 0, 1) := by decide +kernel
theorem dX12_readsTerm_95 : decode mX12_readsTerm.2.1 95 = .ok (.invokevirtual 273, 3) := by decide +kernel
theorem dX12_readsTerm_98 : decode mX12_readsTerm.2.1 98 = .ok (.ifCond .eq 12, 3) := by decide +kernel
theorem dX12_readsTerm_101 : decode mX12_readsTerm.2.1 101 = .ok (.aload_n 0, 1) := by decide +kernel
theorem dX12_readsTerm_102 : decode mX12_readsTerm.2.1 102 = .ok (.bipush 41, 2) := by decide +kernel
theorem dX12_readsTerm_104 : decode mX12_readsTerm.2.1 104 = .ok (.invokevirtual 245, 3) := by decide +kernel
theorem dX12_readsTerm_107 : decode mX12_readsTerm.2.1 107 = .ok (.ifCond .ne 5, 3) := by decide +kernel
theorem dX12_readsTerm_110 : decode mX12_readsTerm.2.1 110 = .ok (.iconst 0, 1) := by decide +kernel
theorem dX12_readsTerm_111 : decode mX12_readsTerm.2.1 111 = .ok (.ireturn, 1) := by decide +kernel
theorem dX12_readsTerm_112 : decode mX12_readsTerm.2.1 112 = .ok (.aload_n 0, 1) := by decide +kernel
theorem dX12_readsTerm_113 : decode mX12_readsTerm.2.1 113 = .ok (.dup, 1) := by decide +kernel
theorem dX12_readsTerm_114 : decode mX12_readsTerm.2.1 114 = .ok (.getfield 165, 3) := by decide +kernel
theorem dX12_readsTerm_117 : decode mX12_readsTerm.2.1 117 = .ok (.iconst 1, 1) := by decide +kernel
theorem dX12_readsTerm_118 : decode mX12_readsTerm.2.1 118 = .ok (.isub, 1) := by decide +kernel
theorem dX12_readsTerm_119 : decode mX12_readsTerm.2.1 119 = .ok (.putfield 165, 3) := by decide +kernel
theorem dX12_readsTerm_122 : decode mX12_readsTerm.2.1 122 = .ok (.iconst 1, 1) := by decide +kernel
theorem dX12_readsTerm_123 : decode mX12_readsTerm.2.1 123 = .ok (.ireturn, 1) := by decide +kernel
theorem dX12_readsRank_0 : decode mX12_readsRank.2.1 0 = .ok (.iload_n 1, 1) := by decide +kernel
theorem dX12_readsRank_1 : decode mX12_readsRank.2.1 1 = .ok (.iconst 3, 1) := by decide +kernel
theorem dX12_readsRank_2 : decode mX12_readsRank.2.1 2 = .ok (.if_icmp .ne 8, 3) := by decide +kernel
theorem dX12_readsRank_5 : decode mX12_readsRank.2.1 5 = .ok (.aload_n 0, 1) := by decide +kernel
theorem dX12_readsRank_6 : decode mX12_readsRank.2.1 6 = .ok (.invokevirtual 264, 3) := by decide +kernel
theorem dX12_readsRank_9 : decode mX12_readsRank.2.1 9 = .ok (.ireturn, 1) := by decide +kernel
theorem dX12_readsRank_10 : decode mX12_readsRank.2.1 10 = .ok (.aload_n 0, 1) := by decide +kernel
theorem dX12_readsRank_11 : decode mX12_readsRank.2.1 11 = .ok (.iload_n 1, 1) := by decide +kernel
theorem dX12_readsRank_12 : decode mX12_readsRank.2.1 12 = .ok (.iconst 1, 1) := by decide +kernel
theorem dX12_readsRank_13 : decode mX12_readsRank.2.1 13 = .ok (.iadd, 1) := by decide +kernel
theorem dX12_readsRank_14 : decode mX12_readsRank.2.1 14 = .ok (.invokevirtual 273, 3) := by decide +kernel
theorem dX12_readsRank_17 : decode mX12_readsRank.2.1 17 = .ok (.ifCond .ne 5, 3) := by decide +kernel
theorem dX12_readsRank_20 : decode mX12_readsRank.2.1 20 = .ok (.iconst 0, 1) := by decide +kernel
theorem dX12_readsRank_21 : decode mX12_readsRank.2.1 21 = .ok (.ireturn, 1) := by decide +kernel
theorem dX12_readsRank_22 : decode mX12_readsRank.2.1 22 = .ok (.iconst 1, 1) := by decide +kernel
theorem dX12_readsRank_23 : decode mX12_readsRank.2.1 23 = .ok (.istore_n 2, 1) := by decide +kernel
theorem dX12_readsRank_24 : decode mX12_readsRank.2.1 24 = .ok (.iload_n 2, 1) := by decide +kernel
theorem dX12_readsRank_25 : decode mX12_readsRank.2.1 25 = .ok (.ifCond .eq 91, 3) := by decide +kernel
theorem dX12_readsRank_28 : decode mX12_readsRank.2.1 28 = .ok (.aload_n 0, 1) := by decide +kernel
theorem dX12_readsRank_29 : decode mX12_readsRank.2.1 29 = .ok (.iload_n 1, 1) := by decide +kernel
theorem dX12_readsRank_30 : decode mX12_readsRank.2.1 30 = .ok (.ifCond .ne 9, 3) := by decide +kernel
theorem dX12_readsRank_33 : decode mX12_readsRank.2.1 33 = .ok (.ldc_w 276, 3) := by decide +kernel
theorem dX12_readsRank_36 : decode mX12_readsRank.2.1 36 = .ok (.goto 17, 3) := by decide +kernel
theorem dX12_readsRank_39 : decode mX12_readsRank.2.1 39 = .ok (.iload_n 1, 1) := by decide +kernel
theorem dX12_readsRank_40 : decode mX12_readsRank.2.1 40 = .ok (.iconst 1, 1) := by decide +kernel
theorem dX12_readsRank_41 : decode mX12_readsRank.2.1 41 = .ok (.if_icmp .ne 9, 3) := by decide +kernel
theorem dX12_readsRank_44 : decode mX12_readsRank.2.1 44 = .ok (.ldc_w 278, 3) := by decide +kernel
theorem dX12_readsRank_47 : decode mX12_readsRank.2.1 47 = .ok (.goto 6, 3) := by decide +kernel
theorem dX12_readsRank_50 : decode mX12_readsRank.2.1 50 = .ok (.ldc_w 280, 3) := by decide +kernel
theorem dX12_readsRank_53 : decode mX12_readsRank.2.1 53 = .ok (.invokevirtual 203, 3) := by decide +kernel
theorem dX12_readsRank_56 : decode mX12_readsRank.2.1 56 = .ok (.istore_n 3, 1) := by decide +kernel
theorem dX12_readsRank_57 : decode mX12_readsRank.2.1 57 = .ok (.iload_n 3, 1) := by decide +kernel
theorem dX12_readsRank_58 : decode mX12_readsRank.2.1 58 = .ok (.ifCond .ge 5, 3) := by decide +kernel
theorem dX12_readsRank_61 : decode mX12_readsRank.2.1 61 = .ok (.iconst 1, 1) := by decide +kernel
theorem dX12_readsRank_62 : decode mX12_readsRank.2.1 62 = .ok (.ireturn, 1) := by decide +kernel
theorem dX12_readsRank_63 : decode mX12_readsRank.2.1 63 = .ok (.aload_n 0, 1) := by decide +kernel
theorem dX12_readsRank_64 : decode mX12_readsRank.2.1 64 = .ok (.iload_n 1, 1) := by decide +kernel
theorem dX12_readsRank_65 : decode mX12_readsRank.2.1 65 = .ok (.iconst 1, 1) := by decide +kernel
theorem dX12_readsRank_66 : decode mX12_readsRank.2.1 66 = .ok (.iadd, 1) := by decide +kernel
theorem dX12_readsRank_67 : decode mX12_readsRank.2.1 67 = .ok (.invokevirtual 273, 3) := by decide +kernel
theorem dX12_readsRank_70 : decode mX12_readsRank.2.1 70 = .ok (.ifCond .ne 5, 3) := by decide +kernel
theorem dX12_readsRank_73 : decode mX12_readsRank.2.1 73 = .ok (.iconst 0, 1) := by decide +kernel
theorem dX12_readsRank_74 : decode mX12_readsRank.2.1 74 = .ok (.ireturn, 1) := by decide +kernel
theorem dX12_readsRank_75 : decode mX12_readsRank.2.1 75 = .ok (.aload_n 0, 1) := by decide +kernel
theorem dX12_readsRank_76 : decode mX12_readsRank.2.1 76 = .ok (.sipush 2000, 3) := by decide +kernel
theorem dX12_readsRank_79 : decode mX12_readsRank.2.1 79 = .ok (.iload_n 3, 1) := by decide +kernel
theorem dX12_readsRank_80 : decode mX12_readsRank.2.1 80 = .ok (.iadd, 1) := by decide +kernel
theorem dX12_readsRank_81 : decode mX12_readsRank.2.1 81 = .ok (.iload_n 1, 1) := by decide +kernel
theorem dX12_readsRank_82 : decode mX12_readsRank.2.1 82 = .ok (.ifCond .ne 7, 3) := by decide +kernel
theorem dX12_readsRank_85 : decode mX12_readsRank.2.1 85 = .ok (.iconst 0, 1) := by decide +kernel
theorem dX12_readsRank_86 : decode mX12_readsRank.2.1 86 = .ok (.goto 13, 3) := by decide +kernel
theorem dX12_readsRank_89 : decode mX12_readsRank.2.1 89 = .ok (.iload_n 1, 1) := by decide +kernel
theorem dX12_readsRank_90 : decode mX12_readsRank.2.1 90 = .ok (.iconst 1, 1) := by decide +kernel
theorem dX12_readsRank_91 : decode mX12_readsRank.2.1 91 = .ok (.if_icmp .ne 7, 3) := by decide +kernel
theorem dX12_readsRank_94 : decode mX12_readsRank.2.1 94 = .ok (.iconst 3, 1) := by decide +kernel
theorem dX12_readsRank_95 : decode mX12_readsRank.2.1 95 = .ok (.goto 4, 3) := by decide +kernel
theorem dX12_readsRank_98 : decode mX12_readsRank.2.1 98 = .ok (.iconst 5, 1) := by decide +kernel
theorem dX12_readsRank_99 : decode mX12_readsRank.2.1 99 = .ok (.iadd, 1) := by decide +kernel
theorem dX12_readsRank_100 : decode mX12_readsRank.2.1 100 = .ok (.invokevirtual 267, 3) := by decide +kernel
theorem dX12_readsRank_103 : decode mX12_readsRank.2.1 103 = .ok (.iload_n 1, 1) := by decide +kernel
theorem dX12_readsRank_104 : decode mX12_readsRank.2.1 104 = .ok (.ifCond .le 7, 3) := by decide +kernel
theorem dX12_readsRank_107 : decode mX12_readsRank.2.1 107 = .ok (.iconst 1, 1) := by decide +kernel
theorem dX12_readsRank_108 : decode mX12_readsRank.2.1 108 = .ok (.goto 4, 3) := by decide +kernel
theorem dX12_readsRank_111 : decode mX12_readsRank.2.1 111 = .ok (.iconst 0, 1) := by decide +kernel
theorem dX12_readsRank_112 : decode mX12_readsRank.2.1 112 = .ok (.istore_n 2, 1) := by decide +kernel
theorem dX12_readsRank_113 : decode mX12_readsRank.2.1 113 = .ok (.goto (-89), 3) := by decide +kernel
theorem dX12_readsRank_116 : decode mX12_readsRank.2.1 116 = .ok (.iconst 1, 1) := by decide +kernel
theorem dX12_readsRank_117 : decode mX12_readsRank.2.1 117 = .ok (.ireturn, 1) := by decide +kernel
theorem dX12_readsRule_0 : decode mX12_readsRule.2.1 0 = .ok (.aload_n 0, 1) := by decide +kernel
theorem dX12_readsRule_1 : decode mX12_readsRule.2.1 1 = .ok (.bipush 40, 2) := by decide +kernel
theorem dX12_readsRule_3 : decode mX12_readsRule.2.1 3 = .ok (.invokevirtual 206, 3) := by decide +kernel
theorem dX12_readsRule_6 : decode mX12_readsRule.2.1 6 = .ok (.istore_n 1, 1) := by decide +kernel
theorem dX12_readsRule_7 : decode mX12_readsRule.2.1 7 = .ok (.aload_n 0, 1) := by decide +kernel
theorem dX12_readsRule_8 : decode mX12_readsRule.2.1 8 = .ok (.iconst 0, 1) := by decide +kernel
theorem dX12_readsRule_9 : decode mX12_readsRule.2.1 9 = .ok (.putfield 261, 3) := by decide +kernel
theorem dX12_readsRule_12 : decode mX12_readsRule.2.1 12 = .ok (.iload_n 1, 1) := by decide +kernel
theorem dX12_readsRule_13 : decode mX12_readsRule.2.1 13 = .ok (.ifCond .eq 11, 3) := by decide +kernel
theorem dX12_readsRule_16 : decode mX12_readsRule.2.1 16 = .ok (.aload_n 0, 1) := by decide +kernel
theorem dX12_readsRule_17 : decode mX12_readsRule.2.1 17 = .ok (.iconst 0, 1) := by decide +kernel
theorem dX12_readsRule_18 : decode mX12_readsRule.2.1 18 = .ok (.invokevirtual 273, 3) := by decide +kernel
theorem dX12_readsRule_21 : decode mX12_readsRule.2.1 21 = .ok (.ifCond .eq 7, 3) := by decide +kernel
theorem dX12_readsRule_24 : decode mX12_readsRule.2.1 24 = .ok (.iconst 1, 1) := by decide +kernel
theorem dX12_readsRule_25 : decode mX12_readsRule.2.1 25 = .ok (.goto 4, 3) := by decide +kernel
theorem dX12_readsRule_28 : decode mX12_readsRule.2.1 28 = .ok (.iconst 0, 1) := by decide +kernel
theorem dX12_readsRule_29 : decode mX12_readsRule.2.1 29 = .ok (.istore_n 2, 1) := by decide +kernel
theorem dX12_readsRule_30 : decode mX12_readsRule.2.1 30 = .ok (.aload_n 0, 1) := by decide +kernel
theorem dX12_readsRule_31 : decode mX12_readsRule.2.1 31 = .ok (.iload_n 1, 1) := by decide +kernel
theorem dX12_readsRule_32 : decode mX12_readsRule.2.1 32 = .ok (.bipush 40, 2) := by decide +kernel
theorem dX12_readsRule_34 : decode mX12_readsRule.2.1 34 = .ok (.iload_n 2, 1) := by decide +kernel
theorem dX12_readsRule_35 : decode mX12_readsRule.2.1 35 = .ok (.invokevirtual 248, 3) := by decide +kernel
theorem dX12_readsRule_38 : decode mX12_readsRule.2.1 38 = .ok (.ireturn, 1) := by decide +kernel
theorem dX12_laysCode_0 : decode mX12_laysCode.2.1 0 = .ok (.aload_n 0, 1) := by decide +kernel
theorem dX12_laysCode_1 : decode mX12_laysCode.2.1 1 = .ok (.iload_n 2, 1) := by decide +kernel
theorem dX12_laysCode_2 : decode mX12_laysCode.2.1 2 = .ok (.putfield 282, 3) := by decide +kernel
theorem dX12_laysCode_5 : decode mX12_laysCode.2.1 5 = .ok (.iconst 0, 1) := by decide +kernel
theorem dX12_laysCode_6 : decode mX12_laysCode.2.1 6 = .ok (.istore_n 3, 1) := by decide +kernel
theorem dX12_laysCode_7 : decode mX12_laysCode.2.1 7 = .ok (.iload_n 3, 1) := by decide +kernel
theorem dX12_laysCode_8 : decode mX12_laysCode.2.1 8 = .ok (.iload_n 2, 1) := by decide +kernel
theorem dX12_laysCode_9 : decode mX12_laysCode.2.1 9 = .ok (.if_icmp .ge 18, 3) := by decide +kernel
theorem dX12_laysCode_12 : decode mX12_laysCode.2.1 12 = .ok (.aload_n 0, 1) := by decide +kernel
theorem dX12_laysCode_13 : decode mX12_laysCode.2.1 13 = .ok (.getfield 61, 3) := by decide +kernel
theorem dX12_laysCode_16 : decode mX12_laysCode.2.1 16 = .ok (.iload_n 3, 1) := by decide +kernel
theorem dX12_laysCode_17 : decode mX12_laysCode.2.1 17 = .ok (.aload_n 1, 1) := by decide +kernel
theorem dX12_laysCode_18 : decode mX12_laysCode.2.1 18 = .ok (.iload_n 3, 1) := by decide +kernel
theorem dX12_laysCode_19 : decode mX12_laysCode.2.1 19 = .ok (.iaload, 1) := by decide +kernel
theorem dX12_laysCode_20 : decode mX12_laysCode.2.1 20 = .ok (.iastore, 1) := by decide +kernel
theorem dX12_laysCode_21 : decode mX12_laysCode.2.1 21 = .ok (.iinc 3 1, 3) := by decide +kernel
theorem dX12_laysCode_24 : decode mX12_laysCode.2.1 24 = .ok (.goto (-17), 3) := by decide +kernel
theorem dX12_laysCode_27 : decode mX12_laysCode.2.1 27 = .ok (.return_, 1) := by decide +kernel
theorem dX12_rule_0 : decode mX12_rule.2.1 0 = .ok (.aload_n 0, 1) := by decide +kernel
theorem dX12_rule_1 : decode mX12_rule.2.1 1 = .ok (.iconst 0, 1) := by decide +kernel
theorem dX12_rule_2 : decode mX12_rule.2.1 2 = .ok (.putfield 3, 3) := by decide +kernel
theorem dX12_rule_5 : decode mX12_rule.2.1 5 = .ok (.aload_n 0, 1) := by decide +kernel
theorem dX12_rule_6 : decode mX12_rule.2.1 6 = .ok (.invokevirtual 285, 3) := by decide +kernel
theorem dX12_rule_9 : decode mX12_rule.2.1 9 = .ok (.istore_n 1, 1) := by decide +kernel
theorem dX12_rule_10 : decode mX12_rule.2.1 10 = .ok (.iload_n 1, 1) := by decide +kernel
theorem dX12_rule_11 : decode mX12_rule.2.1 11 = .ok (.ifCond .ne 15, 3) := by decide +kernel
theorem dX12_rule_14 : decode mX12_rule.2.1 14 = .ok (.aload_n 0, 1) := by decide +kernel
theorem dX12_rule_15 : decode mX12_rule.2.1 15 = .ok (.aload_n 0, 1) := by decide +kernel
theorem dX12_rule_16 : decode mX12_rule.2.1 16 = .ok (.getfield 64, 3) := by decide +kernel
theorem dX12_rule_19 : decode mX12_rule.2.1 19 = .ok (.aload_n 0, 1) := by decide +kernel
theorem dX12_rule_20 : decode mX12_rule.2.1 20 = .ok (.getfield 261, 3) := by decide +kernel
theorem dX12_rule_23 : decode mX12_rule.2.1 23 = .ok (.invokevirtual 288, 3) := by decide +kernel
theorem dX12_rule_26 : decode mX12_rule.2.1 26 = .ok (.iload_n 1, 1) := by decide +kernel
theorem dX12_rule_27 : decode mX12_rule.2.1 27 = .ok (.ireturn, 1) := by decide +kernel
theorem dX12_worked_0 : decode mX12_worked.2.1 0 = .ok (.iload_n 0, 1) := by decide +kernel
theorem dX12_worked_1 : decode mX12_worked.2.1 1 = .ok (.tableswitch 93 0 5 #[39, 53, 67, 81, 85, 89], 39) := by decide +kernel
theorem dX12_worked_40 : decode mX12_worked.2.1 40 = .ok (.iload_n 1, 1) := by decide +kernel
theorem dX12_worked_41 : decode mX12_worked.2.1 41 = .ok (.iload_n 2, 1) := by decide +kernel
theorem dX12_worked_42 : decode mX12_worked.2.1 42 = .ok (.if_icmp .ge 7, 3) := by decide +kernel
theorem dX12_worked_45 : decode mX12_worked.2.1 45 = .ok (.iconst 1, 1) := by decide +kernel
theorem dX12_worked_46 : decode mX12_worked.2.1 46 = .ok (.goto 4, 3) := by decide +kernel
theorem dX12_worked_49 : decode mX12_worked.2.1 49 = .ok (.iconst 0, 1) := by decide +kernel
theorem dX12_worked_50 : decode mX12_worked.2.1 50 = .ok (.invokestatic 175, 3) := by decide +kernel
theorem dX12_worked_53 : decode mX12_worked.2.1 53 = .ok (.ireturn, 1) := by decide +kernel
theorem dX12_worked_54 : decode mX12_worked.2.1 54 = .ok (.iload_n 1, 1) := by decide +kernel
theorem dX12_worked_55 : decode mX12_worked.2.1 55 = .ok (.iload_n 2, 1) := by decide +kernel
theorem dX12_worked_56 : decode mX12_worked.2.1 56 = .ok (.if_icmp .le 7, 3) := by decide +kernel
theorem dX12_worked_59 : decode mX12_worked.2.1 59 = .ok (.iconst 1, 1) := by decide +kernel
theorem dX12_worked_60 : decode mX12_worked.2.1 60 = .ok (.goto 4, 3) := by decide +kernel
theorem dX12_worked_63 : decode mX12_worked.2.1 63 = .ok (.iconst 0, 1) := by decide +kernel
theorem dX12_worked_64 : decode mX12_worked.2.1 64 = .ok (.invokestatic 175, 3) := by decide +kernel
theorem dX12_worked_67 : decode mX12_worked.2.1 67 = .ok (.ireturn, 1) := by decide +kernel
theorem dX12_worked_68 : decode mX12_worked.2.1 68 = .ok (.iload_n 1, 1) := by decide +kernel
theorem dX12_worked_69 : decode mX12_worked.2.1 69 = .ok (.iload_n 2, 1) := by decide +kernel
theorem dX12_worked_70 : decode mX12_worked.2.1 70 = .ok (.if_icmp .ne 7, 3) := by decide +kernel
theorem dX12_worked_73 : decode mX12_worked.2.1 73 = .ok (.iconst 1, 1) := by decide +kernel
theorem dX12_worked_74 : decode mX12_worked.2.1 74 = .ok (.goto 4, 3) := by decide +kernel
theorem dX12_worked_77 : decode mX12_worked.2.1 77 = .ok (.iconst 0, 1) := by decide +kernel
theorem dX12_worked_78 : decode mX12_worked.2.1 78 = .ok (.invokestatic 175, 3) := by decide +kernel
theorem dX12_worked_81 : decode mX12_worked.2.1 81 = .ok (.ireturn, 1) := by decide +kernel
theorem dX12_worked_82 : decode mX12_worked.2.1 82 = .ok (.iload_n 1, 1) := by decide +kernel
theorem dX12_worked_83 : decode mX12_worked.2.1 83 = .ok (.iload_n 2, 1) := by decide +kernel
theorem dX12_worked_84 : decode mX12_worked.2.1 84 = .ok (.iadd, 1) := by decide +kernel
theorem dX12_worked_85 : decode mX12_worked.2.1 85 = .ok (.ireturn, 1) := by decide +kernel
theorem dX12_worked_86 : decode mX12_worked.2.1 86 = .ok (.iload_n 1, 1) := by decide +kernel
theorem dX12_worked_87 : decode mX12_worked.2.1 87 = .ok (.iload_n 2, 1) := by decide +kernel
theorem dX12_worked_88 : decode mX12_worked.2.1 88 = .ok (.isub, 1) := by decide +kernel
theorem dX12_worked_89 : decode mX12_worked.2.1 89 = .ok (.ireturn, 1) := by decide +kernel
theorem dX12_worked_90 : decode mX12_worked.2.1 90 = .ok (.iload_n 1, 1) := by decide +kernel
theorem dX12_worked_91 : decode mX12_worked.2.1 91 = .ok (.iload_n 2, 1) := by decide +kernel
theorem dX12_worked_92 : decode mX12_worked.2.1 92 = .ok (.imul, 1) := by decide +kernel
theorem dX12_worked_93 : decode mX12_worked.2.1 93 = .ok (.ireturn, 1) := by decide +kernel
theorem dX12_worked_94 : decode mX12_worked.2.1 94 = .ok (.iload_n 2, 1) := by decide +kernel
theorem dX12_worked_95 : decode mX12_worked.2.1 95 = .ok (.ifCond .ne 7, 3) := by decide +kernel
theorem dX12_worked_98 : decode mX12_worked.2.1 98 = .ok (.iconst 0, 1) := by decide +kernel
theorem dX12_worked_99 : decode mX12_worked.2.1 99 = .ok (.goto 6, 3) := by decide +kernel
theorem dX12_worked_102 : decode mX12_worked.2.1 102 = .ok (.iload_n 1, 1) := by decide +kernel
theorem dX12_worked_103 : decode mX12_worked.2.1 103 = .ok (.iload_n 2, 1) := by decide +kernel
theorem dX12_worked_104 : decode mX12_worked.2.1 104 = .ok (.idiv, 1) := by decide +kernel
theorem dX12_worked_105 : decode mX12_worked.2.1 105 = .ok (.ireturn, 1) := by decide +kernel
theorem dX12_ruled_0 : decode mX12_ruled.2.1 0 = .ok (.iconst 0, 1) := by decide +kernel
theorem dX12_ruled_1 : decode mX12_ruled.2.1 1 = .ok (.istore_n 1, 1) := by decide +kernel
theorem dX12_ruled_2 : decode mX12_ruled.2.1 2 = .ok (.iconst 0, 1) := by decide +kernel
theorem dX12_ruled_3 : decode mX12_ruled.2.1 3 = .ok (.istore_n 2, 1) := by decide +kernel
theorem dX12_ruled_4 : decode mX12_ruled.2.1 4 = .ok (.iload_n 2, 1) := by decide +kernel
theorem dX12_ruled_5 : decode mX12_ruled.2.1 5 = .ok (.aload_n 0, 1) := by decide +kernel
theorem dX12_ruled_6 : decode mX12_ruled.2.1 6 = .ok (.getfield 282, 3) := by decide +kernel
theorem dX12_ruled_9 : decode mX12_ruled.2.1 9 = .ok (.if_icmp .ge 116, 3) := by decide +kernel
theorem dX12_ruled_12 : decode mX12_ruled.2.1 12 = .ok (.aload_n 0, 1) := by decide +kernel
theorem dX12_ruled_13 : decode mX12_ruled.2.1 13 = .ok (.getfield 61, 3) := by decide +kernel
theorem dX12_ruled_16 : decode mX12_ruled.2.1 16 = .ok (.iload_n 2, 1) := by decide +kernel
theorem dX12_ruled_17 : decode mX12_ruled.2.1 17 = .ok (.iaload, 1) := by decide +kernel
theorem dX12_ruled_18 : decode mX12_ruled.2.1 18 = .ok (.istore_n 3, 1) := by decide +kernel
theorem dX12_ruled_19 : decode mX12_ruled.2.1 19 = .ok (.iload_n 3, 1) := by decide +kernel
theorem dX12_ruled_20 : decode mX12_ruled.2.1 20 = .ok (.sipush 3000, 3) := by decide +kernel
theorem dX12_ruled_23 : decode mX12_ruled.2.1 23 = .ok (.if_icmp .ne 23, 3) := by decide +kernel
theorem dX12_ruled_26 : decode mX12_ruled.2.1 26 = .ok (.aload_n 0, 1) := by decide +kernel
theorem dX12_ruled_27 : decode mX12_ruled.2.1 27 = .ok (.getfield 67, 3) := by decide +kernel
theorem dX12_ruled_30 : decode mX12_ruled.2.1 30 = .ok (.iload_n 1, 1) := by decide +kernel
theorem dX12_ruled_31 : decode mX12_ruled.2.1 31 = .ok (.iconst 1, 1) := by decide +kernel
theorem dX12_ruled_32 : decode mX12_ruled.2.1 32 = .ok (.isub, 1) := by decide +kernel
theorem dX12_ruled_33 : decode mX12_ruled.2.1 33 = .ok (.aload_n 0, 1) := by decide +kernel
theorem dX12_ruled_34 : decode mX12_ruled.2.1 34 = .ok (.getfield 67, 3) := by decide +kernel
theorem dX12_ruled_37 : decode mX12_ruled.2.1 37 = .ok (.iload_n 1, 1) := by decide +kernel
theorem dX12_ruled_38 : decode mX12_ruled.2.1 38 = .ok (.iconst 1, 1) := by decide +kernel
theorem dX12_ruled_39 : decode mX12_ruled.2.1 39 = .ok (.isub, 1) := by decide +kernel
theorem dX12_ruled_40 : decode mX12_ruled.2.1 40 = .ok (.iaload, 1) := by decide +kernel
theorem dX12_ruled_41 : decode mX12_ruled.2.1 41 = .ok (.ineg, 1) := by decide +kernel
theorem dX12_ruled_42 : decode mX12_ruled.2.1 42 = .ok (.iastore, 1) := by decide +kernel
theorem dX12_ruled_43 : decode mX12_ruled.2.1 43 = .ok (.goto 76, 3) := by decide +kernel
theorem dX12_ruled_46 : decode mX12_ruled.2.1 46 = .ok (.iload_n 3, 1) := by decide +kernel
theorem dX12_ruled_47 : decode mX12_ruled.2.1 47 = .ok (.sipush 2000, 3) := by decide +kernel
theorem dX12_ruled_50 : decode mX12_ruled.2.1 50 = .ok (.if_icmp .lt 39, 3) := by decide +kernel
theorem dX12_ruled_53 : decode mX12_ruled.2.1 53 = .ok (.iinc 1 (-1), 3) := by decide +kernel
theorem dX12_ruled_56 : decode mX12_ruled.2.1 56 = .ok (.aload_n 0, 1) := by decide +kernel
theorem dX12_ruled_57 : decode mX12_ruled.2.1 57 = .ok (.getfield 67, 3) := by decide +kernel
theorem dX12_ruled_60 : decode mX12_ruled.2.1 60 = .ok (.iload_n 1, 1) := by decide +kernel
theorem dX12_ruled_61 : decode mX12_ruled.2.1 61 = .ok (.iconst 1, 1) := by decide +kernel
theorem dX12_ruled_62 : decode mX12_ruled.2.1 62 = .ok (.isub, 1) := by decide +kernel
theorem dX12_ruled_63 : decode mX12_ruled.2.1 63 = .ok (.iload_n 3, 1) := by decide +kernel
theorem dX12_ruled_64 : decode mX12_ruled.2.1 64 = .ok (.sipush 2000, 3) := by decide +kernel
theorem dX12_ruled_67 : decode mX12_ruled.2.1 67 = .ok (.isub, 1) := by decide +kernel
theorem dX12_ruled_68 : decode mX12_ruled.2.1 68 = .ok (.aload_n 0, 1) := by decide +kernel
theorem dX12_ruled_69 : decode mX12_ruled.2.1 69 = .ok (.getfield 67, 3) := by decide +kernel
theorem dX12_ruled_72 : decode mX12_ruled.2.1 72 = .ok (.iload_n 1, 1) := by decide +kernel
theorem dX12_ruled_73 : decode mX12_ruled.2.1 73 = .ok (.iconst 1, 1) := by decide +kernel
theorem dX12_ruled_74 : decode mX12_ruled.2.1 74 = .ok (.isub, 1) := by decide +kernel
theorem dX12_ruled_75 : decode mX12_ruled.2.1 75 = .ok (.iaload, 1) := by decide +kernel
theorem dX12_ruled_76 : decode mX12_ruled.2.1 76 = .ok (.aload_n 0, 1) := by decide +kernel
theorem dX12_ruled_77 : decode mX12_ruled.2.1 77 = .ok (.getfield 67, 3) := by decide +kernel
theorem dX12_ruled_80 : decode mX12_ruled.2.1 80 = .ok (.iload_n 1, 1) := by decide +kernel
theorem dX12_ruled_81 : decode mX12_ruled.2.1 81 = .ok (.iaload, 1) := by decide +kernel
theorem dX12_ruled_82 : decode mX12_ruled.2.1 82 = .ok (.invokestatic 292, 3) := by decide +kernel
theorem dX12_ruled_85 : decode mX12_ruled.2.1 85 = .ok (.iastore, 1) := by decide +kernel
theorem dX12_ruled_86 : decode mX12_ruled.2.1 86 = .ok (.goto 33, 3) := by decide +kernel
theorem dX12_ruled_89 : decode mX12_ruled.2.1 89 = .ok (.aload_n 0, 1) := by decide +kernel
theorem dX12_ruled_90 : decode mX12_ruled.2.1 90 = .ok (.getfield 67, 3) := by decide +kernel
theorem dX12_ruled_93 : decode mX12_ruled.2.1 93 = .ok (.iload_n 1, 1) := by decide +kernel
theorem dX12_ruled_94 : decode mX12_ruled.2.1 94 = .ok (.iload_n 3, 1) := by decide +kernel
theorem dX12_ruled_95 : decode mX12_ruled.2.1 95 = .ok (.sipush 1000, 3) := by decide +kernel
theorem dX12_ruled_98 : decode mX12_ruled.2.1 98 = .ok (.if_icmp .lt 16, 3) := by decide +kernel
theorem dX12_ruled_101 : decode mX12_ruled.2.1 101 = .ok (.aload_n 0, 1) := by decide +kernel
theorem dX12_ruled_102 : decode mX12_ruled.2.1 102 = .ok (.getfield 70, 3) := by decide +kernel
theorem dX12_ruled_105 : decode mX12_ruled.2.1 105 = .ok (.iload_n 3, 1) := by decide +kernel
theorem dX12_ruled_106 : decode mX12_ruled.2.1 106 = .ok (.sipush 1000, 3) := by decide +kernel
theorem dX12_ruled_109 : decode mX12_ruled.2.1 109 = .ok (.isub, 1) := by decide +kernel
theorem dX12_ruled_110 : decode mX12_ruled.2.1 110 = .ok (.iaload, 1) := by decide +kernel
theorem dX12_ruled_111 : decode mX12_ruled.2.1 111 = .ok (.goto 4, 3) := by decide +kernel
theorem dX12_ruled_114 : decode mX12_ruled.2.1 114 = .ok (.iload_n 3, 1) := by decide +kernel
theorem dX12_ruled_115 : decode mX12_ruled.2.1 115 = .ok (.iastore, 1) := by decide +kernel
theorem dX12_ruled_116 : decode mX12_ruled.2.1 116 = .ok (.iinc 1 1, 3) := by decide +kernel
theorem dX12_ruled_119 : decode mX12_ruled.2.1 119 = .ok (.iinc 2 1, 3) := by decide +kernel
theorem dX12_ruled_122 : decode mX12_ruled.2.1 122 = .ok (.goto (-118), 3) := by decide +kernel
theorem dX12_ruled_125 : decode mX12_ruled.2.1 125 = .ok (.aload_n 0, 1) := by decide +kernel
theorem dX12_ruled_126 : decode mX12_ruled.2.1 126 = .ok (.getfield 282, 3) := by decide +kernel
theorem dX12_ruled_129 : decode mX12_ruled.2.1 129 = .ok (.ifCond .ne 38, 3) := by decide +kernel
theorem dX12_ruled_132 : decode mX12_ruled.2.1 132 = .ok (.aload_n 0, 1) := by decide +kernel
theorem dX12_ruled_133 : decode mX12_ruled.2.1 133 = .ok (.getfield 70, 3) := by decide +kernel
theorem dX12_ruled_136 : decode mX12_ruled.2.1 136 = .ok (.iconst 3, 1) := by decide +kernel
theorem dX12_ruled_137 : decode mX12_ruled.2.1 137 = .ok (.iaload, 1) := by decide +kernel
theorem dX12_ruled_138 : decode mX12_ruled.2.1 138 = .ok (.ifCond .ne 22, 3) := by decide +kernel
theorem dX12_ruled_141 : decode mX12_ruled.2.1 141 = .ok (.aload_n 0, 1) := by decide +kernel
theorem dX12_ruled_142 : decode mX12_ruled.2.1 142 = .ok (.getfield 70, 3) := by decide +kernel
theorem dX12_ruled_145 : decode mX12_ruled.2.1 145 = .ok (.iconst 1, 1) := by decide +kernel
theorem dX12_ruled_146 : decode mX12_ruled.2.1 146 = .ok (.iaload, 1) := by decide +kernel
theorem dX12_ruled_147 : decode mX12_ruled.2.1 147 = .ok (.aload_n 0, 1) := by decide +kernel
theorem dX12_ruled_148 : decode mX12_ruled.2.1 148 = .ok (.getfield 70, 3) := by decide +kernel
theorem dX12_ruled_151 : decode mX12_ruled.2.1 151 = .ok (.iconst 2, 1) := by decide +kernel
theorem dX12_ruled_152 : decode mX12_ruled.2.1 152 = .ok (.iaload, 1) := by decide +kernel
theorem dX12_ruled_153 : decode mX12_ruled.2.1 153 = .ok (.if_icmp .gt 7, 3) := by decide +kernel
theorem dX12_ruled_156 : decode mX12_ruled.2.1 156 = .ok (.iconst 1, 1) := by decide +kernel
theorem dX12_ruled_157 : decode mX12_ruled.2.1 157 = .ok (.goto 4, 3) := by decide +kernel
theorem dX12_ruled_160 : decode mX12_ruled.2.1 160 = .ok (.iconst 0, 1) := by decide +kernel
theorem dX12_ruled_161 : decode mX12_ruled.2.1 161 = .ok (.invokestatic 175, 3) := by decide +kernel
theorem dX12_ruled_164 : decode mX12_ruled.2.1 164 = .ok (.goto 9, 3) := by decide +kernel
theorem dX12_ruled_167 : decode mX12_ruled.2.1 167 = .ok (.aload_n 0, 1) := by decide +kernel
theorem dX12_ruled_168 : decode mX12_ruled.2.1 168 = .ok (.getfield 67, 3) := by decide +kernel
theorem dX12_ruled_171 : decode mX12_ruled.2.1 171 = .ok (.iconst 0, 1) := by decide +kernel
theorem dX12_ruled_172 : decode mX12_ruled.2.1 172 = .ok (.iaload, 1) := by decide +kernel
theorem dX12_ruled_173 : decode mX12_ruled.2.1 173 = .ok (.ireturn, 1) := by decide +kernel
theorem dX12_lets_0 : decode mX12_lets.2.1 0 = .ok (.aload_n 0, 1) := by decide +kernel
theorem dX12_lets_1 : decode mX12_lets.2.1 1 = .ok (.getfield 70, 3) := by decide +kernel
theorem dX12_lets_4 : decode mX12_lets.2.1 4 = .ok (.iconst 0, 1) := by decide +kernel
theorem dX12_lets_5 : decode mX12_lets.2.1 5 = .ok (.iload_n 3, 1) := by decide +kernel
theorem dX12_lets_6 : decode mX12_lets.2.1 6 = .ok (.iastore, 1) := by decide +kernel
theorem dX12_lets_7 : decode mX12_lets.2.1 7 = .ok (.aload_n 0, 1) := by decide +kernel
theorem dX12_lets_8 : decode mX12_lets.2.1 8 = .ok (.getfield 70, 3) := by decide +kernel
theorem dX12_lets_11 : decode mX12_lets.2.1 11 = .ok (.iconst 1, 1) := by decide +kernel
theorem dX12_lets_12 : decode mX12_lets.2.1 12 = .ok (.iload 4, 2) := by decide +kernel
theorem dX12_lets_14 : decode mX12_lets.2.1 14 = .ok (.iastore, 1) := by decide +kernel
theorem dX12_lets_15 : decode mX12_lets.2.1 15 = .ok (.aload_n 0, 1) := by decide +kernel
theorem dX12_lets_16 : decode mX12_lets.2.1 16 = .ok (.getfield 70, 3) := by decide +kernel
theorem dX12_lets_19 : decode mX12_lets.2.1 19 = .ok (.iconst 2, 1) := by decide +kernel
theorem dX12_lets_20 : decode mX12_lets.2.1 20 = .ok (.aload_n 0, 1) := by decide +kernel
theorem dX12_lets_21 : decode mX12_lets.2.1 21 = .ok (.getfield 37, 3) := by decide +kernel
theorem dX12_lets_24 : decode mX12_lets.2.1 24 = .ok (.iload_n 2, 1) := by decide +kernel
theorem dX12_lets_25 : decode mX12_lets.2.1 25 = .ok (.iaload, 1) := by decide +kernel
theorem dX12_lets_26 : decode mX12_lets.2.1 26 = .ok (.iastore, 1) := by decide +kernel
theorem dX12_lets_27 : decode mX12_lets.2.1 27 = .ok (.aload_n 0, 1) := by decide +kernel
theorem dX12_lets_28 : decode mX12_lets.2.1 28 = .ok (.getfield 70, 3) := by decide +kernel
theorem dX12_lets_31 : decode mX12_lets.2.1 31 = .ok (.iconst 3, 1) := by decide +kernel
theorem dX12_lets_32 : decode mX12_lets.2.1 32 = .ok (.aload_n 0, 1) := by decide +kernel
theorem dX12_lets_33 : decode mX12_lets.2.1 33 = .ok (.getfield 40, 3) := by decide +kernel
theorem dX12_lets_36 : decode mX12_lets.2.1 36 = .ok (.iload_n 2, 1) := by decide +kernel
theorem dX12_lets_37 : decode mX12_lets.2.1 37 = .ok (.iaload, 1) := by decide +kernel
theorem dX12_lets_38 : decode mX12_lets.2.1 38 = .ok (.iload_n 3, 1) := by decide +kernel
theorem dX12_lets_39 : decode mX12_lets.2.1 39 = .ok (.invokestatic 296, 3) := by decide +kernel
theorem dX12_lets_42 : decode mX12_lets.2.1 42 = .ok (.invokestatic 175, 3) := by decide +kernel
theorem dX12_lets_45 : decode mX12_lets.2.1 45 = .ok (.iastore, 1) := by decide +kernel
theorem dX12_lets_46 : decode mX12_lets.2.1 46 = .ok (.aload_n 0, 1) := by decide +kernel
theorem dX12_lets_47 : decode mX12_lets.2.1 47 = .ok (.getfield 70, 3) := by decide +kernel
theorem dX12_lets_50 : decode mX12_lets.2.1 50 = .ok (.iconst 4, 1) := by decide +kernel
theorem dX12_lets_51 : decode mX12_lets.2.1 51 = .ok (.aload_n 0, 1) := by decide +kernel
theorem dX12_lets_52 : decode mX12_lets.2.1 52 = .ok (.getfield 40, 3) := by decide +kernel
theorem dX12_lets_55 : decode mX12_lets.2.1 55 = .ok (.iload_n 2, 1) := by decide +kernel
theorem dX12_lets_56 : decode mX12_lets.2.1 56 = .ok (.iaload, 1) := by decide +kernel
theorem dX12_lets_57 : decode mX12_lets.2.1 57 = .ok (.invokestatic 300, 3) := by decide +kernel
theorem dX12_lets_60 : decode mX12_lets.2.1 60 = .ok (.iastore, 1) := by decide +kernel
theorem dX12_lets_61 : decode mX12_lets.2.1 61 = .ok (.aload_n 0, 1) := by decide +kernel
theorem dX12_lets_62 : decode mX12_lets.2.1 62 = .ok (.getfield 70, 3) := by decide +kernel
theorem dX12_lets_65 : decode mX12_lets.2.1 65 = .ok (.iconst 5, 1) := by decide +kernel
theorem dX12_lets_66 : decode mX12_lets.2.1 66 = .ok (.aload_n 1, 1) := by decide +kernel
theorem dX12_lets_67 : decode mX12_lets.2.1 67 = .ok (.bipush 25, 2) := by decide +kernel
theorem dX12_lets_69 : decode mX12_lets.2.1 69 = .ok (.iaload, 1) := by decide +kernel
theorem dX12_lets_70 : decode mX12_lets.2.1 70 = .ok (.bipush 24, 2) := by decide +kernel
theorem dX12_lets_72 : decode mX12_lets.2.1 72 = .ok (.irem, 1) := by decide +kernel
theorem dX12_lets_73 : decode mX12_lets.2.1 73 = .ok (.iastore, 1) := by decide +kernel
theorem dX12_lets_74 : decode mX12_lets.2.1 74 = .ok (.aload_n 1, 1) := by decide +kernel
theorem dX12_lets_75 : decode mX12_lets.2.1 75 = .ok (.bipush 24, 2) := by decide +kernel
theorem dX12_lets_77 : decode mX12_lets.2.1 77 = .ok (.iaload, 1) := by decide +kernel
theorem dX12_lets_78 : decode mX12_lets.2.1 78 = .ok (.iload_n 2, 1) := by decide +kernel
theorem dX12_lets_79 : decode mX12_lets.2.1 79 = .ok (.invokestatic 296, 3) := by decide +kernel
theorem dX12_lets_82 : decode mX12_lets.2.1 82 = .ok (.ifCond .ne 10, 3) := by decide +kernel
theorem dX12_lets_85 : decode mX12_lets.2.1 85 = .ok (.aload_n 0, 1) := by decide +kernel
theorem dX12_lets_86 : decode mX12_lets.2.1 86 = .ok (.invokevirtual 305, 3) := by decide +kernel
theorem dX12_lets_89 : decode mX12_lets.2.1 89 = .ok (.ifCond .eq 7, 3) := by decide +kernel
theorem dX12_lets_92 : decode mX12_lets.2.1 92 = .ok (.iconst 1, 1) := by decide +kernel
theorem dX12_lets_93 : decode mX12_lets.2.1 93 = .ok (.goto 4, 3) := by decide +kernel
theorem dX12_lets_96 : decode mX12_lets.2.1 96 = .ok (.iconst 0, 1) := by decide +kernel
theorem dX12_lets_97 : decode mX12_lets.2.1 97 = .ok (.ireturn, 1) := by decide +kernel
theorem dX12_panesOf_0 : decode mX12_panesOf.2.1 0 = .ok (.iconst 0, 1) := by decide +kernel
theorem dX12_panesOf_1 : decode mX12_panesOf.2.1 1 = .ok (.istore_n 3, 1) := by decide +kernel
theorem dX12_panesOf_2 : decode mX12_panesOf.2.1 2 = .ok (.iconst 0, 1) := by decide +kernel
theorem dX12_panesOf_3 : decode mX12_panesOf.2.1 3 = .ok (.istore 4, 2) := by decide +kernel
theorem dX12_panesOf_5 : decode mX12_panesOf.2.1 5 = .ok (.iload 4, 2) := by decide +kernel
theorem dX12_panesOf_7 : decode mX12_panesOf.2.1 7 = .ok (.aload_n 0, 1) := by decide +kernel
theorem dX12_panesOf_8 : decode mX12_panesOf.2.1 8 = .ok (.getfield 147, 3) := by decide +kernel
theorem dX12_panesOf_11 : decode mX12_panesOf.2.1 11 = .ok (.if_icmp .ge 31, 3) := by decide +kernel
theorem dX12_panesOf_14 : decode mX12_panesOf.2.1 14 = .ok (.iload_n 3, 1) := by decide +kernel
theorem dX12_panesOf_15 : decode mX12_panesOf.2.1 15 = .ok (.aload_n 1, 1) := by decide +kernel
theorem dX12_panesOf_16 : decode mX12_panesOf.2.1 16 = .ok (.bipush 16, 2) := by decide +kernel
theorem dX12_panesOf_18 : decode mX12_panesOf.2.1 18 = .ok (.iload 4, 2) := by decide +kernel
theorem dX12_panesOf_20 : decode mX12_panesOf.2.1 20 = .ok (.iadd, 1) := by decide +kernel
theorem dX12_panesOf_21 : decode mX12_panesOf.2.1 21 = .ok (.iaload, 1) := by decide +kernel
theorem dX12_panesOf_22 : decode mX12_panesOf.2.1 22 = .ok (.iload_n 2, 1) := by decide +kernel
theorem dX12_panesOf_23 : decode mX12_panesOf.2.1 23 = .ok (.if_icmp .ne 10, 3) := by decide +kernel
theorem dX12_panesOf_26 : decode mX12_panesOf.2.1 26 = .ok (.iconst 1, 1) := by decide +kernel
theorem dX12_panesOf_27 : decode mX12_panesOf.2.1 27 = .ok (.iload 4, 2) := by decide +kernel
theorem dX12_panesOf_29 : decode mX12_panesOf.2.1 29 = .ok (.ishl, 1) := by decide +kernel
theorem dX12_panesOf_30 : decode mX12_panesOf.2.1 30 = .ok (.goto 4, 3) := by decide +kernel
theorem dX12_panesOf_33 : decode mX12_panesOf.2.1 33 = .ok (.iconst 0, 1) := by decide +kernel
theorem dX12_panesOf_34 : decode mX12_panesOf.2.1 34 = .ok (.ior, 1) := by decide +kernel
theorem dX12_panesOf_35 : decode mX12_panesOf.2.1 35 = .ok (.istore_n 3, 1) := by decide +kernel
theorem dX12_panesOf_36 : decode mX12_panesOf.2.1 36 = .ok (.iinc 4 1, 3) := by decide +kernel
theorem dX12_panesOf_39 : decode mX12_panesOf.2.1 39 = .ok (.goto (-34), 3) := by decide +kernel
theorem dX12_panesOf_42 : decode mX12_panesOf.2.1 42 = .ok (.iload_n 3, 1) := by decide +kernel
theorem dX12_panesOf_43 : decode mX12_panesOf.2.1 43 = .ok (.ireturn, 1) := by decide +kernel
theorem dX12_letsSome_0 : decode mX12_letsSome.2.1 0 = .ok (.iconst 0, 1) := by decide +kernel
theorem dX12_letsSome_1 : decode mX12_letsSome.2.1 1 = .ok (.istore 5, 2) := by decide +kernel
theorem dX12_letsSome_3 : decode mX12_letsSome.2.1 3 = .ok (.iconst 0, 1) := by decide +kernel
theorem dX12_letsSome_4 : decode mX12_letsSome.2.1 4 = .ok (.istore 6, 2) := by decide +kernel
theorem dX12_letsSome_6 : decode mX12_letsSome.2.1 6 = .ok (.iload 6, 2) := by decide +kernel
theorem dX12_letsSome_8 : decode mX12_letsSome.2.1 8 = .ok (.aload_n 0, 1) := by decide +kernel
theorem dX12_letsSome_9 : decode mX12_letsSome.2.1 9 = .ok (.getfield 147, 3) := by decide +kernel
theorem dX12_letsSome_12 : decode mX12_letsSome.2.1 12 = .ok (.if_icmp .ge 43, 3) := by decide +kernel
theorem dX12_letsSome_15 : decode mX12_letsSome.2.1 15 = .ok (.iload 5, 2) := by decide +kernel
theorem dX12_letsSome_17 : decode mX12_letsSome.2.1 17 = .ok (.ifCond .ne 25, 3) := by decide +kernel
theorem dX12_letsSome_20 : decode mX12_letsSome.2.1 20 = .ok (.iload_n 2, 1) := by decide +kernel
theorem dX12_letsSome_21 : decode mX12_letsSome.2.1 21 = .ok (.iload 6, 2) := by decide +kernel
theorem dX12_letsSome_23 : decode mX12_letsSome.2.1 23 = .ok (.invokestatic 296, 3) := by decide +kernel
theorem dX12_letsSome_26 : decode mX12_letsSome.2.1 26 = .ok (.ifCond .eq 20, 3) := by decide +kernel
theorem dX12_letsSome_29 : decode mX12_letsSome.2.1 29 = .ok (.aload_n 0, 1) := by decide +kernel
theorem dX12_letsSome_30 : decode mX12_letsSome.2.1 30 = .ok (.aload_n 1, 1) := by decide +kernel
theorem dX12_letsSome_31 : decode mX12_letsSome.2.1 31 = .ok (.iload 6, 2) := by decide +kernel
theorem dX12_letsSome_33 : decode mX12_letsSome.2.1 33 = .ok (.iload_n 3, 1) := by decide +kernel
theorem dX12_letsSome_34 : decode mX12_letsSome.2.1 34 = .ok (.iload 4, 2) := by decide +kernel
theorem dX12_letsSome_36 : decode mX12_letsSome.2.1 36 = .ok (.invokevirtual 308, 3) := by decide +kernel
theorem dX12_letsSome_39 : decode mX12_letsSome.2.1 39 = .ok (.ifCond .eq 7, 3) := by decide +kernel
theorem dX12_letsSome_42 : decode mX12_letsSome.2.1 42 = .ok (.iconst 1, 1) := by decide +kernel
theorem dX12_letsSome_43 : decode mX12_letsSome.2.1 43 = .ok (.goto 4, 3) := by decide +kernel
theorem dX12_letsSome_46 : decode mX12_letsSome.2.1 46 = .ok (.iconst 0, 1) := by decide +kernel
theorem dX12_letsSome_47 : decode mX12_letsSome.2.1 47 = .ok (.istore 5, 2) := by decide +kernel
theorem dX12_letsSome_49 : decode mX12_letsSome.2.1 49 = .ok (.iinc 6 1, 3) := by decide +kernel
theorem dX12_letsSome_52 : decode mX12_letsSome.2.1 52 = .ok (.goto (-46), 3) := by decide +kernel
theorem dX12_letsSome_55 : decode mX12_letsSome.2.1 55 = .ok (.iload 5, 2) := by decide +kernel
theorem dX12_letsSome_57 : decode mX12_letsSome.2.1 57 = .ok (.ireturn, 1) := by decide +kernel
theorem dX12_isNear_0 : decode mX12_isNear.2.1 0 = .ok (.aload_n 0, 1) := by decide +kernel
theorem dX12_isNear_1 : decode mX12_isNear.2.1 1 = .ok (.aload_n 0, 1) := by decide +kernel
theorem dX12_isNear_2 : decode mX12_isNear.2.1 2 = .ok (.getfield 43, 3) := by decide +kernel
theorem dX12_isNear_5 : decode mX12_isNear.2.1 5 = .ok (.iload_n 1, 1) := by decide +kernel
theorem dX12_isNear_6 : decode mX12_isNear.2.1 6 = .ok (.iaload, 1) := by decide +kernel
theorem dX12_isNear_7 : decode mX12_isNear.2.1 7 = .ok (.iload_n 2, 1) := by decide +kernel
theorem dX12_isNear_8 : decode mX12_isNear.2.1 8 = .ok (.invokevirtual 312, 3) := by decide +kernel
theorem dX12_isNear_11 : decode mX12_isNear.2.1 11 = .ok (.aload_n 0, 1) := by decide +kernel
theorem dX12_isNear_12 : decode mX12_isNear.2.1 12 = .ok (.getfield 46, 3) := by decide +kernel
theorem dX12_isNear_15 : decode mX12_isNear.2.1 15 = .ok (.iload_n 1, 1) := by decide +kernel
theorem dX12_isNear_16 : decode mX12_isNear.2.1 16 = .ok (.iaload, 1) := by decide +kernel
theorem dX12_isNear_17 : decode mX12_isNear.2.1 17 = .ok (.if_icmp .gt 7, 3) := by decide +kernel
theorem dX12_isNear_20 : decode mX12_isNear.2.1 20 = .ok (.iconst 1, 1) := by decide +kernel
theorem dX12_isNear_21 : decode mX12_isNear.2.1 21 = .ok (.goto 4, 3) := by decide +kernel
theorem dX12_isNear_24 : decode mX12_isNear.2.1 24 = .ok (.iconst 0, 1) := by decide +kernel
theorem dX12_isNear_25 : decode mX12_isNear.2.1 25 = .ok (.ireturn, 1) := by decide +kernel
theorem dX12_near_0 : decode mX12_near.2.1 0 = .ok (.iconst 0, 1) := by decide +kernel
theorem dX12_near_1 : decode mX12_near.2.1 1 = .ok (.istore_n 3, 1) := by decide +kernel
theorem dX12_near_2 : decode mX12_near.2.1 2 = .ok (.iconst 0, 1) := by decide +kernel
theorem dX12_near_3 : decode mX12_near.2.1 3 = .ok (.istore 4, 2) := by decide +kernel
theorem dX12_near_5 : decode mX12_near.2.1 5 = .ok (.iload 4, 2) := by decide +kernel
theorem dX12_near_7 : decode mX12_near.2.1 7 = .ok (.aload_n 0, 1) := by decide +kernel
theorem dX12_near_8 : decode mX12_near.2.1 8 = .ok (.getfield 140, 3) := by decide +kernel
theorem dX12_near_11 : decode mX12_near.2.1 11 = .ok (.if_icmp .ge 32, 3) := by decide +kernel
theorem dX12_near_14 : decode mX12_near.2.1 14 = .ok (.iload_n 3, 1) := by decide +kernel
theorem dX12_near_15 : decode mX12_near.2.1 15 = .ok (.aload_n 0, 1) := by decide +kernel
theorem dX12_near_16 : decode mX12_near.2.1 16 = .ok (.iload_n 2, 1) := by decide +kernel
theorem dX12_near_17 : decode mX12_near.2.1 17 = .ok (.aload_n 1, 1) := by decide +kernel
theorem dX12_near_18 : decode mX12_near.2.1 18 = .ok (.iload 4, 2) := by decide +kernel
theorem dX12_near_20 : decode mX12_near.2.1 20 = .ok (.iaload, 1) := by decide +kernel
theorem dX12_near_21 : decode mX12_near.2.1 21 = .ok (.invokevirtual 315, 3) := by decide +kernel
theorem dX12_near_24 : decode mX12_near.2.1 24 = .ok (.ifCond .eq 10, 3) := by decide +kernel
theorem dX12_near_27 : decode mX12_near.2.1 27 = .ok (.iconst 1, 1) := by decide +kernel
theorem dX12_near_28 : decode mX12_near.2.1 28 = .ok (.iload 4, 2) := by decide +kernel
theorem dX12_near_30 : decode mX12_near.2.1 30 = .ok (.ishl, 1) := by decide +kernel
theorem dX12_near_31 : decode mX12_near.2.1 31 = .ok (.goto 4, 3) := by decide +kernel
theorem dX12_near_34 : decode mX12_near.2.1 34 = .ok (.iconst 0, 1) := by decide +kernel
theorem dX12_near_35 : decode mX12_near.2.1 35 = .ok (.ior, 1) := by decide +kernel
theorem dX12_near_36 : decode mX12_near.2.1 36 = .ok (.istore_n 3, 1) := by decide +kernel
theorem dX12_near_37 : decode mX12_near.2.1 37 = .ok (.iinc 4 1, 3) := by decide +kernel
theorem dX12_near_40 : decode mX12_near.2.1 40 = .ok (.goto (-35), 3) := by decide +kernel
theorem dX12_near_43 : decode mX12_near.2.1 43 = .ok (.iload_n 3, 1) := by decide +kernel
theorem dX12_near_44 : decode mX12_near.2.1 44 = .ok (.ireturn, 1) := by decide +kernel
theorem dX12_seenBy_0 : decode mX12_seenBy.2.1 0 = .ok (.aload_n 0, 1) := by decide +kernel
theorem dX12_seenBy_1 : decode mX12_seenBy.2.1 1 = .ok (.aload_n 1, 1) := by decide +kernel
theorem dX12_seenBy_2 : decode mX12_seenBy.2.1 2 = .ok (.iload_n 2, 1) := by decide +kernel
theorem dX12_seenBy_3 : decode mX12_seenBy.2.1 3 = .ok (.invokevirtual 318, 3) := by decide +kernel
theorem dX12_seenBy_6 : decode mX12_seenBy.2.1 6 = .ok (.istore 4, 2) := by decide +kernel
theorem dX12_seenBy_8 : decode mX12_seenBy.2.1 8 = .ok (.iconst 0, 1) := by decide +kernel
theorem dX12_seenBy_9 : decode mX12_seenBy.2.1 9 = .ok (.istore 5, 2) := by decide +kernel
theorem dX12_seenBy_11 : decode mX12_seenBy.2.1 11 = .ok (.iload 5, 2) := by decide +kernel
theorem dX12_seenBy_13 : decode mX12_seenBy.2.1 13 = .ok (.aload_n 0, 1) := by decide +kernel
theorem dX12_seenBy_14 : decode mX12_seenBy.2.1 14 = .ok (.getfield 140, 3) := by decide +kernel
theorem dX12_seenBy_17 : decode mX12_seenBy.2.1 17 = .ok (.if_icmp .ge 57, 3) := by decide +kernel
theorem dX12_seenBy_20 : decode mX12_seenBy.2.1 20 = .ok (.iload 4, 2) := by decide +kernel
theorem dX12_seenBy_22 : decode mX12_seenBy.2.1 22 = .ok (.iload 4, 2) := by decide +kernel
theorem dX12_seenBy_24 : decode mX12_seenBy.2.1 24 = .ok (.iload 5, 2) := by decide +kernel
theorem dX12_seenBy_26 : decode mX12_seenBy.2.1 26 = .ok (.invokestatic 296, 3) := by decide +kernel
theorem dX12_seenBy_29 : decode mX12_seenBy.2.1 29 = .ok (.ifCond .eq 35, 3) := by decide +kernel
theorem dX12_seenBy_32 : decode mX12_seenBy.2.1 32 = .ok (.aload_n 0, 1) := by decide +kernel
theorem dX12_seenBy_33 : decode mX12_seenBy.2.1 33 = .ok (.aload_n 1, 1) := by decide +kernel
theorem dX12_seenBy_34 : decode mX12_seenBy.2.1 34 = .ok (.iload_n 3, 1) := by decide +kernel
theorem dX12_seenBy_35 : decode mX12_seenBy.2.1 35 = .ok (.aload_n 0, 1) := by decide +kernel
theorem dX12_seenBy_36 : decode mX12_seenBy.2.1 36 = .ok (.getfield 30, 3) := by decide +kernel
theorem dX12_seenBy_39 : decode mX12_seenBy.2.1 39 = .ok (.iload 5, 2) := by decide +kernel
theorem dX12_seenBy_41 : decode mX12_seenBy.2.1 41 = .ok (.iaload, 1) := by decide +kernel
theorem dX12_seenBy_42 : decode mX12_seenBy.2.1 42 = .ok (.aload_n 0, 1) := by decide +kernel
theorem dX12_seenBy_43 : decode mX12_seenBy.2.1 43 = .ok (.getfield 34, 3) := by decide +kernel
theorem dX12_seenBy_46 : decode mX12_seenBy.2.1 46 = .ok (.iload 5, 2) := by decide +kernel
theorem dX12_seenBy_48 : decode mX12_seenBy.2.1 48 = .ok (.iaload, 1) := by decide +kernel
theorem dX12_seenBy_49 : decode mX12_seenBy.2.1 49 = .ok (.invokevirtual 322, 3) := by decide +kernel
theorem dX12_seenBy_52 : decode mX12_seenBy.2.1 52 = .ok (.ifCond .ne 12, 3) := by decide +kernel
theorem dX12_seenBy_55 : decode mX12_seenBy.2.1 55 = .ok (.iconst 1, 1) := by decide +kernel
theorem dX12_seenBy_56 : decode mX12_seenBy.2.1 56 = .ok (.iload 5, 2) := by decide +kernel
theorem dX12_seenBy_58 : decode mX12_seenBy.2.1 58 = .ok (.ishl, 1) := by decide +kernel
theorem dX12_seenBy_59 : decode mX12_seenBy.2.1 59 = .ok (.iconst (-1), 1) := by decide +kernel
theorem dX12_seenBy_60 : decode mX12_seenBy.2.1 60 = .ok (.ixor, 1) := by decide +kernel
theorem dX12_seenBy_61 : decode mX12_seenBy.2.1 61 = .ok (.goto 4, 3) := by decide +kernel
theorem dX12_seenBy_64 : decode mX12_seenBy.2.1 64 = .ok (.iconst (-1), 1) := by decide +kernel
theorem dX12_seenBy_65 : decode mX12_seenBy.2.1 65 = .ok (.iand, 1) := by decide +kernel
theorem dX12_seenBy_66 : decode mX12_seenBy.2.1 66 = .ok (.istore 4, 2) := by decide +kernel
theorem dX12_seenBy_68 : decode mX12_seenBy.2.1 68 = .ok (.iinc 5 1, 3) := by decide +kernel
theorem dX12_seenBy_71 : decode mX12_seenBy.2.1 71 = .ok (.goto (-60), 3) := by decide +kernel
theorem dX12_seenBy_74 : decode mX12_seenBy.2.1 74 = .ok (.iload 4, 2) := by decide +kernel
theorem dX12_seenBy_76 : decode mX12_seenBy.2.1 76 = .ok (.ireturn, 1) := by decide +kernel
theorem dX12_seen_0 : decode mX12_seen.2.1 0 = .ok (.aload_n 0, 1) := by decide +kernel
theorem dX12_seen_1 : decode mX12_seen.2.1 1 = .ok (.aload_n 1, 1) := by decide +kernel
theorem dX12_seen_2 : decode mX12_seen.2.1 2 = .ok (.iload_n 2, 1) := by decide +kernel
theorem dX12_seen_3 : decode mX12_seen.2.1 3 = .ok (.aload_n 0, 1) := by decide +kernel
theorem dX12_seen_4 : decode mX12_seen.2.1 4 = .ok (.aload_n 1, 1) := by decide +kernel
theorem dX12_seen_5 : decode mX12_seen.2.1 5 = .ok (.iload_n 2, 1) := by decide +kernel
theorem dX12_seen_6 : decode mX12_seen.2.1 6 = .ok (.invokevirtual 325, 3) := by decide +kernel
theorem dX12_seen_9 : decode mX12_seen.2.1 9 = .ok (.invokevirtual 328, 3) := by decide +kernel
theorem dX12_seen_12 : decode mX12_seen.2.1 12 = .ok (.ireturn, 1) := by decide +kernel
theorem dX12_isSeen_0 : decode mX12_isSeen.2.1 0 = .ok (.iconst 0, 1) := by decide +kernel
theorem dX12_isSeen_1 : decode mX12_isSeen.2.1 1 = .ok (.istore 5, 2) := by decide +kernel
theorem dX12_isSeen_3 : decode mX12_isSeen.2.1 3 = .ok (.iconst 0, 1) := by decide +kernel
theorem dX12_isSeen_4 : decode mX12_isSeen.2.1 4 = .ok (.istore 6, 2) := by decide +kernel
theorem dX12_isSeen_6 : decode mX12_isSeen.2.1 6 = .ok (.iload 6, 2) := by decide +kernel
theorem dX12_isSeen_8 : decode mX12_isSeen.2.1 8 = .ok (.aload_n 0, 1) := by decide +kernel
theorem dX12_isSeen_9 : decode mX12_isSeen.2.1 9 = .ok (.getfield 150, 3) := by decide +kernel
theorem dX12_isSeen_12 : decode mX12_isSeen.2.1 12 = .ok (.if_icmp .ge 49, 3) := by decide +kernel
theorem dX12_isSeen_15 : decode mX12_isSeen.2.1 15 = .ok (.iload 5, 2) := by decide +kernel
theorem dX12_isSeen_17 : decode mX12_isSeen.2.1 17 = .ok (.ifCond .ne 31, 3) := by decide +kernel
theorem dX12_isSeen_20 : decode mX12_isSeen.2.1 20 = .ok (.aload_n 0, 1) := by decide +kernel
theorem dX12_isSeen_21 : decode mX12_isSeen.2.1 21 = .ok (.iload 6, 2) := by decide +kernel
theorem dX12_isSeen_23 : decode mX12_isSeen.2.1 23 = .ok (.iload_n 2, 1) := by decide +kernel
theorem dX12_isSeen_24 : decode mX12_isSeen.2.1 24 = .ok (.invokevirtual 315, 3) := by decide +kernel
theorem dX12_isSeen_27 : decode mX12_isSeen.2.1 27 = .ok (.ifCond .eq 25, 3) := by decide +kernel
theorem dX12_isSeen_30 : decode mX12_isSeen.2.1 30 = .ok (.aload_n 0, 1) := by decide +kernel
theorem dX12_isSeen_31 : decode mX12_isSeen.2.1 31 = .ok (.aload_n 1, 1) := by decide +kernel
theorem dX12_isSeen_32 : decode mX12_isSeen.2.1 32 = .ok (.aload_n 0, 1) := by decide +kernel
theorem dX12_isSeen_33 : decode mX12_isSeen.2.1 33 = .ok (.aload_n 1, 1) := by decide +kernel
theorem dX12_isSeen_34 : decode mX12_isSeen.2.1 34 = .ok (.iload 6, 2) := by decide +kernel
theorem dX12_isSeen_36 : decode mX12_isSeen.2.1 36 = .ok (.invokevirtual 325, 3) := by decide +kernel
theorem dX12_isSeen_39 : decode mX12_isSeen.2.1 39 = .ok (.iload_n 3, 1) := by decide +kernel
theorem dX12_isSeen_40 : decode mX12_isSeen.2.1 40 = .ok (.iload 4, 2) := by decide +kernel
theorem dX12_isSeen_42 : decode mX12_isSeen.2.1 42 = .ok (.invokevirtual 322, 3) := by decide +kernel
theorem dX12_isSeen_45 : decode mX12_isSeen.2.1 45 = .ok (.ifCond .eq 7, 3) := by decide +kernel
theorem dX12_isSeen_48 : decode mX12_isSeen.2.1 48 = .ok (.iconst 1, 1) := by decide +kernel
theorem dX12_isSeen_49 : decode mX12_isSeen.2.1 49 = .ok (.goto 4, 3) := by decide +kernel
theorem dX12_isSeen_52 : decode mX12_isSeen.2.1 52 = .ok (.iconst 0, 1) := by decide +kernel
theorem dX12_isSeen_53 : decode mX12_isSeen.2.1 53 = .ok (.istore 5, 2) := by decide +kernel
theorem dX12_isSeen_55 : decode mX12_isSeen.2.1 55 = .ok (.iinc 6 1, 3) := by decide +kernel
theorem dX12_isSeen_58 : decode mX12_isSeen.2.1 58 = .ok (.goto (-52), 3) := by decide +kernel
theorem dX12_isSeen_61 : decode mX12_isSeen.2.1 61 = .ok (.iload 5, 2) := by decide +kernel
theorem dX12_isSeen_63 : decode mX12_isSeen.2.1 63 = .ok (.ireturn, 1) := by decide +kernel
theorem dX12_thing_0 : decode mX12_thing.2.1 0 = .ok (.aload_n 0, 1) := by decide +kernel
theorem dX12_thing_1 : decode mX12_thing.2.1 1 = .ok (.iconst 0, 1) := by decide +kernel
theorem dX12_thing_2 : decode mX12_thing.2.1 2 = .ok (.putfield 3, 3) := by decide +kernel
theorem dX12_thing_5 : decode mX12_thing.2.1 5 = .ok (.aload_n 0, 1) := by decide +kernel
theorem dX12_thing_6 : decode mX12_thing.2.1 6 = .ok (.iload_n 1, 1) := by decide +kernel
theorem dX12_thing_7 : decode mX12_thing.2.1 7 = .ok (.invokevirtual 332, 3) := by decide +kernel
theorem dX12_thing_10 : decode mX12_thing.2.1 10 = .ok (.ifCond .eq 15, 3) := by decide +kernel
theorem dX12_thing_13 : decode mX12_thing.2.1 13 = .ok (.iload_n 2, 1) := by decide +kernel
theorem dX12_thing_14 : decode mX12_thing.2.1 14 = .ok (.i2l, 1) := by decide +kernel
theorem dX12_thing_15 : decode mX12_thing.2.1 15 = .ok (.lconst 0, 1) := by decide +kernel
theorem dX12_thing_16 : decode mX12_thing.2.1 16 = .ok (.ldc2_w 335, 3) := by decide +kernel
theorem dX12_thing_19 : decode mX12_thing.2.1 19 = .ok (.invokestatic 143, 3) := by decide +kernel
theorem dX12_thing_22 : decode mX12_thing.2.1 22 = .ok (.ifCond .ne 8, 3) := by decide +kernel
theorem dX12_thing_25 : decode mX12_thing.2.1 25 = .ok (.aload_n 0, 1) := by decide +kernel
theorem dX12_thing_26 : decode mX12_thing.2.1 26 = .ok (.invokevirtual 337, 3) := by decide +kernel
theorem dX12_thing_29 : decode mX12_thing.2.1 29 = .ok (.ireturn, 1) := by decide +kernel
theorem dX12_thing_30 : decode mX12_thing.2.1 30 = .ok (.iconst 0, 1) := by decide +kernel
theorem dX12_thing_31 : decode mX12_thing.2.1 31 = .ok (.istore_n 3, 1) := by decide +kernel
theorem dX12_thing_32 : decode mX12_thing.2.1 32 = .ok (.iconst 0, 1) := by decide +kernel
theorem dX12_thing_33 : decode mX12_thing.2.1 33 = .ok (.istore 4, 2) := by decide +kernel
theorem dX12_thing_35 : decode mX12_thing.2.1 35 = .ok (.iload 4, 2) := by decide +kernel
theorem dX12_thing_37 : decode mX12_thing.2.1 37 = .ok (.aload_n 0, 1) := by decide +kernel
theorem dX12_thing_38 : decode mX12_thing.2.1 38 = .ok (.getfield 150, 3) := by decide +kernel
theorem dX12_thing_41 : decode mX12_thing.2.1 41 = .ok (.if_icmp .ge 37, 3) := by decide +kernel
theorem dX12_thing_44 : decode mX12_thing.2.1 44 = .ok (.iload_n 3, 1) := by decide +kernel
theorem dX12_thing_45 : decode mX12_thing.2.1 45 = .ok (.aload_n 0, 1) := by decide +kernel
theorem dX12_thing_46 : decode mX12_thing.2.1 46 = .ok (.aload_n 0, 1) := by decide +kernel
theorem dX12_thing_47 : decode mX12_thing.2.1 47 = .ok (.getfield 49, 3) := by decide +kernel
theorem dX12_thing_50 : decode mX12_thing.2.1 50 = .ok (.iload 4, 2) := by decide +kernel
theorem dX12_thing_52 : decode mX12_thing.2.1 52 = .ok (.invokevirtual 340, 3) := by decide +kernel
theorem dX12_thing_55 : decode mX12_thing.2.1 55 = .ok (.iload_n 1, 1) := by decide +kernel
theorem dX12_thing_56 : decode mX12_thing.2.1 56 = .ok (.invokestatic 296, 3) := by decide +kernel
theorem dX12_thing_59 : decode mX12_thing.2.1 59 = .ok (.ifCond .eq 10, 3) := by decide +kernel
theorem dX12_thing_62 : decode mX12_thing.2.1 62 = .ok (.iconst 1, 1) := by decide +kernel
theorem dX12_thing_63 : decode mX12_thing.2.1 63 = .ok (.iload 4, 2) := by decide +kernel
theorem dX12_thing_65 : decode mX12_thing.2.1 65 = .ok (.ishl, 1) := by decide +kernel
theorem dX12_thing_66 : decode mX12_thing.2.1 66 = .ok (.goto 4, 3) := by decide +kernel
theorem dX12_thing_69 : decode mX12_thing.2.1 69 = .ok (.iconst 0, 1) := by decide +kernel
theorem dX12_thing_70 : decode mX12_thing.2.1 70 = .ok (.ior, 1) := by decide +kernel
theorem dX12_thing_71 : decode mX12_thing.2.1 71 = .ok (.istore_n 3, 1) := by decide +kernel
theorem dX12_thing_72 : decode mX12_thing.2.1 72 = .ok (.iinc 4 1, 3) := by decide +kernel
theorem dX12_thing_75 : decode mX12_thing.2.1 75 = .ok (.goto (-40), 3) := by decide +kernel
theorem dX12_thing_78 : decode mX12_thing.2.1 78 = .ok (.iload_n 2, 1) := by decide +kernel
theorem dX12_thing_79 : decode mX12_thing.2.1 79 = .ok (.tableswitch 60 0 3 #[29, 36, 43, 50], 29) := by decide +kernel
theorem dX12_thing_108 : decode mX12_thing.2.1 108 = .ok (.aload_n 0, 1) := by decide +kernel
theorem dX12_thing_109 : decode mX12_thing.2.1 109 = .ok (.getfield 30, 3) := by decide +kernel
theorem dX12_thing_112 : decode mX12_thing.2.1 112 = .ok (.iload_n 1, 1) := by decide +kernel
theorem dX12_thing_113 : decode mX12_thing.2.1 113 = .ok (.iaload, 1) := by decide +kernel
theorem dX12_thing_114 : decode mX12_thing.2.1 114 = .ok (.ireturn, 1) := by decide +kernel
theorem dX12_thing_115 : decode mX12_thing.2.1 115 = .ok (.aload_n 0, 1) := by decide +kernel
theorem dX12_thing_116 : decode mX12_thing.2.1 116 = .ok (.getfield 34, 3) := by decide +kernel
theorem dX12_thing_119 : decode mX12_thing.2.1 119 = .ok (.iload_n 1, 1) := by decide +kernel
theorem dX12_thing_120 : decode mX12_thing.2.1 120 = .ok (.iaload, 1) := by decide +kernel
theorem dX12_thing_121 : decode mX12_thing.2.1 121 = .ok (.ireturn, 1) := by decide +kernel
theorem dX12_thing_122 : decode mX12_thing.2.1 122 = .ok (.aload_n 0, 1) := by decide +kernel
theorem dX12_thing_123 : decode mX12_thing.2.1 123 = .ok (.getfield 49, 3) := by decide +kernel
theorem dX12_thing_126 : decode mX12_thing.2.1 126 = .ok (.iload_n 1, 1) := by decide +kernel
theorem dX12_thing_127 : decode mX12_thing.2.1 127 = .ok (.iaload, 1) := by decide +kernel
theorem dX12_thing_128 : decode mX12_thing.2.1 128 = .ok (.ireturn, 1) := by decide +kernel
theorem dX12_thing_129 : decode mX12_thing.2.1 129 = .ok (.aload_n 0, 1) := by decide +kernel
theorem dX12_thing_130 : decode mX12_thing.2.1 130 = .ok (.getfield 49, 3) := by decide +kernel
theorem dX12_thing_133 : decode mX12_thing.2.1 133 = .ok (.bipush 8, 2) := by decide +kernel
theorem dX12_thing_135 : decode mX12_thing.2.1 135 = .ok (.iload_n 1, 1) := by decide +kernel
theorem dX12_thing_136 : decode mX12_thing.2.1 136 = .ok (.iadd, 1) := by decide +kernel
theorem dX12_thing_137 : decode mX12_thing.2.1 137 = .ok (.iaload, 1) := by decide +kernel
theorem dX12_thing_138 : decode mX12_thing.2.1 138 = .ok (.ireturn, 1) := by decide +kernel
theorem dX12_thing_139 : decode mX12_thing.2.1 139 = .ok (.iload_n 3, 1) := by decide +kernel
theorem dX12_thing_140 : decode mX12_thing.2.1 140 = .ok (.ireturn, 1) := by decide +kernel
theorem dX12_pane_0 : decode mX12_pane.2.1 0 = .ok (.aload_n 0, 1) := by decide +kernel
theorem dX12_pane_1 : decode mX12_pane.2.1 1 = .ok (.iconst 0, 1) := by decide +kernel
theorem dX12_pane_2 : decode mX12_pane.2.1 2 = .ok (.putfield 3, 3) := by decide +kernel
theorem dX12_pane_5 : decode mX12_pane.2.1 5 = .ok (.aload_n 0, 1) := by decide +kernel
theorem dX12_pane_6 : decode mX12_pane.2.1 6 = .ok (.iload_n 1, 1) := by decide +kernel
theorem dX12_pane_7 : decode mX12_pane.2.1 7 = .ok (.invokevirtual 343, 3) := by decide +kernel
theorem dX12_pane_10 : decode mX12_pane.2.1 10 = .ok (.ifCond .eq 15, 3) := by decide +kernel
theorem dX12_pane_13 : decode mX12_pane.2.1 13 = .ok (.iload_n 2, 1) := by decide +kernel
theorem dX12_pane_14 : decode mX12_pane.2.1 14 = .ok (.i2l, 1) := by decide +kernel
theorem dX12_pane_15 : decode mX12_pane.2.1 15 = .ok (.lconst 0, 1) := by decide +kernel
theorem dX12_pane_16 : decode mX12_pane.2.1 16 = .ok (.ldc2_w 335, 3) := by decide +kernel
theorem dX12_pane_19 : decode mX12_pane.2.1 19 = .ok (.invokestatic 143, 3) := by decide +kernel
theorem dX12_pane_22 : decode mX12_pane.2.1 22 = .ok (.ifCond .ne 8, 3) := by decide +kernel
theorem dX12_pane_25 : decode mX12_pane.2.1 25 = .ok (.aload_n 0, 1) := by decide +kernel
theorem dX12_pane_26 : decode mX12_pane.2.1 26 = .ok (.invokevirtual 337, 3) := by decide +kernel
theorem dX12_pane_29 : decode mX12_pane.2.1 29 = .ok (.ireturn, 1) := by decide +kernel
theorem dX12_pane_30 : decode mX12_pane.2.1 30 = .ok (.iconst 0, 1) := by decide +kernel
theorem dX12_pane_31 : decode mX12_pane.2.1 31 = .ok (.istore_n 3, 1) := by decide +kernel
theorem dX12_pane_32 : decode mX12_pane.2.1 32 = .ok (.iconst 0, 1) := by decide +kernel
theorem dX12_pane_33 : decode mX12_pane.2.1 33 = .ok (.istore 4, 2) := by decide +kernel
theorem dX12_pane_35 : decode mX12_pane.2.1 35 = .ok (.iload 4, 2) := by decide +kernel
theorem dX12_pane_37 : decode mX12_pane.2.1 37 = .ok (.aload_n 0, 1) := by decide +kernel
theorem dX12_pane_38 : decode mX12_pane.2.1 38 = .ok (.getfield 140, 3) := by decide +kernel
theorem dX12_pane_41 : decode mX12_pane.2.1 41 = .ok (.if_icmp .ge 46, 3) := by decide +kernel
theorem dX12_pane_44 : decode mX12_pane.2.1 44 = .ok (.iload_n 3, 1) := by decide +kernel
theorem dX12_pane_45 : decode mX12_pane.2.1 45 = .ok (.aload_n 0, 1) := by decide +kernel
theorem dX12_pane_46 : decode mX12_pane.2.1 46 = .ok (.aload_n 0, 1) := by decide +kernel
theorem dX12_pane_47 : decode mX12_pane.2.1 47 = .ok (.getfield 49, 3) := by decide +kernel
theorem dX12_pane_50 : decode mX12_pane.2.1 50 = .ok (.iload_n 1, 1) := by decide +kernel
theorem dX12_pane_51 : decode mX12_pane.2.1 51 = .ok (.aload_n 0, 1) := by decide +kernel
theorem dX12_pane_52 : decode mX12_pane.2.1 52 = .ok (.getfield 30, 3) := by decide +kernel
theorem dX12_pane_55 : decode mX12_pane.2.1 55 = .ok (.iload 4, 2) := by decide +kernel
theorem dX12_pane_57 : decode mX12_pane.2.1 57 = .ok (.iaload, 1) := by decide +kernel
theorem dX12_pane_58 : decode mX12_pane.2.1 58 = .ok (.aload_n 0, 1) := by decide +kernel
theorem dX12_pane_59 : decode mX12_pane.2.1 59 = .ok (.getfield 34, 3) := by decide +kernel
theorem dX12_pane_62 : decode mX12_pane.2.1 62 = .ok (.iload 4, 2) := by decide +kernel
theorem dX12_pane_64 : decode mX12_pane.2.1 64 = .ok (.iaload, 1) := by decide +kernel
theorem dX12_pane_65 : decode mX12_pane.2.1 65 = .ok (.invokevirtual 308, 3) := by decide +kernel
theorem dX12_pane_68 : decode mX12_pane.2.1 68 = .ok (.ifCond .eq 10, 3) := by decide +kernel
theorem dX12_pane_71 : decode mX12_pane.2.1 71 = .ok (.iconst 1, 1) := by decide +kernel
theorem dX12_pane_72 : decode mX12_pane.2.1 72 = .ok (.iload 4, 2) := by decide +kernel
theorem dX12_pane_74 : decode mX12_pane.2.1 74 = .ok (.ishl, 1) := by decide +kernel
theorem dX12_pane_75 : decode mX12_pane.2.1 75 = .ok (.goto 4, 3) := by decide +kernel
theorem dX12_pane_78 : decode mX12_pane.2.1 78 = .ok (.iconst 0, 1) := by decide +kernel
theorem dX12_pane_79 : decode mX12_pane.2.1 79 = .ok (.ior, 1) := by decide +kernel
theorem dX12_pane_80 : decode mX12_pane.2.1 80 = .ok (.istore_n 3, 1) := by decide +kernel
theorem dX12_pane_81 : decode mX12_pane.2.1 81 = .ok (.iinc 4 1, 3) := by decide +kernel
theorem dX12_pane_84 : decode mX12_pane.2.1 84 = .ok (.goto (-49), 3) := by decide +kernel
theorem dX12_pane_87 : decode mX12_pane.2.1 87 = .ok (.iload_n 2, 1) := by decide +kernel
theorem dX12_pane_88 : decode mX12_pane.2.1 88 = .ok (.tableswitch 71 0 3 #[32, 39, 46, 56], 32) := by decide +kernel
theorem dX12_pane_120 : decode mX12_pane.2.1 120 = .ok (.aload_n 0, 1) := by decide +kernel
theorem dX12_pane_121 : decode mX12_pane.2.1 121 = .ok (.getfield 37, 3) := by decide +kernel
theorem dX12_pane_124 : decode mX12_pane.2.1 124 = .ok (.iload_n 1, 1) := by decide +kernel
theorem dX12_pane_125 : decode mX12_pane.2.1 125 = .ok (.iaload, 1) := by decide +kernel
theorem dX12_pane_126 : decode mX12_pane.2.1 126 = .ok (.ireturn, 1) := by decide +kernel
theorem dX12_pane_127 : decode mX12_pane.2.1 127 = .ok (.aload_n 0, 1) := by decide +kernel
theorem dX12_pane_128 : decode mX12_pane.2.1 128 = .ok (.getfield 40, 3) := by decide +kernel
theorem dX12_pane_131 : decode mX12_pane.2.1 131 = .ok (.iload_n 1, 1) := by decide +kernel
theorem dX12_pane_132 : decode mX12_pane.2.1 132 = .ok (.iaload, 1) := by decide +kernel
theorem dX12_pane_133 : decode mX12_pane.2.1 133 = .ok (.ireturn, 1) := by decide +kernel
theorem dX12_pane_134 : decode mX12_pane.2.1 134 = .ok (.aload_n 0, 1) := by decide +kernel
theorem dX12_pane_135 : decode mX12_pane.2.1 135 = .ok (.getfield 49, 3) := by decide +kernel
theorem dX12_pane_138 : decode mX12_pane.2.1 138 = .ok (.bipush 16, 2) := by decide +kernel
theorem dX12_pane_140 : decode mX12_pane.2.1 140 = .ok (.iload_n 1, 1) := by decide +kernel
theorem dX12_pane_141 : decode mX12_pane.2.1 141 = .ok (.iadd, 1) := by decide +kernel
theorem dX12_pane_142 : decode mX12_pane.2.1 142 = .ok (.iaload, 1) := by decide +kernel
theorem dX12_pane_143 : decode mX12_pane.2.1 143 = .ok (.ireturn, 1) := by decide +kernel
theorem dX12_pane_144 : decode mX12_pane.2.1 144 = .ok (.aload_n 0, 1) := by decide +kernel
theorem dX12_pane_145 : decode mX12_pane.2.1 145 = .ok (.getfield 49, 3) := by decide +kernel
theorem dX12_pane_148 : decode mX12_pane.2.1 148 = .ok (.bipush 24, 2) := by decide +kernel
theorem dX12_pane_150 : decode mX12_pane.2.1 150 = .ok (.iaload, 1) := by decide +kernel
theorem dX12_pane_151 : decode mX12_pane.2.1 151 = .ok (.iload_n 1, 1) := by decide +kernel
theorem dX12_pane_152 : decode mX12_pane.2.1 152 = .ok (.invokestatic 296, 3) := by decide +kernel
theorem dX12_pane_155 : decode mX12_pane.2.1 155 = .ok (.invokestatic 175, 3) := by decide +kernel
theorem dX12_pane_158 : decode mX12_pane.2.1 158 = .ok (.ireturn, 1) := by decide +kernel
theorem dX12_pane_159 : decode mX12_pane.2.1 159 = .ok (.iload_n 3, 1) := by decide +kernel
theorem dX12_pane_160 : decode mX12_pane.2.1 160 = .ok (.ireturn, 1) := by decide +kernel
theorem dX12_room_0 : decode mX12_room.2.1 0 = .ok (.aload_n 0, 1) := by decide +kernel
theorem dX12_room_1 : decode mX12_room.2.1 1 = .ok (.iconst 0, 1) := by decide +kernel
theorem dX12_room_2 : decode mX12_room.2.1 2 = .ok (.putfield 3, 3) := by decide +kernel
theorem dX12_room_5 : decode mX12_room.2.1 5 = .ok (.aload_n 0, 1) := by decide +kernel
theorem dX12_room_6 : decode mX12_room.2.1 6 = .ok (.iload_n 1, 1) := by decide +kernel
theorem dX12_room_7 : decode mX12_room.2.1 7 = .ok (.invokevirtual 346, 3) := by decide +kernel
theorem dX12_room_10 : decode mX12_room.2.1 10 = .ok (.ifCond .eq 15, 3) := by decide +kernel
theorem dX12_room_13 : decode mX12_room.2.1 13 = .ok (.iload_n 2, 1) := by decide +kernel
theorem dX12_room_14 : decode mX12_room.2.1 14 = .ok (.i2l, 1) := by decide +kernel
theorem dX12_room_15 : decode mX12_room.2.1 15 = .ok (.lconst 0, 1) := by decide +kernel
theorem dX12_room_16 : decode mX12_room.2.1 16 = .ok (.ldc2_w 335, 3) := by decide +kernel
theorem dX12_room_19 : decode mX12_room.2.1 19 = .ok (.invokestatic 143, 3) := by decide +kernel
theorem dX12_room_22 : decode mX12_room.2.1 22 = .ok (.ifCond .ne 8, 3) := by decide +kernel
theorem dX12_room_25 : decode mX12_room.2.1 25 = .ok (.aload_n 0, 1) := by decide +kernel
theorem dX12_room_26 : decode mX12_room.2.1 26 = .ok (.invokevirtual 337, 3) := by decide +kernel
theorem dX12_room_29 : decode mX12_room.2.1 29 = .ok (.ireturn, 1) := by decide +kernel
theorem dX12_room_30 : decode mX12_room.2.1 30 = .ok (.iload_n 2, 1) := by decide +kernel
theorem dX12_room_31 : decode mX12_room.2.1 31 = .ok (.tableswitch 63 0 3 #[29, 36, 43, 53], 29) := by decide +kernel
theorem dX12_room_60 : decode mX12_room.2.1 60 = .ok (.aload_n 0, 1) := by decide +kernel
theorem dX12_room_61 : decode mX12_room.2.1 61 = .ok (.getfield 43, 3) := by decide +kernel
theorem dX12_room_64 : decode mX12_room.2.1 64 = .ok (.iload_n 1, 1) := by decide +kernel
theorem dX12_room_65 : decode mX12_room.2.1 65 = .ok (.iaload, 1) := by decide +kernel
theorem dX12_room_66 : decode mX12_room.2.1 66 = .ok (.ireturn, 1) := by decide +kernel
theorem dX12_room_67 : decode mX12_room.2.1 67 = .ok (.aload_n 0, 1) := by decide +kernel
theorem dX12_room_68 : decode mX12_room.2.1 68 = .ok (.getfield 46, 3) := by decide +kernel
theorem dX12_room_71 : decode mX12_room.2.1 71 = .ok (.iload_n 1, 1) := by decide +kernel
theorem dX12_room_72 : decode mX12_room.2.1 72 = .ok (.iaload, 1) := by decide +kernel
theorem dX12_room_73 : decode mX12_room.2.1 73 = .ok (.ireturn, 1) := by decide +kernel
theorem dX12_room_74 : decode mX12_room.2.1 74 = .ok (.aload_n 0, 1) := by decide +kernel
theorem dX12_room_75 : decode mX12_room.2.1 75 = .ok (.aload_n 0, 1) := by decide +kernel
theorem dX12_room_76 : decode mX12_room.2.1 76 = .ok (.getfield 49, 3) := by decide +kernel
theorem dX12_room_79 : decode mX12_room.2.1 79 = .ok (.iload_n 1, 1) := by decide +kernel
theorem dX12_room_80 : decode mX12_room.2.1 80 = .ok (.invokevirtual 325, 3) := by decide +kernel
theorem dX12_room_83 : decode mX12_room.2.1 83 = .ok (.ireturn, 1) := by decide +kernel
theorem dX12_room_84 : decode mX12_room.2.1 84 = .ok (.aload_n 0, 1) := by decide +kernel
theorem dX12_room_85 : decode mX12_room.2.1 85 = .ok (.aload_n 0, 1) := by decide +kernel
theorem dX12_room_86 : decode mX12_room.2.1 86 = .ok (.getfield 49, 3) := by decide +kernel
theorem dX12_room_89 : decode mX12_room.2.1 89 = .ok (.iload_n 1, 1) := by decide +kernel
theorem dX12_room_90 : decode mX12_room.2.1 90 = .ok (.invokevirtual 340, 3) := by decide +kernel
theorem dX12_room_93 : decode mX12_room.2.1 93 = .ok (.ireturn, 1) := by decide +kernel
theorem dX12_room_94 : decode mX12_room.2.1 94 = .ok (.aload_n 0, 1) := by decide +kernel
theorem dX12_room_95 : decode mX12_room.2.1 95 = .ok (.aload_n 0, 1) := by decide +kernel
theorem dX12_room_96 : decode mX12_room.2.1 96 = .ok (.getfield 49, 3) := by decide +kernel
theorem dX12_room_99 : decode mX12_room.2.1 99 = .ok (.iload_n 1, 1) := by decide +kernel
theorem dX12_room_100 : decode mX12_room.2.1 100 = .ok (.invokevirtual 318, 3) := by decide +kernel
theorem dX12_room_103 : decode mX12_room.2.1 103 = .ok (.ireturn, 1) := by decide +kernel
theorem dX12_sheet_0 : decode mX12_sheet.2.1 0 = .ok (.aload_n 0, 1) := by decide +kernel
theorem dX12_sheet_1 : decode mX12_sheet.2.1 1 = .ok (.iconst 0, 1) := by decide +kernel
theorem dX12_sheet_2 : decode mX12_sheet.2.1 2 = .ok (.putfield 3, 3) := by decide +kernel
theorem dX12_sheet_5 : decode mX12_sheet.2.1 5 = .ok (.iload_n 1, 1) := by decide +kernel
theorem dX12_sheet_6 : decode mX12_sheet.2.1 6 = .ok (.i2l, 1) := by decide +kernel
theorem dX12_sheet_7 : decode mX12_sheet.2.1 7 = .ok (.lconst 0, 1) := by decide +kernel
theorem dX12_sheet_8 : decode mX12_sheet.2.1 8 = .ok (.ldc2_w 349, 3) := by decide +kernel
theorem dX12_sheet_11 : decode mX12_sheet.2.1 11 = .ok (.invokestatic 143, 3) := by decide +kernel
theorem dX12_sheet_14 : decode mX12_sheet.2.1 14 = .ok (.ifCond .eq 9, 3) := by decide +kernel
theorem dX12_sheet_17 : decode mX12_sheet.2.1 17 = .ok (.iload_n 2, 1) := by decide +kernel
theorem dX12_sheet_18 : decode mX12_sheet.2.1 18 = .ok (.bipush 8, 2) := by decide +kernel
theorem dX12_sheet_20 : decode mX12_sheet.2.1 20 = .ok (.if_icmp .le 5, 3) := by decide +kernel
theorem dX12_sheet_23 : decode mX12_sheet.2.1 23 = .ok (.iconst (-1), 1) := by decide +kernel
theorem dX12_sheet_24 : decode mX12_sheet.2.1 24 = .ok (.ireturn, 1) := by decide +kernel
theorem dX12_sheet_25 : decode mX12_sheet.2.1 25 = .ok (.iload_n 1, 1) := by decide +kernel
theorem dX12_sheet_26 : decode mX12_sheet.2.1 26 = .ok (.iconst 3, 1) := by decide +kernel
theorem dX12_sheet_27 : decode mX12_sheet.2.1 27 = .ok (.if_icmp .eq 10, 3) := by decide +kernel
theorem dX12_sheet_30 : decode mX12_sheet.2.1 30 = .ok (.iload_n 2, 1) := by decide +kernel
theorem dX12_sheet_31 : decode mX12_sheet.2.1 31 = .ok (.ifCond .ge 6, 3) := by decide +kernel
theorem dX12_sheet_34 : decode mX12_sheet.2.1 34 = .ok (.bipush (-2), 2) := by decide +kernel
theorem dX12_sheet_36 : decode mX12_sheet.2.1 36 = .ok (.ireturn, 1) := by decide +kernel
theorem dX12_sheet_37 : decode mX12_sheet.2.1 37 = .ok (.iconst 0, 1) := by decide +kernel
theorem dX12_sheet_38 : decode mX12_sheet.2.1 38 = .ok (.istore 5, 2) := by decide +kernel
theorem dX12_sheet_40 : decode mX12_sheet.2.1 40 = .ok (.iload_n 3, 1) := by decide +kernel
theorem dX12_sheet_41 : decode mX12_sheet.2.1 41 = .ok (.istore 6, 2) := by decide +kernel
theorem dX12_sheet_43 : decode mX12_sheet.2.1 43 = .ok (.iconst 0, 1) := by decide +kernel
theorem dX12_sheet_44 : decode mX12_sheet.2.1 44 = .ok (.istore 7, 2) := by decide +kernel
theorem dX12_sheet_46 : decode mX12_sheet.2.1 46 = .ok (.iload 7, 2) := by decide +kernel
theorem dX12_sheet_48 : decode mX12_sheet.2.1 48 = .ok (.aload_n 0, 1) := by decide +kernel
theorem dX12_sheet_49 : decode mX12_sheet.2.1 49 = .ok (.getfield 140, 3) := by decide +kernel
theorem dX12_sheet_52 : decode mX12_sheet.2.1 52 = .ok (.if_icmp .ge 86, 3) := by decide +kernel
theorem dX12_sheet_55 : decode mX12_sheet.2.1 55 = .ok (.iload_n 1, 1) := by decide +kernel
theorem dX12_sheet_56 : decode mX12_sheet.2.1 56 = .ok (.ifCond .ne 9, 3) := by decide +kernel
theorem dX12_sheet_59 : decode mX12_sheet.2.1 59 = .ok (.iload 6, 2) := by decide +kernel
theorem dX12_sheet_61 : decode mX12_sheet.2.1 61 = .ok (.i2b, 1) := by decide +kernel
theorem dX12_sheet_62 : decode mX12_sheet.2.1 62 = .ok (.goto 16, 3) := by decide +kernel
theorem dX12_sheet_65 : decode mX12_sheet.2.1 65 = .ok (.iload_n 1, 1) := by decide +kernel
theorem dX12_sheet_66 : decode mX12_sheet.2.1 66 = .ok (.iconst 1, 1) := by decide +kernel
theorem dX12_sheet_67 : decode mX12_sheet.2.1 67 = .ok (.if_icmp .ne 9, 3) := by decide +kernel
theorem dX12_sheet_70 : decode mX12_sheet.2.1 70 = .ok (.iload 6, 2) := by decide +kernel
theorem dX12_sheet_72 : decode mX12_sheet.2.1 72 = .ok (.i2s, 1) := by decide +kernel
theorem dX12_sheet_73 : decode mX12_sheet.2.1 73 = .ok (.goto 5, 3) := by decide +kernel
theorem dX12_sheet_76 : decode mX12_sheet.2.1 76 = .ok (.iload 6, 2) := by decide +kernel
theorem dX12_sheet_78 : decode mX12_sheet.2.1 78 = .ok (.istore 8, 2) := by decide +kernel
theorem dX12_sheet_80 : decode mX12_sheet.2.1 80 = .ok (.aload_n 0, 1) := by decide +kernel
theorem dX12_sheet_81 : decode mX12_sheet.2.1 81 = .ok (.getfield 34, 3) := by decide +kernel
theorem dX12_sheet_84 : decode mX12_sheet.2.1 84 = .ok (.iload 7, 2) := by decide +kernel
theorem dX12_sheet_86 : decode mX12_sheet.2.1 86 = .ok (.iload_n 1, 1) := by decide +kernel
theorem dX12_sheet_87 : decode mX12_sheet.2.1 87 = .ok (.iconst 3, 1) := by decide +kernel
theorem dX12_sheet_88 : decode mX12_sheet.2.1 88 = .ok (.if_icmp .eq 9, 3) := by decide +kernel
theorem dX12_sheet_91 : decode mX12_sheet.2.1 91 = .ok (.iload 7, 2) := by decide +kernel
theorem dX12_sheet_93 : decode mX12_sheet.2.1 93 = .ok (.iload_n 2, 1) := by decide +kernel
theorem dX12_sheet_94 : decode mX12_sheet.2.1 94 = .ok (.if_icmp .lt 7, 3) := by decide +kernel
theorem dX12_sheet_97 : decode mX12_sheet.2.1 97 = .ok (.iconst 0, 1) := by decide +kernel
theorem dX12_sheet_98 : decode mX12_sheet.2.1 98 = .ok (.goto 14, 3) := by decide +kernel
theorem dX12_sheet_101 : decode mX12_sheet.2.1 101 = .ok (.iconst 0, 1) := by decide +kernel
theorem dX12_sheet_102 : decode mX12_sheet.2.1 102 = .ok (.bipush 9, 2) := by decide +kernel
theorem dX12_sheet_104 : decode mX12_sheet.2.1 104 = .ok (.iload 8, 2) := by decide +kernel
theorem dX12_sheet_106 : decode mX12_sheet.2.1 106 = .ok (.invokestatic 168, 3) := by decide +kernel
theorem dX12_sheet_109 : decode mX12_sheet.2.1 109 = .ok (.invokestatic 351, 3) := by decide +kernel
theorem dX12_sheet_112 : decode mX12_sheet.2.1 112 = .ok (.iastore, 1) := by decide +kernel
theorem dX12_sheet_113 : decode mX12_sheet.2.1 113 = .ok (.iload 5, 2) := by decide +kernel
theorem dX12_sheet_115 : decode mX12_sheet.2.1 115 = .ok (.aload_n 0, 1) := by decide +kernel
theorem dX12_sheet_116 : decode mX12_sheet.2.1 116 = .ok (.getfield 34, 3) := by decide +kernel
theorem dX12_sheet_119 : decode mX12_sheet.2.1 119 = .ok (.iload 7, 2) := by decide +kernel
theorem dX12_sheet_121 : decode mX12_sheet.2.1 121 = .ok (.iaload, 1) := by decide +kernel
theorem dX12_sheet_122 : decode mX12_sheet.2.1 122 = .ok (.iadd, 1) := by decide +kernel
theorem dX12_sheet_123 : decode mX12_sheet.2.1 123 = .ok (.istore 5, 2) := by decide +kernel
theorem dX12_sheet_125 : decode mX12_sheet.2.1 125 = .ok (.iload 6, 2) := by decide +kernel
theorem dX12_sheet_127 : decode mX12_sheet.2.1 127 = .ok (.iload 4, 2) := by decide +kernel
theorem dX12_sheet_129 : decode mX12_sheet.2.1 129 = .ok (.iadd, 1) := by decide +kernel
theorem dX12_sheet_130 : decode mX12_sheet.2.1 130 = .ok (.istore 6, 2) := by decide +kernel
theorem dX12_sheet_132 : decode mX12_sheet.2.1 132 = .ok (.iinc 7 1, 3) := by decide +kernel
theorem dX12_sheet_135 : decode mX12_sheet.2.1 135 = .ok (.goto (-89), 3) := by decide +kernel
theorem dX12_sheet_138 : decode mX12_sheet.2.1 138 = .ok (.iload_n 1, 1) := by decide +kernel
theorem dX12_sheet_139 : decode mX12_sheet.2.1 139 = .ok (.iconst 3, 1) := by decide +kernel
theorem dX12_sheet_140 : decode mX12_sheet.2.1 140 = .ok (.if_icmp .ne 8, 3) := by decide +kernel
theorem dX12_sheet_143 : decode mX12_sheet.2.1 143 = .ok (.bipush (-3), 2) := by decide +kernel
theorem dX12_sheet_145 : decode mX12_sheet.2.1 145 = .ok (.goto 5, 3) := by decide +kernel
theorem dX12_sheet_148 : decode mX12_sheet.2.1 148 = .ok (.iload 5, 2) := by decide +kernel
theorem dX12_sheet_150 : decode mX12_sheet.2.1 150 = .ok (.ireturn, 1) := by decide +kernel
theorem dX12_putsBy_0 : decode mX12_putsBy.2.1 0 = .ok (.iconst 0, 1) := by decide +kernel
theorem dX12_putsBy_1 : decode mX12_putsBy.2.1 1 = .ok (.istore_n 1, 1) := by decide +kernel
theorem dX12_putsBy_2 : decode mX12_putsBy.2.1 2 = .ok (.iload_n 1, 1) := by decide +kernel
theorem dX12_putsBy_3 : decode mX12_putsBy.2.1 3 = .ok (.bipush 26, 2) := by decide +kernel
theorem dX12_putsBy_5 : decode mX12_putsBy.2.1 5 = .ok (.if_icmp .ge 29, 3) := by decide +kernel
theorem dX12_putsBy_8 : decode mX12_putsBy.2.1 8 = .ok (.aload_n 0, 1) := by decide +kernel
theorem dX12_putsBy_9 : decode mX12_putsBy.2.1 9 = .ok (.getfield 73, 3) := by decide +kernel
theorem dX12_putsBy_12 : decode mX12_putsBy.2.1 12 = .ok (.bipush 26, 2) := by decide +kernel
theorem dX12_putsBy_14 : decode mX12_putsBy.2.1 14 = .ok (.aload_n 0, 1) := by decide +kernel
theorem dX12_putsBy_15 : decode mX12_putsBy.2.1 15 = .ok (.getfield 215, 3) := by decide +kernel
theorem dX12_putsBy_18 : decode mX12_putsBy.2.1 18 = .ok (.imul, 1) := by decide +kernel
theorem dX12_putsBy_19 : decode mX12_putsBy.2.1 19 = .ok (.iload_n 1, 1) := by decide +kernel
theorem dX12_putsBy_20 : decode mX12_putsBy.2.1 20 = .ok (.iadd, 1) := by decide +kernel
theorem dX12_putsBy_21 : decode mX12_putsBy.2.1 21 = .ok (.aload_n 0, 1) := by decide +kernel
theorem dX12_putsBy_22 : decode mX12_putsBy.2.1 22 = .ok (.getfield 49, 3) := by decide +kernel
theorem dX12_putsBy_25 : decode mX12_putsBy.2.1 25 = .ok (.iload_n 1, 1) := by decide +kernel
theorem dX12_putsBy_26 : decode mX12_putsBy.2.1 26 = .ok (.iaload, 1) := by decide +kernel
theorem dX12_putsBy_27 : decode mX12_putsBy.2.1 27 = .ok (.iastore, 1) := by decide +kernel
theorem dX12_putsBy_28 : decode mX12_putsBy.2.1 28 = .ok (.iinc 1 1, 3) := by decide +kernel
theorem dX12_putsBy_31 : decode mX12_putsBy.2.1 31 = .ok (.goto (-29), 3) := by decide +kernel
theorem dX12_putsBy_34 : decode mX12_putsBy.2.1 34 = .ok (.return_, 1) := by decide +kernel
theorem dX12_puts_0 : decode mX12_puts.2.1 0 = .ok (.aload_n 0, 1) := by decide +kernel
theorem dX12_puts_1 : decode mX12_puts.2.1 1 = .ok (.dup, 1) := by decide +kernel
theorem dX12_puts_2 : decode mX12_puts.2.1 2 = .ok (.getfield 215, 3) := by decide +kernel
theorem dX12_puts_5 : decode mX12_puts.2.1 5 = .ok (.iconst 1, 1) := by decide +kernel
theorem dX12_puts_6 : decode mX12_puts.2.1 6 = .ok (.iadd, 1) := by decide +kernel
theorem dX12_puts_7 : decode mX12_puts.2.1 7 = .ok (.putfield 215, 3) := by decide +kernel
theorem dX12_puts_10 : decode mX12_puts.2.1 10 = .ok (.aload_n 0, 1) := by decide +kernel
theorem dX12_puts_11 : decode mX12_puts.2.1 11 = .ok (.getfield 215, 3) := by decide +kernel
theorem dX12_puts_14 : decode mX12_puts.2.1 14 = .ok (.bipush 15, 2) := by decide +kernel
theorem dX12_puts_16 : decode mX12_puts.2.1 16 = .ok (.if_icmp .le 43, 3) := by decide +kernel
theorem dX12_puts_19 : decode mX12_puts.2.1 19 = .ok (.iconst 0, 1) := by decide +kernel
theorem dX12_puts_20 : decode mX12_puts.2.1 20 = .ok (.istore_n 2, 1) := by decide +kernel
theorem dX12_puts_21 : decode mX12_puts.2.1 21 = .ok (.iload_n 2, 1) := by decide +kernel
theorem dX12_puts_22 : decode mX12_puts.2.1 22 = .ok (.sipush 390, 3) := by decide +kernel
theorem dX12_puts_25 : decode mX12_puts.2.1 25 = .ok (.if_icmp .ge 24, 3) := by decide +kernel
theorem dX12_puts_28 : decode mX12_puts.2.1 28 = .ok (.aload_n 0, 1) := by decide +kernel
theorem dX12_puts_29 : decode mX12_puts.2.1 29 = .ok (.getfield 73, 3) := by decide +kernel
theorem dX12_puts_32 : decode mX12_puts.2.1 32 = .ok (.iload_n 2, 1) := by decide +kernel
theorem dX12_puts_33 : decode mX12_puts.2.1 33 = .ok (.aload_n 0, 1) := by decide +kernel
theorem dX12_puts_34 : decode mX12_puts.2.1 34 = .ok (.getfield 73, 3) := by decide +kernel
theorem dX12_puts_37 : decode mX12_puts.2.1 37 = .ok (.iload_n 2, 1) := by decide +kernel
theorem dX12_puts_38 : decode mX12_puts.2.1 38 = .ok (.bipush 26, 2) := by decide +kernel
theorem dX12_puts_40 : decode mX12_puts.2.1 40 = .ok (.iadd, 1) := by decide +kernel
theorem dX12_puts_41 : decode mX12_puts.2.1 41 = .ok (.iaload, 1) := by decide +kernel
theorem dX12_puts_42 : decode mX12_puts.2.1 42 = .ok (.iastore, 1) := by decide +kernel
theorem dX12_puts_43 : decode mX12_puts.2.1 43 = .ok (.iinc 2 1, 3) := by decide +kernel
theorem dX12_puts_46 : decode mX12_puts.2.1 46 = .ok (.goto (-25), 3) := by decide +kernel
theorem dX12_puts_49 : decode mX12_puts.2.1 49 = .ok (.aload_n 0, 1) := by decide +kernel
theorem dX12_puts_50 : decode mX12_puts.2.1 50 = .ok (.dup, 1) := by decide +kernel
theorem dX12_puts_51 : decode mX12_puts.2.1 51 = .ok (.getfield 215, 3) := by decide +kernel
theorem dX12_puts_54 : decode mX12_puts.2.1 54 = .ok (.iconst 1, 1) := by decide +kernel
theorem dX12_puts_55 : decode mX12_puts.2.1 55 = .ok (.isub, 1) := by decide +kernel
theorem dX12_puts_56 : decode mX12_puts.2.1 56 = .ok (.putfield 215, 3) := by decide +kernel
theorem dX12_puts_59 : decode mX12_puts.2.1 59 = .ok (.iload_n 1, 1) := by decide +kernel
theorem dX12_puts_60 : decode mX12_puts.2.1 60 = .ok (.ireturn, 1) := by decide +kernel
theorem dX12_counted_0 : decode mX12_counted.2.1 0 = .ok (.iload_n 1, 1) := by decide +kernel
theorem dX12_counted_1 : decode mX12_counted.2.1 1 = .ok (.ifCond .ge 7, 3) := by decide +kernel
theorem dX12_counted_4 : decode mX12_counted.2.1 4 = .ok (.iload_n 1, 1) := by decide +kernel
theorem dX12_counted_5 : decode mX12_counted.2.1 5 = .ok (.goto 8, 3) := by decide +kernel
theorem dX12_counted_8 : decode mX12_counted.2.1 8 = .ok (.aload_n 0, 1) := by decide +kernel
theorem dX12_counted_9 : decode mX12_counted.2.1 9 = .ok (.iload_n 1, 1) := by decide +kernel
theorem dX12_counted_10 : decode mX12_counted.2.1 10 = .ok (.invokevirtual 354, 3) := by decide +kernel
theorem dX12_counted_13 : decode mX12_counted.2.1 13 = .ok (.ireturn, 1) := by decide +kernel
theorem dX12_undo_0 : decode mX12_undo.2.1 0 = .ok (.aload_n 0, 1) := by decide +kernel
theorem dX12_undo_1 : decode mX12_undo.2.1 1 = .ok (.iconst 0, 1) := by decide +kernel
theorem dX12_undo_2 : decode mX12_undo.2.1 2 = .ok (.putfield 3, 3) := by decide +kernel
theorem dX12_undo_5 : decode mX12_undo.2.1 5 = .ok (.aload_n 0, 1) := by decide +kernel
theorem dX12_undo_6 : decode mX12_undo.2.1 6 = .ok (.getfield 215, 3) := by decide +kernel
theorem dX12_undo_9 : decode mX12_undo.2.1 9 = .ok (.ifCond .ne 5, 3) := by decide +kernel
theorem dX12_undo_12 : decode mX12_undo.2.1 12 = .ok (.iconst (-1), 1) := by decide +kernel
theorem dX12_undo_13 : decode mX12_undo.2.1 13 = .ok (.ireturn, 1) := by decide +kernel
theorem dX12_undo_14 : decode mX12_undo.2.1 14 = .ok (.aload_n 0, 1) := by decide +kernel
theorem dX12_undo_15 : decode mX12_undo.2.1 15 = .ok (.dup, 1) := by decide +kernel
theorem dX12_undo_16 : decode mX12_undo.2.1 16 = .ok (.getfield 215, 3) := by decide +kernel
theorem dX12_undo_19 : decode mX12_undo.2.1 19 = .ok (.iconst 1, 1) := by decide +kernel
theorem dX12_undo_20 : decode mX12_undo.2.1 20 = .ok (.isub, 1) := by decide +kernel
theorem dX12_undo_21 : decode mX12_undo.2.1 21 = .ok (.putfield 215, 3) := by decide +kernel
theorem dX12_undo_24 : decode mX12_undo.2.1 24 = .ok (.iconst 0, 1) := by decide +kernel
theorem dX12_undo_25 : decode mX12_undo.2.1 25 = .ok (.istore_n 1, 1) := by decide +kernel
theorem dX12_undo_26 : decode mX12_undo.2.1 26 = .ok (.iload_n 1, 1) := by decide +kernel
theorem dX12_undo_27 : decode mX12_undo.2.1 27 = .ok (.bipush 26, 2) := by decide +kernel
theorem dX12_undo_29 : decode mX12_undo.2.1 29 = .ok (.if_icmp .ge 29, 3) := by decide +kernel
theorem dX12_undo_32 : decode mX12_undo.2.1 32 = .ok (.aload_n 0, 1) := by decide +kernel
theorem dX12_undo_33 : decode mX12_undo.2.1 33 = .ok (.getfield 49, 3) := by decide +kernel
theorem dX12_undo_36 : decode mX12_undo.2.1 36 = .ok (.iload_n 1, 1) := by decide +kernel
theorem dX12_undo_37 : decode mX12_undo.2.1 37 = .ok (.aload_n 0, 1) := by decide +kernel
theorem dX12_undo_38 : decode mX12_undo.2.1 38 = .ok (.getfield 73, 3) := by decide +kernel
theorem dX12_undo_41 : decode mX12_undo.2.1 41 = .ok (.bipush 26, 2) := by decide +kernel
theorem dX12_undo_43 : decode mX12_undo.2.1 43 = .ok (.aload_n 0, 1) := by decide +kernel
theorem dX12_undo_44 : decode mX12_undo.2.1 44 = .ok (.getfield 215, 3) := by decide +kernel
theorem dX12_undo_47 : decode mX12_undo.2.1 47 = .ok (.imul, 1) := by decide +kernel
theorem dX12_undo_48 : decode mX12_undo.2.1 48 = .ok (.iload_n 1, 1) := by decide +kernel
theorem dX12_undo_49 : decode mX12_undo.2.1 49 = .ok (.iadd, 1) := by decide +kernel
theorem dX12_undo_50 : decode mX12_undo.2.1 50 = .ok (.iaload, 1) := by decide +kernel
theorem dX12_undo_51 : decode mX12_undo.2.1 51 = .ok (.iastore, 1) := by decide +kernel
theorem dX12_undo_52 : decode mX12_undo.2.1 52 = .ok (.iinc 1 1, 3) := by decide +kernel
theorem dX12_undo_55 : decode mX12_undo.2.1 55 = .ok (.goto (-29), 3) := by decide +kernel
theorem dX12_undo_58 : decode mX12_undo.2.1 58 = .ok (.aload_n 0, 1) := by decide +kernel
theorem dX12_undo_59 : decode mX12_undo.2.1 59 = .ok (.getfield 215, 3) := by decide +kernel
theorem dX12_undo_62 : decode mX12_undo.2.1 62 = .ok (.ireturn, 1) := by decide +kernel
theorem dX12_hourGoes_0 : decode mX12_hourGoes.2.1 0 = .ok (.iconst 0, 1) := by decide +kernel
theorem dX12_hourGoes_1 : decode mX12_hourGoes.2.1 1 = .ok (.istore_n 2, 1) := by decide +kernel
theorem dX12_hourGoes_2 : decode mX12_hourGoes.2.1 2 = .ok (.iload_n 2, 1) := by decide +kernel
theorem dX12_hourGoes_3 : decode mX12_hourGoes.2.1 3 = .ok (.aload_n 0, 1) := by decide +kernel
theorem dX12_hourGoes_4 : decode mX12_hourGoes.2.1 4 = .ok (.getfield 140, 3) := by decide +kernel
theorem dX12_hourGoes_7 : decode mX12_hourGoes.2.1 7 = .ok (.if_icmp .ge 62, 3) := by decide +kernel
theorem dX12_hourGoes_10 : decode mX12_hourGoes.2.1 10 = .ok (.aload_n 1, 1) := by decide +kernel
theorem dX12_hourGoes_11 : decode mX12_hourGoes.2.1 11 = .ok (.bipush 8, 2) := by decide +kernel
theorem dX12_hourGoes_13 : decode mX12_hourGoes.2.1 13 = .ok (.iload_n 2, 1) := by decide +kernel
theorem dX12_hourGoes_14 : decode mX12_hourGoes.2.1 14 = .ok (.iadd, 1) := by decide +kernel
theorem dX12_hourGoes_15 : decode mX12_hourGoes.2.1 15 = .ok (.iaload, 1) := by decide +kernel
theorem dX12_hourGoes_16 : decode mX12_hourGoes.2.1 16 = .ok (.istore_n 3, 1) := by decide +kernel
theorem dX12_hourGoes_17 : decode mX12_hourGoes.2.1 17 = .ok (.aload_n 0, 1) := by decide +kernel
theorem dX12_hourGoes_18 : decode mX12_hourGoes.2.1 18 = .ok (.aload_n 1, 1) := by decide +kernel
theorem dX12_hourGoes_19 : decode mX12_hourGoes.2.1 19 = .ok (.iload_n 2, 1) := by decide +kernel
theorem dX12_hourGoes_20 : decode mX12_hourGoes.2.1 20 = .ok (.iaload, 1) := by decide +kernel
theorem dX12_hourGoes_21 : decode mX12_hourGoes.2.1 21 = .ok (.iload_n 3, 1) := by decide +kernel
theorem dX12_hourGoes_22 : decode mX12_hourGoes.2.1 22 = .ok (.invokevirtual 357, 3) := by decide +kernel
theorem dX12_hourGoes_25 : decode mX12_hourGoes.2.1 25 = .ok (.istore 4, 2) := by decide +kernel
theorem dX12_hourGoes_27 : decode mX12_hourGoes.2.1 27 = .ok (.aload_n 1, 1) := by decide +kernel
theorem dX12_hourGoes_28 : decode mX12_hourGoes.2.1 28 = .ok (.bipush 8, 2) := by decide +kernel
theorem dX12_hourGoes_30 : decode mX12_hourGoes.2.1 30 = .ok (.iload_n 2, 1) := by decide +kernel
theorem dX12_hourGoes_31 : decode mX12_hourGoes.2.1 31 = .ok (.iadd, 1) := by decide +kernel
theorem dX12_hourGoes_32 : decode mX12_hourGoes.2.1 32 = .ok (.iload 4, 2) := by decide +kernel
theorem dX12_hourGoes_34 : decode mX12_hourGoes.2.1 34 = .ok (.ifCond .ge 11, 3) := by decide +kernel
theorem dX12_hourGoes_37 : decode mX12_hourGoes.2.1 37 = .ok (.iload_n 3, 1) := by decide +kernel
theorem dX12_hourGoes_38 : decode mX12_hourGoes.2.1 38 = .ok (.iconst 2, 1) := by decide +kernel
theorem dX12_hourGoes_39 : decode mX12_hourGoes.2.1 39 = .ok (.iadd, 1) := by decide +kernel
theorem dX12_hourGoes_40 : decode mX12_hourGoes.2.1 40 = .ok (.iconst 4, 1) := by decide +kernel
theorem dX12_hourGoes_41 : decode mX12_hourGoes.2.1 41 = .ok (.irem, 1) := by decide +kernel
theorem dX12_hourGoes_42 : decode mX12_hourGoes.2.1 42 = .ok (.goto 4, 3) := by decide +kernel
theorem dX12_hourGoes_45 : decode mX12_hourGoes.2.1 45 = .ok (.iload_n 3, 1) := by decide +kernel
theorem dX12_hourGoes_46 : decode mX12_hourGoes.2.1 46 = .ok (.iastore, 1) := by decide +kernel
theorem dX12_hourGoes_47 : decode mX12_hourGoes.2.1 47 = .ok (.aload_n 1, 1) := by decide +kernel
theorem dX12_hourGoes_48 : decode mX12_hourGoes.2.1 48 = .ok (.iload_n 2, 1) := by decide +kernel
theorem dX12_hourGoes_49 : decode mX12_hourGoes.2.1 49 = .ok (.iload 4, 2) := by decide +kernel
theorem dX12_hourGoes_51 : decode mX12_hourGoes.2.1 51 = .ok (.ifCond .ge 9, 3) := by decide +kernel
theorem dX12_hourGoes_54 : decode mX12_hourGoes.2.1 54 = .ok (.aload_n 1, 1) := by decide +kernel
theorem dX12_hourGoes_55 : decode mX12_hourGoes.2.1 55 = .ok (.iload_n 2, 1) := by decide +kernel
theorem dX12_hourGoes_56 : decode mX12_hourGoes.2.1 56 = .ok (.iaload, 1) := by decide +kernel
theorem dX12_hourGoes_57 : decode mX12_hourGoes.2.1 57 = .ok (.goto 5, 3) := by decide +kernel
theorem dX12_hourGoes_60 : decode mX12_hourGoes.2.1 60 = .ok (.iload 4, 2) := by decide +kernel
theorem dX12_hourGoes_62 : decode mX12_hourGoes.2.1 62 = .ok (.iastore, 1) := by decide +kernel
theorem dX12_hourGoes_63 : decode mX12_hourGoes.2.1 63 = .ok (.iinc 2 1, 3) := by decide +kernel
theorem dX12_hourGoes_66 : decode mX12_hourGoes.2.1 66 = .ok (.goto (-64), 3) := by decide +kernel
theorem dX12_hourGoes_69 : decode mX12_hourGoes.2.1 69 = .ok (.aload_n 1, 1) := by decide +kernel
theorem dX12_hourGoes_70 : decode mX12_hourGoes.2.1 70 = .ok (.bipush 25, 2) := by decide +kernel
theorem dX12_hourGoes_72 : decode mX12_hourGoes.2.1 72 = .ok (.dup2, 1) := by decide +kernel
theorem dX12_hourGoes_73 : decode mX12_hourGoes.2.1 73 = .ok (.iaload, 1) := by decide +kernel
theorem dX12_hourGoes_74 : decode mX12_hourGoes.2.1 74 = .ok (.iconst 1, 1) := by decide +kernel
theorem dX12_hourGoes_75 : decode mX12_hourGoes.2.1 75 = .ok (.iadd, 1) := by decide +kernel
theorem dX12_hourGoes_76 : decode mX12_hourGoes.2.1 76 = .ok (.iastore, 1) := by decide +kernel
theorem dX12_hourGoes_77 : decode mX12_hourGoes.2.1 77 = .ok (.return_, 1) := by decide +kernel
theorem dX12_goesOn_0 : decode mX12_goesOn.2.1 0 = .ok (.iconst 0, 1) := by decide +kernel
theorem dX12_goesOn_1 : decode mX12_goesOn.2.1 1 = .ok (.istore_n 3, 1) := by decide +kernel
theorem dX12_goesOn_2 : decode mX12_goesOn.2.1 2 = .ok (.iload_n 3, 1) := by decide +kernel
theorem dX12_goesOn_3 : decode mX12_goesOn.2.1 3 = .ok (.iload_n 2, 1) := by decide +kernel
theorem dX12_goesOn_4 : decode mX12_goesOn.2.1 4 = .ok (.if_icmp .ge 14, 3) := by decide +kernel
theorem dX12_goesOn_7 : decode mX12_goesOn.2.1 7 = .ok (.aload_n 0, 1) := by decide +kernel
theorem dX12_goesOn_8 : decode mX12_goesOn.2.1 8 = .ok (.aload_n 1, 1) := by decide +kernel
theorem dX12_goesOn_9 : decode mX12_goesOn.2.1 9 = .ok (.invokevirtual 360, 3) := by decide +kernel
theorem dX12_goesOn_12 : decode mX12_goesOn.2.1 12 = .ok (.iinc 3 1, 3) := by decide +kernel
theorem dX12_goesOn_15 : decode mX12_goesOn.2.1 15 = .ok (.goto (-13), 3) := by decide +kernel
theorem dX12_goesOn_18 : decode mX12_goesOn.2.1 18 = .ok (.return_, 1) := by decide +kernel
theorem dX12_hangs_0 : decode mX12_hangs.2.1 0 = .ok (.aload_n 0, 1) := by decide +kernel
theorem dX12_hangs_1 : decode mX12_hangs.2.1 1 = .ok (.iload_n 2, 1) := by decide +kernel
theorem dX12_hangs_2 : decode mX12_hangs.2.1 2 = .ok (.invokevirtual 343, 3) := by decide +kernel
theorem dX12_hangs_5 : decode mX12_hangs.2.1 5 = .ok (.ifCond .eq 11, 3) := by decide +kernel
theorem dX12_hangs_8 : decode mX12_hangs.2.1 8 = .ok (.aload_n 0, 1) := by decide +kernel
theorem dX12_hangs_9 : decode mX12_hangs.2.1 9 = .ok (.iload_n 3, 1) := by decide +kernel
theorem dX12_hangs_10 : decode mX12_hangs.2.1 10 = .ok (.invokevirtual 346, 3) := by decide +kernel
theorem dX12_hangs_13 : decode mX12_hangs.2.1 13 = .ok (.ifCond .ne 5, 3) := by decide +kernel
theorem dX12_hangs_16 : decode mX12_hangs.2.1 16 = .ok (.iconst (-1), 1) := by decide +kernel
theorem dX12_hangs_17 : decode mX12_hangs.2.1 17 = .ok (.ireturn, 1) := by decide +kernel
theorem dX12_hangs_18 : decode mX12_hangs.2.1 18 = .ok (.aload_n 1, 1) := by decide +kernel
theorem dX12_hangs_19 : decode mX12_hangs.2.1 19 = .ok (.bipush 16, 2) := by decide +kernel
theorem dX12_hangs_21 : decode mX12_hangs.2.1 21 = .ok (.iload_n 2, 1) := by decide +kernel
theorem dX12_hangs_22 : decode mX12_hangs.2.1 22 = .ok (.iadd, 1) := by decide +kernel
theorem dX12_hangs_23 : decode mX12_hangs.2.1 23 = .ok (.iaload, 1) := by decide +kernel
theorem dX12_hangs_24 : decode mX12_hangs.2.1 24 = .ok (.iload_n 3, 1) := by decide +kernel
theorem dX12_hangs_25 : decode mX12_hangs.2.1 25 = .ok (.if_icmp .ne 6, 3) := by decide +kernel
theorem dX12_hangs_28 : decode mX12_hangs.2.1 28 = .ok (.bipush (-2), 2) := by decide +kernel
theorem dX12_hangs_30 : decode mX12_hangs.2.1 30 = .ok (.ireturn, 1) := by decide +kernel
theorem dX12_hangs_31 : decode mX12_hangs.2.1 31 = .ok (.aload_n 1, 1) := by decide +kernel
theorem dX12_hangs_32 : decode mX12_hangs.2.1 32 = .ok (.bipush 16, 2) := by decide +kernel
theorem dX12_hangs_34 : decode mX12_hangs.2.1 34 = .ok (.iload_n 2, 1) := by decide +kernel
theorem dX12_hangs_35 : decode mX12_hangs.2.1 35 = .ok (.iadd, 1) := by decide +kernel
theorem dX12_hangs_36 : decode mX12_hangs.2.1 36 = .ok (.iload_n 3, 1) := by decide +kernel
theorem dX12_hangs_37 : decode mX12_hangs.2.1 37 = .ok (.iastore, 1) := by decide +kernel
theorem dX12_hangs_38 : decode mX12_hangs.2.1 38 = .ok (.aload_n 0, 1) := by decide +kernel
theorem dX12_hangs_39 : decode mX12_hangs.2.1 39 = .ok (.aload_n 1, 1) := by decide +kernel
theorem dX12_hangs_40 : decode mX12_hangs.2.1 40 = .ok (.iload_n 3, 1) := by decide +kernel
theorem dX12_hangs_41 : decode mX12_hangs.2.1 41 = .ok (.invokevirtual 325, 3) := by decide +kernel
theorem dX12_hangs_44 : decode mX12_hangs.2.1 44 = .ok (.invokestatic 300, 3) := by decide +kernel
theorem dX12_hangs_47 : decode mX12_hangs.2.1 47 = .ok (.ireturn, 1) := by decide +kernel
theorem dX12_takesDown_0 : decode mX12_takesDown.2.1 0 = .ok (.aload_n 0, 1) := by decide +kernel
theorem dX12_takesDown_1 : decode mX12_takesDown.2.1 1 = .ok (.iload_n 1, 1) := by decide +kernel
theorem dX12_takesDown_2 : decode mX12_takesDown.2.1 2 = .ok (.invokevirtual 343, 3) := by decide +kernel
theorem dX12_takesDown_5 : decode mX12_takesDown.2.1 5 = .ok (.ifCond .ne 5, 3) := by decide +kernel
theorem dX12_takesDown_8 : decode mX12_takesDown.2.1 8 = .ok (.iconst (-1), 1) := by decide +kernel
theorem dX12_takesDown_9 : decode mX12_takesDown.2.1 9 = .ok (.ireturn, 1) := by decide +kernel
theorem dX12_takesDown_10 : decode mX12_takesDown.2.1 10 = .ok (.aload_n 0, 1) := by decide +kernel
theorem dX12_takesDown_11 : decode mX12_takesDown.2.1 11 = .ok (.getfield 49, 3) := by decide +kernel
theorem dX12_takesDown_14 : decode mX12_takesDown.2.1 14 = .ok (.bipush 16, 2) := by decide +kernel
theorem dX12_takesDown_16 : decode mX12_takesDown.2.1 16 = .ok (.iload_n 1, 1) := by decide +kernel
theorem dX12_takesDown_17 : decode mX12_takesDown.2.1 17 = .ok (.iadd, 1) := by decide +kernel
theorem dX12_takesDown_18 : decode mX12_takesDown.2.1 18 = .ok (.iaload, 1) := by decide +kernel
theorem dX12_takesDown_19 : decode mX12_takesDown.2.1 19 = .ok (.istore_n 2, 1) := by decide +kernel
theorem dX12_takesDown_20 : decode mX12_takesDown.2.1 20 = .ok (.aload_n 0, 1) := by decide +kernel
theorem dX12_takesDown_21 : decode mX12_takesDown.2.1 21 = .ok (.getfield 49, 3) := by decide +kernel
theorem dX12_takesDown_24 : decode mX12_takesDown.2.1 24 = .ok (.bipush 16, 2) := by decide +kernel
theorem dX12_takesDown_26 : decode mX12_takesDown.2.1 26 = .ok (.iload_n 1, 1) := by decide +kernel
theorem dX12_takesDown_27 : decode mX12_takesDown.2.1 27 = .ok (.iadd, 1) := by decide +kernel
theorem dX12_takesDown_28 : decode mX12_takesDown.2.1 28 = .ok (.iconst (-1), 1) := by decide +kernel
theorem dX12_takesDown_29 : decode mX12_takesDown.2.1 29 = .ok (.iastore, 1) := by decide +kernel
theorem dX12_takesDown_30 : decode mX12_takesDown.2.1 30 = .ok (.iload_n 2, 1) := by decide +kernel
theorem dX12_takesDown_31 : decode mX12_takesDown.2.1 31 = .ok (.ifCond .ge 8, 3) := by decide +kernel
theorem dX12_takesDown_34 : decode mX12_takesDown.2.1 34 = .ok (.bipush (-2), 2) := by decide +kernel
theorem dX12_takesDown_36 : decode mX12_takesDown.2.1 36 = .ok (.goto 4, 3) := by decide +kernel
theorem dX12_takesDown_39 : decode mX12_takesDown.2.1 39 = .ok (.iload_n 2, 1) := by decide +kernel
theorem dX12_takesDown_40 : decode mX12_takesDown.2.1 40 = .ok (.ireturn, 1) := by decide +kernel
theorem dX12_breaks_0 : decode mX12_breaks.2.1 0 = .ok (.aload_n 0, 1) := by decide +kernel
theorem dX12_breaks_1 : decode mX12_breaks.2.1 1 = .ok (.iload_n 2, 1) := by decide +kernel
theorem dX12_breaks_2 : decode mX12_breaks.2.1 2 = .ok (.invokevirtual 343, 3) := by decide +kernel
theorem dX12_breaks_5 : decode mX12_breaks.2.1 5 = .ok (.ifCond .ne 5, 3) := by decide +kernel
theorem dX12_breaks_8 : decode mX12_breaks.2.1 8 = .ok (.iconst (-1), 1) := by decide +kernel
theorem dX12_breaks_9 : decode mX12_breaks.2.1 9 = .ok (.ireturn, 1) := by decide +kernel
theorem dX12_breaks_10 : decode mX12_breaks.2.1 10 = .ok (.aload_n 1, 1) := by decide +kernel
theorem dX12_breaks_11 : decode mX12_breaks.2.1 11 = .ok (.bipush 24, 2) := by decide +kernel
theorem dX12_breaks_13 : decode mX12_breaks.2.1 13 = .ok (.iaload, 1) := by decide +kernel
theorem dX12_breaks_14 : decode mX12_breaks.2.1 14 = .ok (.iload_n 2, 1) := by decide +kernel
theorem dX12_breaks_15 : decode mX12_breaks.2.1 15 = .ok (.invokestatic 296, 3) := by decide +kernel
theorem dX12_breaks_18 : decode mX12_breaks.2.1 18 = .ok (.ifCond .eq 6, 3) := by decide +kernel
theorem dX12_breaks_21 : decode mX12_breaks.2.1 21 = .ok (.bipush (-2), 2) := by decide +kernel
theorem dX12_breaks_23 : decode mX12_breaks.2.1 23 = .ok (.ireturn, 1) := by decide +kernel
theorem dX12_breaks_24 : decode mX12_breaks.2.1 24 = .ok (.aload_n 1, 1) := by decide +kernel
theorem dX12_breaks_25 : decode mX12_breaks.2.1 25 = .ok (.bipush 24, 2) := by decide +kernel
theorem dX12_breaks_27 : decode mX12_breaks.2.1 27 = .ok (.dup2, 1) := by decide +kernel
theorem dX12_breaks_28 : decode mX12_breaks.2.1 28 = .ok (.iaload, 1) := by decide +kernel
theorem dX12_breaks_29 : decode mX12_breaks.2.1 29 = .ok (.iconst 1, 1) := by decide +kernel
theorem dX12_breaks_30 : decode mX12_breaks.2.1 30 = .ok (.iload_n 2, 1) := by decide +kernel
theorem dX12_breaks_31 : decode mX12_breaks.2.1 31 = .ok (.ishl, 1) := by decide +kernel
theorem dX12_breaks_32 : decode mX12_breaks.2.1 32 = .ok (.ior, 1) := by decide +kernel
theorem dX12_breaks_33 : decode mX12_breaks.2.1 33 = .ok (.iastore, 1) := by decide +kernel
theorem dX12_breaks_34 : decode mX12_breaks.2.1 34 = .ok (.aload_n 1, 1) := by decide +kernel
theorem dX12_breaks_35 : decode mX12_breaks.2.1 35 = .ok (.bipush 24, 2) := by decide +kernel
theorem dX12_breaks_37 : decode mX12_breaks.2.1 37 = .ok (.iaload, 1) := by decide +kernel
theorem dX12_breaks_38 : decode mX12_breaks.2.1 38 = .ok (.invokestatic 300, 3) := by decide +kernel
theorem dX12_breaks_41 : decode mX12_breaks.2.1 41 = .ok (.ireturn, 1) := by decide +kernel
theorem dX12_carries_0 : decode mX12_carries.2.1 0 = .ok (.aload_n 0, 1) := by decide +kernel
theorem dX12_carries_1 : decode mX12_carries.2.1 1 = .ok (.iload_n 1, 1) := by decide +kernel
theorem dX12_carries_2 : decode mX12_carries.2.1 2 = .ok (.invokevirtual 332, 3) := by decide +kernel
theorem dX12_carries_5 : decode mX12_carries.2.1 5 = .ok (.ifCond .eq 23, 3) := by decide +kernel
theorem dX12_carries_8 : decode mX12_carries.2.1 8 = .ok (.aload_n 0, 1) := by decide +kernel
theorem dX12_carries_9 : decode mX12_carries.2.1 9 = .ok (.iload_n 2, 1) := by decide +kernel
theorem dX12_carries_10 : decode mX12_carries.2.1 10 = .ok (.invokevirtual 364, 3) := by decide +kernel
theorem dX12_carries_13 : decode mX12_carries.2.1 13 = .ok (.ifCond .eq 15, 3) := by decide +kernel
theorem dX12_carries_16 : decode mX12_carries.2.1 16 = .ok (.iload_n 3, 1) := by decide +kernel
theorem dX12_carries_17 : decode mX12_carries.2.1 17 = .ok (.i2l, 1) := by decide +kernel
theorem dX12_carries_18 : decode mX12_carries.2.1 18 = .ok (.lconst 0, 1) := by decide +kernel
theorem dX12_carries_19 : decode mX12_carries.2.1 19 = .ok (.ldc2_w 335, 3) := by decide +kernel
theorem dX12_carries_22 : decode mX12_carries.2.1 22 = .ok (.invokestatic 143, 3) := by decide +kernel
theorem dX12_carries_25 : decode mX12_carries.2.1 25 = .ok (.ifCond .ne 5, 3) := by decide +kernel
theorem dX12_carries_28 : decode mX12_carries.2.1 28 = .ok (.iconst (-1), 1) := by decide +kernel
theorem dX12_carries_29 : decode mX12_carries.2.1 29 = .ok (.ireturn, 1) := by decide +kernel
theorem dX12_carries_30 : decode mX12_carries.2.1 30 = .ok (.aload_n 0, 1) := by decide +kernel
theorem dX12_carries_31 : decode mX12_carries.2.1 31 = .ok (.getfield 49, 3) := by decide +kernel
theorem dX12_carries_34 : decode mX12_carries.2.1 34 = .ok (.iload_n 1, 1) := by decide +kernel
theorem dX12_carries_35 : decode mX12_carries.2.1 35 = .ok (.iaload, 1) := by decide +kernel
theorem dX12_carries_36 : decode mX12_carries.2.1 36 = .ok (.istore 4, 2) := by decide +kernel
theorem dX12_carries_38 : decode mX12_carries.2.1 38 = .ok (.aload_n 0, 1) := by decide +kernel
theorem dX12_carries_39 : decode mX12_carries.2.1 39 = .ok (.getfield 49, 3) := by decide +kernel
theorem dX12_carries_42 : decode mX12_carries.2.1 42 = .ok (.iload_n 1, 1) := by decide +kernel
theorem dX12_carries_43 : decode mX12_carries.2.1 43 = .ok (.iload_n 2, 1) := by decide +kernel
theorem dX12_carries_44 : decode mX12_carries.2.1 44 = .ok (.iastore, 1) := by decide +kernel
theorem dX12_carries_45 : decode mX12_carries.2.1 45 = .ok (.aload_n 0, 1) := by decide +kernel
theorem dX12_carries_46 : decode mX12_carries.2.1 46 = .ok (.getfield 49, 3) := by decide +kernel
theorem dX12_carries_49 : decode mX12_carries.2.1 49 = .ok (.bipush 8, 2) := by decide +kernel
theorem dX12_carries_51 : decode mX12_carries.2.1 51 = .ok (.iload_n 1, 1) := by decide +kernel
theorem dX12_carries_52 : decode mX12_carries.2.1 52 = .ok (.iadd, 1) := by decide +kernel
theorem dX12_carries_53 : decode mX12_carries.2.1 53 = .ok (.iload_n 3, 1) := by decide +kernel
theorem dX12_carries_54 : decode mX12_carries.2.1 54 = .ok (.iastore, 1) := by decide +kernel
theorem dX12_carries_55 : decode mX12_carries.2.1 55 = .ok (.iload 4, 2) := by decide +kernel
theorem dX12_carries_57 : decode mX12_carries.2.1 57 = .ok (.ireturn, 1) := by decide +kernel
theorem dX12_hang_0 : decode mX12_hang.2.1 0 = .ok (.aload_n 0, 1) := by decide +kernel
theorem dX12_hang_1 : decode mX12_hang.2.1 1 = .ok (.iconst 0, 1) := by decide +kernel
theorem dX12_hang_2 : decode mX12_hang.2.1 2 = .ok (.putfield 3, 3) := by decide +kernel
theorem dX12_hang_5 : decode mX12_hang.2.1 5 = .ok (.aload_n 0, 1) := by decide +kernel
theorem dX12_hang_6 : decode mX12_hang.2.1 6 = .ok (.invokevirtual 367, 3) := by decide +kernel
theorem dX12_hang_9 : decode mX12_hang.2.1 9 = .ok (.aload_n 0, 1) := by decide +kernel
theorem dX12_hang_10 : decode mX12_hang.2.1 10 = .ok (.aload_n 0, 1) := by decide +kernel
theorem dX12_hang_11 : decode mX12_hang.2.1 11 = .ok (.aload_n 0, 1) := by decide +kernel
theorem dX12_hang_12 : decode mX12_hang.2.1 12 = .ok (.getfield 49, 3) := by decide +kernel
theorem dX12_hang_15 : decode mX12_hang.2.1 15 = .ok (.iload_n 1, 1) := by decide +kernel
theorem dX12_hang_16 : decode mX12_hang.2.1 16 = .ok (.iload_n 2, 1) := by decide +kernel
theorem dX12_hang_17 : decode mX12_hang.2.1 17 = .ok (.invokevirtual 370, 3) := by decide +kernel
theorem dX12_hang_20 : decode mX12_hang.2.1 20 = .ok (.invokevirtual 373, 3) := by decide +kernel
theorem dX12_hang_23 : decode mX12_hang.2.1 23 = .ok (.ireturn, 1) := by decide +kernel
theorem dX12_takes_0 : decode mX12_takes.2.1 0 = .ok (.aload_n 0, 1) := by decide +kernel
theorem dX12_takes_1 : decode mX12_takes.2.1 1 = .ok (.iconst 0, 1) := by decide +kernel
theorem dX12_takes_2 : decode mX12_takes.2.1 2 = .ok (.putfield 3, 3) := by decide +kernel
theorem dX12_takes_5 : decode mX12_takes.2.1 5 = .ok (.aload_n 0, 1) := by decide +kernel
theorem dX12_takes_6 : decode mX12_takes.2.1 6 = .ok (.invokevirtual 367, 3) := by decide +kernel
theorem dX12_takes_9 : decode mX12_takes.2.1 9 = .ok (.aload_n 0, 1) := by decide +kernel
theorem dX12_takes_10 : decode mX12_takes.2.1 10 = .ok (.aload_n 0, 1) := by decide +kernel
theorem dX12_takes_11 : decode mX12_takes.2.1 11 = .ok (.iload_n 1, 1) := by decide +kernel
theorem dX12_takes_12 : decode mX12_takes.2.1 12 = .ok (.invokevirtual 376, 3) := by decide +kernel
theorem dX12_takes_15 : decode mX12_takes.2.1 15 = .ok (.invokevirtual 373, 3) := by decide +kernel
theorem dX12_takes_18 : decode mX12_takes.2.1 18 = .ok (.ireturn, 1) := by decide +kernel
theorem dX12_ball_0 : decode mX12_ball.2.1 0 = .ok (.aload_n 0, 1) := by decide +kernel
theorem dX12_ball_1 : decode mX12_ball.2.1 1 = .ok (.iconst 0, 1) := by decide +kernel
theorem dX12_ball_2 : decode mX12_ball.2.1 2 = .ok (.putfield 3, 3) := by decide +kernel
theorem dX12_ball_5 : decode mX12_ball.2.1 5 = .ok (.aload_n 0, 1) := by decide +kernel
theorem dX12_ball_6 : decode mX12_ball.2.1 6 = .ok (.invokevirtual 367, 3) := by decide +kernel
theorem dX12_ball_9 : decode mX12_ball.2.1 9 = .ok (.aload_n 0, 1) := by decide +kernel
theorem dX12_ball_10 : decode mX12_ball.2.1 10 = .ok (.aload_n 0, 1) := by decide +kernel
theorem dX12_ball_11 : decode mX12_ball.2.1 11 = .ok (.aload_n 0, 1) := by decide +kernel
theorem dX12_ball_12 : decode mX12_ball.2.1 12 = .ok (.getfield 49, 3) := by decide +kernel
theorem dX12_ball_15 : decode mX12_ball.2.1 15 = .ok (.iload_n 1, 1) := by decide +kernel
theorem dX12_ball_16 : decode mX12_ball.2.1 16 = .ok (.invokevirtual 379, 3) := by decide +kernel
theorem dX12_ball_19 : decode mX12_ball.2.1 19 = .ok (.invokevirtual 373, 3) := by decide +kernel
theorem dX12_ball_22 : decode mX12_ball.2.1 22 = .ok (.ireturn, 1) := by decide +kernel
theorem dX12_carry_0 : decode mX12_carry.2.1 0 = .ok (.aload_n 0, 1) := by decide +kernel
theorem dX12_carry_1 : decode mX12_carry.2.1 1 = .ok (.iconst 0, 1) := by decide +kernel
theorem dX12_carry_2 : decode mX12_carry.2.1 2 = .ok (.putfield 3, 3) := by decide +kernel
theorem dX12_carry_5 : decode mX12_carry.2.1 5 = .ok (.aload_n 0, 1) := by decide +kernel
theorem dX12_carry_6 : decode mX12_carry.2.1 6 = .ok (.invokevirtual 367, 3) := by decide +kernel
theorem dX12_carry_9 : decode mX12_carry.2.1 9 = .ok (.aload_n 0, 1) := by decide +kernel
theorem dX12_carry_10 : decode mX12_carry.2.1 10 = .ok (.aload_n 0, 1) := by decide +kernel
theorem dX12_carry_11 : decode mX12_carry.2.1 11 = .ok (.iload_n 1, 1) := by decide +kernel
theorem dX12_carry_12 : decode mX12_carry.2.1 12 = .ok (.iload_n 2, 1) := by decide +kernel
theorem dX12_carry_13 : decode mX12_carry.2.1 13 = .ok (.iload_n 3, 1) := by decide +kernel
theorem dX12_carry_14 : decode mX12_carry.2.1 14 = .ok (.invokevirtual 382, 3) := by decide +kernel
theorem dX12_carry_17 : decode mX12_carry.2.1 17 = .ok (.invokevirtual 373, 3) := by decide +kernel
theorem dX12_carry_20 : decode mX12_carry.2.1 20 = .ok (.ireturn, 1) := by decide +kernel
theorem dX12_hours_0 : decode mX12_hours.2.1 0 = .ok (.aload_n 0, 1) := by decide +kernel
theorem dX12_hours_1 : decode mX12_hours.2.1 1 = .ok (.iconst 0, 1) := by decide +kernel
theorem dX12_hours_2 : decode mX12_hours.2.1 2 = .ok (.putfield 3, 3) := by decide +kernel
theorem dX12_hours_5 : decode mX12_hours.2.1 5 = .ok (.iload_n 1, 1) := by decide +kernel
theorem dX12_hours_6 : decode mX12_hours.2.1 6 = .ok (.i2l, 1) := by decide +kernel
theorem dX12_hours_7 : decode mX12_hours.2.1 7 = .ok (.lconst 0, 1) := by decide +kernel
theorem dX12_hours_8 : decode mX12_hours.2.1 8 = .ok (.ldc2_w 385, 3) := by decide +kernel
theorem dX12_hours_11 : decode mX12_hours.2.1 11 = .ok (.invokestatic 143, 3) := by decide +kernel
theorem dX12_hours_14 : decode mX12_hours.2.1 14 = .ok (.ifCond .ne 5, 3) := by decide +kernel
theorem dX12_hours_17 : decode mX12_hours.2.1 17 = .ok (.iconst (-1), 1) := by decide +kernel
theorem dX12_hours_18 : decode mX12_hours.2.1 18 = .ok (.ireturn, 1) := by decide +kernel
theorem dX12_hours_19 : decode mX12_hours.2.1 19 = .ok (.aload_n 0, 1) := by decide +kernel
theorem dX12_hours_20 : decode mX12_hours.2.1 20 = .ok (.invokevirtual 367, 3) := by decide +kernel
theorem dX12_hours_23 : decode mX12_hours.2.1 23 = .ok (.iconst 0, 1) := by decide +kernel
theorem dX12_hours_24 : decode mX12_hours.2.1 24 = .ok (.istore_n 2, 1) := by decide +kernel
theorem dX12_hours_25 : decode mX12_hours.2.1 25 = .ok (.iload_n 2, 1) := by decide +kernel
theorem dX12_hours_26 : decode mX12_hours.2.1 26 = .ok (.aload_n 0, 1) := by decide +kernel
theorem dX12_hours_27 : decode mX12_hours.2.1 27 = .ok (.getfield 150, 3) := by decide +kernel
theorem dX12_hours_30 : decode mX12_hours.2.1 30 = .ok (.if_icmp .ge 16, 3) := by decide +kernel
theorem dX12_hours_33 : decode mX12_hours.2.1 33 = .ok (.aload_n 0, 1) := by decide +kernel
theorem dX12_hours_34 : decode mX12_hours.2.1 34 = .ok (.getfield 76, 3) := by decide +kernel
theorem dX12_hours_37 : decode mX12_hours.2.1 37 = .ok (.iload_n 2, 1) := by decide +kernel
theorem dX12_hours_38 : decode mX12_hours.2.1 38 = .ok (.iconst 0, 1) := by decide +kernel
theorem dX12_hours_39 : decode mX12_hours.2.1 39 = .ok (.iastore, 1) := by decide +kernel
theorem dX12_hours_40 : decode mX12_hours.2.1 40 = .ok (.iinc 2 1, 3) := by decide +kernel
theorem dX12_hours_43 : decode mX12_hours.2.1 43 = .ok (.goto (-18), 3) := by decide +kernel
theorem dX12_hours_46 : decode mX12_hours.2.1 46 = .ok (.iconst 0, 1) := by decide +kernel
theorem dX12_hours_47 : decode mX12_hours.2.1 47 = .ok (.istore_n 2, 1) := by decide +kernel
theorem dX12_hours_48 : decode mX12_hours.2.1 48 = .ok (.iload_n 2, 1) := by decide +kernel
theorem dX12_hours_49 : decode mX12_hours.2.1 49 = .ok (.iload_n 1, 1) := by decide +kernel
theorem dX12_hours_50 : decode mX12_hours.2.1 50 = .ok (.if_icmp .ge 51, 3) := by decide +kernel
theorem dX12_hours_53 : decode mX12_hours.2.1 53 = .ok (.aload_n 0, 1) := by decide +kernel
theorem dX12_hours_54 : decode mX12_hours.2.1 54 = .ok (.aload_n 0, 1) := by decide +kernel
theorem dX12_hours_55 : decode mX12_hours.2.1 55 = .ok (.getfield 49, 3) := by decide +kernel
theorem dX12_hours_58 : decode mX12_hours.2.1 58 = .ok (.invokevirtual 360, 3) := by decide +kernel
theorem dX12_hours_61 : decode mX12_hours.2.1 61 = .ok (.iconst 0, 1) := by decide +kernel
theorem dX12_hours_62 : decode mX12_hours.2.1 62 = .ok (.istore_n 3, 1) := by decide +kernel
theorem dX12_hours_63 : decode mX12_hours.2.1 63 = .ok (.iload_n 3, 1) := by decide +kernel
theorem dX12_hours_64 : decode mX12_hours.2.1 64 = .ok (.aload_n 0, 1) := by decide +kernel
theorem dX12_hours_65 : decode mX12_hours.2.1 65 = .ok (.getfield 150, 3) := by decide +kernel
theorem dX12_hours_68 : decode mX12_hours.2.1 68 = .ok (.if_icmp .ge 27, 3) := by decide +kernel
theorem dX12_hours_71 : decode mX12_hours.2.1 71 = .ok (.aload_n 0, 1) := by decide +kernel
theorem dX12_hours_72 : decode mX12_hours.2.1 72 = .ok (.getfield 76, 3) := by decide +kernel
theorem dX12_hours_75 : decode mX12_hours.2.1 75 = .ok (.iload_n 3, 1) := by decide +kernel
theorem dX12_hours_76 : decode mX12_hours.2.1 76 = .ok (.dup2, 1) := by decide +kernel
theorem dX12_hours_77 : decode mX12_hours.2.1 77 = .ok (.iaload, 1) := by decide +kernel
theorem dX12_hours_78 : decode mX12_hours.2.1 78 = .ok (.aload_n 0, 1) := by decide +kernel
theorem dX12_hours_79 : decode mX12_hours.2.1 79 = .ok (.aload_n 0, 1) := by decide +kernel
theorem dX12_hours_80 : decode mX12_hours.2.1 80 = .ok (.getfield 49, 3) := by decide +kernel
theorem dX12_hours_83 : decode mX12_hours.2.1 83 = .ok (.iload_n 3, 1) := by decide +kernel
theorem dX12_hours_84 : decode mX12_hours.2.1 84 = .ok (.invokevirtual 340, 3) := by decide +kernel
theorem dX12_hours_87 : decode mX12_hours.2.1 87 = .ok (.ior, 1) := by decide +kernel
theorem dX12_hours_88 : decode mX12_hours.2.1 88 = .ok (.iastore, 1) := by decide +kernel
theorem dX12_hours_89 : decode mX12_hours.2.1 89 = .ok (.iinc 3 1, 3) := by decide +kernel
theorem dX12_hours_92 : decode mX12_hours.2.1 92 = .ok (.goto (-29), 3) := by decide +kernel
theorem dX12_hours_95 : decode mX12_hours.2.1 95 = .ok (.iinc 2 1, 3) := by decide +kernel
theorem dX12_hours_98 : decode mX12_hours.2.1 98 = .ok (.goto (-50), 3) := by decide +kernel
theorem dX12_hours_101 : decode mX12_hours.2.1 101 = .ok (.aload_n 0, 1) := by decide +kernel
theorem dX12_hours_102 : decode mX12_hours.2.1 102 = .ok (.iconst 0, 1) := by decide +kernel
theorem dX12_hours_103 : decode mX12_hours.2.1 103 = .ok (.putfield 15, 3) := by decide +kernel
theorem dX12_hours_106 : decode mX12_hours.2.1 106 = .ok (.iconst 0, 1) := by decide +kernel
theorem dX12_hours_107 : decode mX12_hours.2.1 107 = .ok (.istore_n 2, 1) := by decide +kernel
theorem dX12_hours_108 : decode mX12_hours.2.1 108 = .ok (.iload_n 2, 1) := by decide +kernel
theorem dX12_hours_109 : decode mX12_hours.2.1 109 = .ok (.aload_n 0, 1) := by decide +kernel
theorem dX12_hours_110 : decode mX12_hours.2.1 110 = .ok (.getfield 150, 3) := by decide +kernel
theorem dX12_hours_113 : decode mX12_hours.2.1 113 = .ok (.if_icmp .ge 20, 3) := by decide +kernel
theorem dX12_hours_116 : decode mX12_hours.2.1 116 = .ok (.aload_n 0, 1) := by decide +kernel
theorem dX12_hours_117 : decode mX12_hours.2.1 117 = .ok (.aload_n 0, 1) := by decide +kernel
theorem dX12_hours_118 : decode mX12_hours.2.1 118 = .ok (.getfield 76, 3) := by decide +kernel
theorem dX12_hours_121 : decode mX12_hours.2.1 121 = .ok (.iload_n 2, 1) := by decide +kernel
theorem dX12_hours_122 : decode mX12_hours.2.1 122 = .ok (.iaload, 1) := by decide +kernel
theorem dX12_hours_123 : decode mX12_hours.2.1 123 = .ok (.i2l, 1) := by decide +kernel
theorem dX12_hours_124 : decode mX12_hours.2.1 124 = .ok (.invokevirtual 387, 3) := by decide +kernel
theorem dX12_hours_127 : decode mX12_hours.2.1 127 = .ok (.iinc 2 1, 3) := by decide +kernel
theorem dX12_hours_130 : decode mX12_hours.2.1 130 = .ok (.goto (-22), 3) := by decide +kernel
theorem dX12_hours_133 : decode mX12_hours.2.1 133 = .ok (.aload_n 0, 1) := by decide +kernel
theorem dX12_hours_134 : decode mX12_hours.2.1 134 = .ok (.aload_n 0, 1) := by decide +kernel
theorem dX12_hours_135 : decode mX12_hours.2.1 135 = .ok (.getfield 49, 3) := by decide +kernel
theorem dX12_hours_138 : decode mX12_hours.2.1 138 = .ok (.bipush 25, 2) := by decide +kernel
theorem dX12_hours_140 : decode mX12_hours.2.1 140 = .ok (.iaload, 1) := by decide +kernel
theorem dX12_hours_141 : decode mX12_hours.2.1 141 = .ok (.invokevirtual 354, 3) := by decide +kernel
theorem dX12_hours_144 : decode mX12_hours.2.1 144 = .ok (.ireturn, 1) := by decide +kernel
theorem dX12_readsAct_0 : decode mX12_readsAct.2.1 0 = .ok (.aload_n 0, 1) := by decide +kernel
theorem dX12_readsAct_1 : decode mX12_readsAct.2.1 1 = .ok (.getfield 391, 3) := by decide +kernel
theorem dX12_readsAct_4 : decode mX12_readsAct.2.1 4 = .ok (.istore_n 1, 1) := by decide +kernel
theorem dX12_readsAct_5 : decode mX12_readsAct.2.1 5 = .ok (.aload_n 0, 1) := by decide +kernel
theorem dX12_readsAct_6 : decode mX12_readsAct.2.1 6 = .ok (.getfield 79, 3) := by decide +kernel
theorem dX12_readsAct_9 : decode mX12_readsAct.2.1 9 = .ok (.iload_n 1, 1) := by decide +kernel
theorem dX12_readsAct_10 : decode mX12_readsAct.2.1 10 = .ok (.aload_n 0, 1) := by decide +kernel
theorem dX12_readsAct_11 : decode mX12_readsAct.2.1 11 = .ok (.ldc_w 394, 3) := by decide +kernel
theorem dX12_readsAct_14 : decode mX12_readsAct.2.1 14 = .ok (.invokevirtual 203, 3) := by decide +kernel
theorem dX12_readsAct_17 : decode mX12_readsAct.2.1 17 = .ok (.iastore, 1) := by decide +kernel
theorem dX12_readsAct_18 : decode mX12_readsAct.2.1 18 = .ok (.aload_n 0, 1) := by decide +kernel
theorem dX12_readsAct_19 : decode mX12_readsAct.2.1 19 = .ok (.dup, 1) := by decide +kernel
theorem dX12_readsAct_20 : decode mX12_readsAct.2.1 20 = .ok (.getfield 391, 3) := by decide +kernel
theorem dX12_readsAct_23 : decode mX12_readsAct.2.1 23 = .ok (.iconst 1, 1) := by decide +kernel
theorem dX12_readsAct_24 : decode mX12_readsAct.2.1 24 = .ok (.iadd, 1) := by decide +kernel
theorem dX12_readsAct_25 : decode mX12_readsAct.2.1 25 = .ok (.putfield 391, 3) := by decide +kernel
theorem dX12_readsAct_28 : decode mX12_readsAct.2.1 28 = .ok (.aload_n 0, 1) := by decide +kernel
theorem dX12_readsAct_29 : decode mX12_readsAct.2.1 29 = .ok (.getfield 79, 3) := by decide +kernel
theorem dX12_readsAct_32 : decode mX12_readsAct.2.1 32 = .ok (.iload_n 1, 1) := by decide +kernel
theorem dX12_readsAct_33 : decode mX12_readsAct.2.1 33 = .ok (.iaload, 1) := by decide +kernel
theorem dX12_readsAct_34 : decode mX12_readsAct.2.1 34 = .ok (.ifCond .ge 5, 3) := by decide +kernel
theorem dX12_readsAct_37 : decode mX12_readsAct.2.1 37 = .ok (.iconst 0, 1) := by decide +kernel
theorem dX12_readsAct_38 : decode mX12_readsAct.2.1 38 = .ok (.ireturn, 1) := by decide +kernel
theorem dX12_readsAct_39 : decode mX12_readsAct.2.1 39 = .ok (.aload_n 0, 1) := by decide +kernel
theorem dX12_readsAct_40 : decode mX12_readsAct.2.1 40 = .ok (.getfield 82, 3) := by decide +kernel
theorem dX12_readsAct_43 : decode mX12_readsAct.2.1 43 = .ok (.iload_n 1, 1) := by decide +kernel
theorem dX12_readsAct_44 : decode mX12_readsAct.2.1 44 = .ok (.aload_n 0, 1) := by decide +kernel
theorem dX12_readsAct_45 : decode mX12_readsAct.2.1 45 = .ok (.iconst 1, 1) := by decide +kernel
theorem dX12_readsAct_46 : decode mX12_readsAct.2.1 46 = .ok (.invokevirtual 221, 3) := by decide +kernel
theorem dX12_readsAct_49 : decode mX12_readsAct.2.1 49 = .ok (.iastore, 1) := by decide +kernel
theorem dX12_readsAct_50 : decode mX12_readsAct.2.1 50 = .ok (.aload_n 0, 1) := by decide +kernel
theorem dX12_readsAct_51 : decode mX12_readsAct.2.1 51 = .ok (.getfield 79, 3) := by decide +kernel
theorem dX12_readsAct_54 : decode mX12_readsAct.2.1 54 = .ok (.iload_n 1, 1) := by decide +kernel
theorem dX12_readsAct_55 : decode mX12_readsAct.2.1 55 = .ok (.iaload, 1) := by decide +kernel
theorem dX12_readsAct_56 : decode mX12_readsAct.2.1 56 = .ok (.iconst 1, 1) := by decide +kernel
theorem dX12_readsAct_57 : decode mX12_readsAct.2.1 57 = .ok (.if_icmp .eq 13, 3) := by decide +kernel
theorem dX12_readsAct_60 : decode mX12_readsAct.2.1 60 = .ok (.aload_n 0, 1) := by decide +kernel
theorem dX12_readsAct_61 : decode mX12_readsAct.2.1 61 = .ok (.getfield 79, 3) := by decide +kernel
theorem dX12_readsAct_64 : decode mX12_readsAct.2.1 64 = .ok (.iload_n 1, 1) := by decide +kernel
theorem dX12_readsAct_65 : decode mX12_readsAct.2.1 65 = .ok (.iaload, 1) := by decide +kernel
theorem dX12_readsAct_66 : decode mX12_readsAct.2.1 66 = .ok (.iconst 4, 1) := by decide +kernel
theorem dX12_readsAct_67 : decode mX12_readsAct.2.1 67 = .ok (.if_icmp .ne 7, 3) := by decide +kernel
theorem dX12_readsAct_70 : decode mX12_readsAct.2.1 70 = .ok (.iconst 1, 1) := by decide +kernel
theorem dX12_readsAct_71 : decode mX12_readsAct.2.1 71 = .ok (.goto 4, 3) := by decide +kernel
theorem dX12_readsAct_74 : decode mX12_readsAct.2.1 74 = .ok (.iconst 0, 1) := by decide +kernel
theorem dX12_readsAct_75 : decode mX12_readsAct.2.1 75 = .ok (.istore_n 2, 1) := by decide +kernel
theorem dX12_readsAct_76 : decode mX12_readsAct.2.1 76 = .ok (.aload_n 0, 1) := by decide +kernel
theorem dX12_readsAct_77 : decode mX12_readsAct.2.1 77 = .ok (.getfield 85, 3) := by decide +kernel
theorem dX12_readsAct_80 : decode mX12_readsAct.2.1 80 = .ok (.iload_n 1, 1) := by decide +kernel
theorem dX12_readsAct_81 : decode mX12_readsAct.2.1 81 = .ok (.aload_n 0, 1) := by decide +kernel
theorem dX12_readsAct_82 : decode mX12_readsAct.2.1 82 = .ok (.getfield 82, 3) := by decide +kernel
theorem dX12_readsAct_85 : decode mX12_readsAct.2.1 85 = .ok (.iload_n 1, 1) := by decide +kernel
theorem dX12_readsAct_86 : decode mX12_readsAct.2.1 86 = .ok (.iaload, 1) := by decide +kernel
theorem dX12_readsAct_87 : decode mX12_readsAct.2.1 87 = .ok (.ifCond .ge 7, 3) := by decide +kernel
theorem dX12_readsAct_90 : decode mX12_readsAct.2.1 90 = .ok (.iconst (-1), 1) := by decide +kernel
theorem dX12_readsAct_91 : decode mX12_readsAct.2.1 91 = .ok (.goto 16, 3) := by decide +kernel
theorem dX12_readsAct_94 : decode mX12_readsAct.2.1 94 = .ok (.iload_n 2, 1) := by decide +kernel
theorem dX12_readsAct_95 : decode mX12_readsAct.2.1 95 = .ok (.ifCond .eq 11, 3) := by decide +kernel
theorem dX12_readsAct_98 : decode mX12_readsAct.2.1 98 = .ok (.aload_n 0, 1) := by decide +kernel
theorem dX12_readsAct_99 : decode mX12_readsAct.2.1 99 = .ok (.iconst 1, 1) := by decide +kernel
theorem dX12_readsAct_100 : decode mX12_readsAct.2.1 100 = .ok (.invokevirtual 221, 3) := by decide +kernel
theorem dX12_readsAct_103 : decode mX12_readsAct.2.1 103 = .ok (.goto 4, 3) := by decide +kernel
theorem dX12_readsAct_106 : decode mX12_readsAct.2.1 106 = .ok (.iconst 0, 1) := by decide +kernel
theorem dX12_readsAct_107 : decode mX12_readsAct.2.1 107 = .ok (.iastore, 1) := by decide +kernel
theorem dX12_readsAct_108 : decode mX12_readsAct.2.1 108 = .ok (.aload_n 0, 1) := by decide +kernel
theorem dX12_readsAct_109 : decode mX12_readsAct.2.1 109 = .ok (.getfield 85, 3) := by decide +kernel
theorem dX12_readsAct_112 : decode mX12_readsAct.2.1 112 = .ok (.iload_n 1, 1) := by decide +kernel
theorem dX12_readsAct_113 : decode mX12_readsAct.2.1 113 = .ok (.iaload, 1) := by decide +kernel
theorem dX12_readsAct_114 : decode mX12_readsAct.2.1 114 = .ok (.ifCond .lt 13, 3) := by decide +kernel
theorem dX12_readsAct_117 : decode mX12_readsAct.2.1 117 = .ok (.aload_n 0, 1) := by decide +kernel
theorem dX12_readsAct_118 : decode mX12_readsAct.2.1 118 = .ok (.getfield 79, 3) := by decide +kernel
theorem dX12_readsAct_121 : decode mX12_readsAct.2.1 121 = .ok (.iload_n 1, 1) := by decide +kernel
theorem dX12_readsAct_122 : decode mX12_readsAct.2.1 122 = .ok (.iaload, 1) := by decide +kernel
theorem dX12_readsAct_123 : decode mX12_readsAct.2.1 123 = .ok (.iconst 4, 1) := by decide +kernel
theorem dX12_readsAct_124 : decode mX12_readsAct.2.1 124 = .ok (.if_icmp .eq 18, 3) := by decide +kernel
theorem dX12_readsAct_127 : decode mX12_readsAct.2.1 127 = .ok (.aload_n 0, 1) := by decide +kernel
theorem dX12_readsAct_128 : decode mX12_readsAct.2.1 128 = .ok (.getfield 85, 3) := by decide +kernel
theorem dX12_readsAct_131 : decode mX12_readsAct.2.1 131 = .ok (.iload_n 1, 1) := by decide +kernel
theorem dX12_readsAct_132 : decode mX12_readsAct.2.1 132 = .ok (.iaload, 1) := by decide +kernel
theorem dX12_readsAct_133 : decode mX12_readsAct.2.1 133 = .ok (.ifCond .lt 7, 3) := by decide +kernel
theorem dX12_readsAct_136 : decode mX12_readsAct.2.1 136 = .ok (.iconst 1, 1) := by decide +kernel
theorem dX12_readsAct_137 : decode mX12_readsAct.2.1 137 = .ok (.goto 4, 3) := by decide +kernel
theorem dX12_readsAct_140 : decode mX12_readsAct.2.1 140 = .ok (.iconst 0, 1) := by decide +kernel
theorem dX12_readsAct_141 : decode mX12_readsAct.2.1 141 = .ok (.ireturn, 1) := by decide +kernel
theorem dX12_readsAct_142 : decode mX12_readsAct.2.1 142 = .ok (.aload_n 0, 1) := by decide +kernel
theorem dX12_readsAct_143 : decode mX12_readsAct.2.1 143 = .ok (.getfield 88, 3) := by decide +kernel
theorem dX12_readsAct_146 : decode mX12_readsAct.2.1 146 = .ok (.iload_n 1, 1) := by decide +kernel
theorem dX12_readsAct_147 : decode mX12_readsAct.2.1 147 = .ok (.aload_n 0, 1) := by decide +kernel
theorem dX12_readsAct_148 : decode mX12_readsAct.2.1 148 = .ok (.iconst 1, 1) := by decide +kernel
theorem dX12_readsAct_149 : decode mX12_readsAct.2.1 149 = .ok (.invokevirtual 221, 3) := by decide +kernel
theorem dX12_readsAct_152 : decode mX12_readsAct.2.1 152 = .ok (.iastore, 1) := by decide +kernel
theorem dX12_readsAct_153 : decode mX12_readsAct.2.1 153 = .ok (.aload_n 0, 1) := by decide +kernel
theorem dX12_readsAct_154 : decode mX12_readsAct.2.1 154 = .ok (.getfield 91, 3) := by decide +kernel
theorem dX12_readsAct_157 : decode mX12_readsAct.2.1 157 = .ok (.iload_n 1, 1) := by decide +kernel
theorem dX12_readsAct_158 : decode mX12_readsAct.2.1 158 = .ok (.aload_n 0, 1) := by decide +kernel
theorem dX12_readsAct_159 : decode mX12_readsAct.2.1 159 = .ok (.getfield 88, 3) := by decide +kernel
theorem dX12_readsAct_162 : decode mX12_readsAct.2.1 162 = .ok (.iload_n 1, 1) := by decide +kernel
theorem dX12_readsAct_163 : decode mX12_readsAct.2.1 163 = .ok (.iaload, 1) := by decide +kernel
theorem dX12_readsAct_164 : decode mX12_readsAct.2.1 164 = .ok (.ifCond .ge 7, 3) := by decide +kernel
theorem dX12_readsAct_167 : decode mX12_readsAct.2.1 167 = .ok (.iconst (-1), 1) := by decide +kernel
theorem dX12_readsAct_168 : decode mX12_readsAct.2.1 168 = .ok (.goto 9, 3) := by decide +kernel
theorem dX12_readsAct_171 : decode mX12_readsAct.2.1 171 = .ok (.aload_n 0, 1) := by decide +kernel
theorem dX12_readsAct_172 : decode mX12_readsAct.2.1 172 = .ok (.ldc 227, 2) := by decide +kernel
theorem dX12_readsAct_174 : decode mX12_readsAct.2.1 174 = .ok (.invokevirtual 203, 3) := by decide +kernel
theorem dX12_readsAct_177 : decode mX12_readsAct.2.1 177 = .ok (.iastore, 1) := by decide +kernel
theorem dX12_readsAct_178 : decode mX12_readsAct.2.1 178 = .ok (.aload_n 0, 1) := by decide +kernel
theorem dX12_readsAct_179 : decode mX12_readsAct.2.1 179 = .ok (.getfield 91, 3) := by decide +kernel
theorem dX12_readsAct_182 : decode mX12_readsAct.2.1 182 = .ok (.iload_n 1, 1) := by decide +kernel
theorem dX12_readsAct_183 : decode mX12_readsAct.2.1 183 = .ok (.iaload, 1) := by decide +kernel
theorem dX12_readsAct_184 : decode mX12_readsAct.2.1 184 = .ok (.ifCond .lt 7, 3) := by decide +kernel
theorem dX12_readsAct_187 : decode mX12_readsAct.2.1 187 = .ok (.iconst 1, 1) := by decide +kernel
theorem dX12_readsAct_188 : decode mX12_readsAct.2.1 188 = .ok (.goto 4, 3) := by decide +kernel
theorem dX12_readsAct_191 : decode mX12_readsAct.2.1 191 = .ok (.iconst 0, 1) := by decide +kernel
theorem dX12_readsAct_192 : decode mX12_readsAct.2.1 192 = .ok (.ireturn, 1) := by decide +kernel
theorem dX12_does_0 : decode mX12_does.2.1 0 = .ok (.aload_n 0, 1) := by decide +kernel
theorem dX12_does_1 : decode mX12_does.2.1 1 = .ok (.getfield 82, 3) := by decide +kernel
theorem dX12_does_4 : decode mX12_does.2.1 4 = .ok (.iload_n 1, 1) := by decide +kernel
theorem dX12_does_5 : decode mX12_does.2.1 5 = .ok (.iaload, 1) := by decide +kernel
theorem dX12_does_6 : decode mX12_does.2.1 6 = .ok (.istore_n 2, 1) := by decide +kernel
theorem dX12_does_7 : decode mX12_does.2.1 7 = .ok (.aload_n 0, 1) := by decide +kernel
theorem dX12_does_8 : decode mX12_does.2.1 8 = .ok (.getfield 79, 3) := by decide +kernel
theorem dX12_does_11 : decode mX12_does.2.1 11 = .ok (.iload_n 1, 1) := by decide +kernel
theorem dX12_does_12 : decode mX12_does.2.1 12 = .ok (.iaload, 1) := by decide +kernel
theorem dX12_does_13 : decode mX12_does.2.1 13 = .ok (.tableswitch 98 0 3 #[31, 42, 66, 80], 31) := by decide +kernel
theorem dX12_does_44 : decode mX12_does.2.1 44 = .ok (.aload_n 0, 1) := by decide +kernel
theorem dX12_does_45 : decode mX12_does.2.1 45 = .ok (.aload_n 0, 1) := by decide +kernel
theorem dX12_does_46 : decode mX12_does.2.1 46 = .ok (.getfield 49, 3) := by decide +kernel
theorem dX12_does_49 : decode mX12_does.2.1 49 = .ok (.iload_n 2, 1) := by decide +kernel
theorem dX12_does_50 : decode mX12_does.2.1 50 = .ok (.invokevirtual 396, 3) := by decide +kernel
theorem dX12_does_53 : decode mX12_does.2.1 53 = .ok (.iconst 1, 1) := by decide +kernel
theorem dX12_does_54 : decode mX12_does.2.1 54 = .ok (.ireturn, 1) := by decide +kernel
theorem dX12_does_55 : decode mX12_does.2.1 55 = .ok (.aload_n 0, 1) := by decide +kernel
theorem dX12_does_56 : decode mX12_does.2.1 56 = .ok (.aload_n 0, 1) := by decide +kernel
theorem dX12_does_57 : decode mX12_does.2.1 57 = .ok (.getfield 49, 3) := by decide +kernel
theorem dX12_does_60 : decode mX12_does.2.1 60 = .ok (.iload_n 2, 1) := by decide +kernel
theorem dX12_does_61 : decode mX12_does.2.1 61 = .ok (.aload_n 0, 1) := by decide +kernel
theorem dX12_does_62 : decode mX12_does.2.1 62 = .ok (.getfield 85, 3) := by decide +kernel
theorem dX12_does_65 : decode mX12_does.2.1 65 = .ok (.iload_n 1, 1) := by decide +kernel
theorem dX12_does_66 : decode mX12_does.2.1 66 = .ok (.iaload, 1) := by decide +kernel
theorem dX12_does_67 : decode mX12_does.2.1 67 = .ok (.invokevirtual 370, 3) := by decide +kernel
theorem dX12_does_70 : decode mX12_does.2.1 70 = .ok (.ifCond .lt 7, 3) := by decide +kernel
theorem dX12_does_73 : decode mX12_does.2.1 73 = .ok (.iconst 1, 1) := by decide +kernel
theorem dX12_does_74 : decode mX12_does.2.1 74 = .ok (.goto 4, 3) := by decide +kernel
theorem dX12_does_77 : decode mX12_does.2.1 77 = .ok (.iconst 0, 1) := by decide +kernel
theorem dX12_does_78 : decode mX12_does.2.1 78 = .ok (.ireturn, 1) := by decide +kernel
theorem dX12_does_79 : decode mX12_does.2.1 79 = .ok (.aload_n 0, 1) := by decide +kernel
theorem dX12_does_80 : decode mX12_does.2.1 80 = .ok (.iload_n 2, 1) := by decide +kernel
theorem dX12_does_81 : decode mX12_does.2.1 81 = .ok (.invokevirtual 376, 3) := by decide +kernel
theorem dX12_does_84 : decode mX12_does.2.1 84 = .ok (.ifCond .lt 7, 3) := by decide +kernel
theorem dX12_does_87 : decode mX12_does.2.1 87 = .ok (.iconst 1, 1) := by decide +kernel
theorem dX12_does_88 : decode mX12_does.2.1 88 = .ok (.goto 4, 3) := by decide +kernel
theorem dX12_does_91 : decode mX12_does.2.1 91 = .ok (.iconst 0, 1) := by decide +kernel
theorem dX12_does_92 : decode mX12_does.2.1 92 = .ok (.ireturn, 1) := by decide +kernel
theorem dX12_does_93 : decode mX12_does.2.1 93 = .ok (.aload_n 0, 1) := by decide +kernel
theorem dX12_does_94 : decode mX12_does.2.1 94 = .ok (.aload_n 0, 1) := by decide +kernel
theorem dX12_does_95 : decode mX12_does.2.1 95 = .ok (.getfield 49, 3) := by decide +kernel
theorem dX12_does_98 : decode mX12_does.2.1 98 = .ok (.iload_n 2, 1) := by decide +kernel
theorem dX12_does_99 : decode mX12_does.2.1 99 = .ok (.invokevirtual 379, 3) := by decide +kernel
theorem dX12_does_102 : decode mX12_does.2.1 102 = .ok (.ifCond .lt 7, 3) := by decide +kernel
theorem dX12_does_105 : decode mX12_does.2.1 105 = .ok (.iconst 1, 1) := by decide +kernel
theorem dX12_does_106 : decode mX12_does.2.1 106 = .ok (.goto 4, 3) := by decide +kernel
theorem dX12_does_109 : decode mX12_does.2.1 109 = .ok (.iconst 0, 1) := by decide +kernel
theorem dX12_does_110 : decode mX12_does.2.1 110 = .ok (.ireturn, 1) := by decide +kernel
theorem dX12_does_111 : decode mX12_does.2.1 111 = .ok (.aload_n 0, 1) := by decide +kernel
theorem dX12_does_112 : decode mX12_does.2.1 112 = .ok (.getfield 85, 3) := by decide +kernel
theorem dX12_does_115 : decode mX12_does.2.1 115 = .ok (.iload_n 1, 1) := by decide +kernel
theorem dX12_does_116 : decode mX12_does.2.1 116 = .ok (.iaload, 1) := by decide +kernel
theorem dX12_does_117 : decode mX12_does.2.1 117 = .ok (.aload_n 0, 1) := by decide +kernel
theorem dX12_does_118 : decode mX12_does.2.1 118 = .ok (.getfield 24, 3) := by decide +kernel
theorem dX12_does_121 : decode mX12_does.2.1 121 = .ok (.if_icmp .ge 20, 3) := by decide +kernel
theorem dX12_does_124 : decode mX12_does.2.1 124 = .ok (.aload_n 0, 1) := by decide +kernel
theorem dX12_does_125 : decode mX12_does.2.1 125 = .ok (.getfield 88, 3) := by decide +kernel
theorem dX12_does_128 : decode mX12_does.2.1 128 = .ok (.iload_n 1, 1) := by decide +kernel
theorem dX12_does_129 : decode mX12_does.2.1 129 = .ok (.iaload, 1) := by decide +kernel
theorem dX12_does_130 : decode mX12_does.2.1 130 = .ok (.aload_n 0, 1) := by decide +kernel
theorem dX12_does_131 : decode mX12_does.2.1 131 = .ok (.getfield 27, 3) := by decide +kernel
theorem dX12_does_134 : decode mX12_does.2.1 134 = .ok (.if_icmp .ge 7, 3) := by decide +kernel
theorem dX12_does_137 : decode mX12_does.2.1 137 = .ok (.iconst 1, 1) := by decide +kernel
theorem dX12_does_138 : decode mX12_does.2.1 138 = .ok (.goto 4, 3) := by decide +kernel
theorem dX12_does_141 : decode mX12_does.2.1 141 = .ok (.iconst 0, 1) := by decide +kernel
theorem dX12_does_142 : decode mX12_does.2.1 142 = .ok (.istore_n 3, 1) := by decide +kernel
theorem dX12_does_143 : decode mX12_does.2.1 143 = .ok (.iload_n 3, 1) := by decide +kernel
theorem dX12_does_144 : decode mX12_does.2.1 144 = .ok (.ifCond .eq 39, 3) := by decide +kernel
theorem dX12_does_147 : decode mX12_does.2.1 147 = .ok (.aload_n 0, 1) := by decide +kernel
theorem dX12_does_148 : decode mX12_does.2.1 148 = .ok (.iload_n 2, 1) := by decide +kernel
theorem dX12_does_149 : decode mX12_does.2.1 149 = .ok (.aload_n 0, 1) := by decide +kernel
theorem dX12_does_150 : decode mX12_does.2.1 150 = .ok (.getfield 27, 3) := by decide +kernel
theorem dX12_does_153 : decode mX12_does.2.1 153 = .ok (.aload_n 0, 1) := by decide +kernel
theorem dX12_does_154 : decode mX12_does.2.1 154 = .ok (.getfield 85, 3) := by decide +kernel
theorem dX12_does_157 : decode mX12_does.2.1 157 = .ok (.iload_n 1, 1) := by decide +kernel
theorem dX12_does_158 : decode mX12_does.2.1 158 = .ok (.iaload, 1) := by decide +kernel
theorem dX12_does_159 : decode mX12_does.2.1 159 = .ok (.imul, 1) := by decide +kernel
theorem dX12_does_160 : decode mX12_does.2.1 160 = .ok (.aload_n 0, 1) := by decide +kernel
theorem dX12_does_161 : decode mX12_does.2.1 161 = .ok (.getfield 88, 3) := by decide +kernel
theorem dX12_does_164 : decode mX12_does.2.1 164 = .ok (.iload_n 1, 1) := by decide +kernel
theorem dX12_does_165 : decode mX12_does.2.1 165 = .ok (.iaload, 1) := by decide +kernel
theorem dX12_does_166 : decode mX12_does.2.1 166 = .ok (.iadd, 1) := by decide +kernel
theorem dX12_does_167 : decode mX12_does.2.1 167 = .ok (.aload_n 0, 1) := by decide +kernel
theorem dX12_does_168 : decode mX12_does.2.1 168 = .ok (.getfield 91, 3) := by decide +kernel
theorem dX12_does_171 : decode mX12_does.2.1 171 = .ok (.iload_n 1, 1) := by decide +kernel
theorem dX12_does_172 : decode mX12_does.2.1 172 = .ok (.iaload, 1) := by decide +kernel
theorem dX12_does_173 : decode mX12_does.2.1 173 = .ok (.invokevirtual 382, 3) := by decide +kernel
theorem dX12_does_176 : decode mX12_does.2.1 176 = .ok (.ifCond .lt 7, 3) := by decide +kernel
theorem dX12_does_179 : decode mX12_does.2.1 179 = .ok (.iconst 1, 1) := by decide +kernel
theorem dX12_does_180 : decode mX12_does.2.1 180 = .ok (.goto 4, 3) := by decide +kernel
theorem dX12_does_183 : decode mX12_does.2.1 183 = .ok (.iconst 0, 1) := by decide +kernel
theorem dX12_does_184 : decode mX12_does.2.1 184 = .ok (.ireturn, 1) := by decide +kernel
theorem dX12_day_0 : decode mX12_day.2.1 0 = .ok (.aload_n 0, 1) := by decide +kernel
theorem dX12_day_1 : decode mX12_day.2.1 1 = .ok (.iconst 0, 1) := by decide +kernel
theorem dX12_day_2 : decode mX12_day.2.1 2 = .ok (.putfield 3, 3) := by decide +kernel
theorem dX12_day_5 : decode mX12_day.2.1 5 = .ok (.aload_n 0, 1) := by decide +kernel
theorem dX12_day_6 : decode mX12_day.2.1 6 = .ok (.bipush 60, 2) := by decide +kernel
theorem dX12_day_8 : decode mX12_day.2.1 8 = .ok (.invokevirtual 206, 3) := by decide +kernel
theorem dX12_day_11 : decode mX12_day.2.1 11 = .ok (.istore_n 1, 1) := by decide +kernel
theorem dX12_day_12 : decode mX12_day.2.1 12 = .ok (.aload_n 0, 1) := by decide +kernel
theorem dX12_day_13 : decode mX12_day.2.1 13 = .ok (.iconst 0, 1) := by decide +kernel
theorem dX12_day_14 : decode mX12_day.2.1 14 = .ok (.putfield 391, 3) := by decide +kernel
theorem dX12_day_17 : decode mX12_day.2.1 17 = .ok (.iconst 1, 1) := by decide +kernel
theorem dX12_day_18 : decode mX12_day.2.1 18 = .ok (.istore_n 2, 1) := by decide +kernel
theorem dX12_day_19 : decode mX12_day.2.1 19 = .ok (.iload_n 2, 1) := by decide +kernel
theorem dX12_day_20 : decode mX12_day.2.1 20 = .ok (.ifCond .eq 22, 3) := by decide +kernel
theorem dX12_day_23 : decode mX12_day.2.1 23 = .ok (.aload_n 0, 1) := by decide +kernel
theorem dX12_day_24 : decode mX12_day.2.1 24 = .ok (.getfield 162, 3) := by decide +kernel
theorem dX12_day_27 : decode mX12_day.2.1 27 = .ok (.aload_n 0, 1) := by decide +kernel
theorem dX12_day_28 : decode mX12_day.2.1 28 = .ok (.getfield 172, 3) := by decide +kernel
theorem dX12_day_31 : decode mX12_day.2.1 31 = .ok (.if_icmp .ge 11, 3) := by decide +kernel
theorem dX12_day_34 : decode mX12_day.2.1 34 = .ok (.aload_n 0, 1) := by decide +kernel
theorem dX12_day_35 : decode mX12_day.2.1 35 = .ok (.invokevirtual 399, 3) := by decide +kernel
theorem dX12_day_38 : decode mX12_day.2.1 38 = .ok (.istore_n 2, 1) := by decide +kernel
theorem dX12_day_39 : decode mX12_day.2.1 39 = .ok (.goto (-20), 3) := by decide +kernel
theorem dX12_day_42 : decode mX12_day.2.1 42 = .ok (.aload_n 0, 1) := by decide +kernel
theorem dX12_day_43 : decode mX12_day.2.1 43 = .ok (.iload_n 1, 1) := by decide +kernel
theorem dX12_day_44 : decode mX12_day.2.1 44 = .ok (.bipush 60, 2) := by decide +kernel
theorem dX12_day_46 : decode mX12_day.2.1 46 = .ok (.iload_n 2, 1) := by decide +kernel
theorem dX12_day_47 : decode mX12_day.2.1 47 = .ok (.invokevirtual 248, 3) := by decide +kernel
theorem dX12_day_50 : decode mX12_day.2.1 50 = .ok (.istore_n 3, 1) := by decide +kernel
theorem dX12_day_51 : decode mX12_day.2.1 51 = .ok (.iload_n 3, 1) := by decide +kernel
theorem dX12_day_52 : decode mX12_day.2.1 52 = .ok (.ifCond .ge 5, 3) := by decide +kernel
theorem dX12_day_55 : decode mX12_day.2.1 55 = .ok (.iload_n 3, 1) := by decide +kernel
theorem dX12_day_56 : decode mX12_day.2.1 56 = .ok (.ireturn, 1) := by decide +kernel
theorem dX12_day_57 : decode mX12_day.2.1 57 = .ok (.aload_n 0, 1) := by decide +kernel
theorem dX12_day_58 : decode mX12_day.2.1 58 = .ok (.invokevirtual 367, 3) := by decide +kernel
theorem dX12_day_61 : decode mX12_day.2.1 61 = .ok (.iconst 0, 1) := by decide +kernel
theorem dX12_day_62 : decode mX12_day.2.1 62 = .ok (.istore 4, 2) := by decide +kernel
theorem dX12_day_64 : decode mX12_day.2.1 64 = .ok (.iload 4, 2) := by decide +kernel
theorem dX12_day_66 : decode mX12_day.2.1 66 = .ok (.aload_n 0, 1) := by decide +kernel
theorem dX12_day_67 : decode mX12_day.2.1 67 = .ok (.getfield 391, 3) := by decide +kernel
theorem dX12_day_70 : decode mX12_day.2.1 70 = .ok (.if_icmp .ge 18, 3) := by decide +kernel
theorem dX12_day_73 : decode mX12_day.2.1 73 = .ok (.aload_n 0, 1) := by decide +kernel
theorem dX12_day_74 : decode mX12_day.2.1 74 = .ok (.iload 4, 2) := by decide +kernel
theorem dX12_day_76 : decode mX12_day.2.1 76 = .ok (.invokevirtual 402, 3) := by decide +kernel
theorem dX12_day_79 : decode mX12_day.2.1 79 = .ok (.ifCond .eq 9, 3) := by decide +kernel
theorem dX12_day_82 : decode mX12_day.2.1 82 = .ok (.iinc 4 1, 3) := by decide +kernel
theorem dX12_day_85 : decode mX12_day.2.1 85 = .ok (.goto (-21), 3) := by decide +kernel
theorem dX12_day_88 : decode mX12_day.2.1 88 = .ok (.aload_n 0, 1) := by decide +kernel
theorem dX12_day_89 : decode mX12_day.2.1 89 = .ok (.iconst 0, 1) := by decide +kernel
theorem dX12_day_90 : decode mX12_day.2.1 90 = .ok (.putfield 15, 3) := by decide +kernel
theorem dX12_day_93 : decode mX12_day.2.1 93 = .ok (.aload_n 0, 1) := by decide +kernel
theorem dX12_day_94 : decode mX12_day.2.1 94 = .ok (.iload 4, 2) := by decide +kernel
theorem dX12_day_96 : decode mX12_day.2.1 96 = .ok (.aload_n 0, 1) := by decide +kernel
theorem dX12_day_97 : decode mX12_day.2.1 97 = .ok (.getfield 391, 3) := by decide +kernel
theorem dX12_day_100 : decode mX12_day.2.1 100 = .ok (.if_icmp .ge 7, 3) := by decide +kernel
theorem dX12_day_103 : decode mX12_day.2.1 103 = .ok (.iconst 1, 1) := by decide +kernel
theorem dX12_day_104 : decode mX12_day.2.1 104 = .ok (.goto 4, 3) := by decide +kernel
theorem dX12_day_107 : decode mX12_day.2.1 107 = .ok (.iconst 0, 1) := by decide +kernel
theorem dX12_day_108 : decode mX12_day.2.1 108 = .ok (.invokestatic 175, 3) := by decide +kernel
theorem dX12_day_111 : decode mX12_day.2.1 111 = .ok (.i2l, 1) := by decide +kernel
theorem dX12_day_112 : decode mX12_day.2.1 112 = .ok (.invokevirtual 387, 3) := by decide +kernel
theorem dX12_day_115 : decode mX12_day.2.1 115 = .ok (.aload_n 0, 1) := by decide +kernel
theorem dX12_day_116 : decode mX12_day.2.1 116 = .ok (.aload_n 0, 1) := by decide +kernel
theorem dX12_day_117 : decode mX12_day.2.1 117 = .ok (.getfield 49, 3) := by decide +kernel
theorem dX12_day_120 : decode mX12_day.2.1 120 = .ok (.bipush 25, 2) := by decide +kernel
theorem dX12_day_122 : decode mX12_day.2.1 122 = .ok (.iaload, 1) := by decide +kernel
theorem dX12_day_123 : decode mX12_day.2.1 123 = .ok (.i2l, 1) := by decide +kernel
theorem dX12_day_124 : decode mX12_day.2.1 124 = .ok (.invokevirtual 387, 3) := by decide +kernel
theorem dX12_day_127 : decode mX12_day.2.1 127 = .ok (.iload 4, 2) := by decide +kernel
theorem dX12_day_129 : decode mX12_day.2.1 129 = .ok (.ifCond .le 12, 3) := by decide +kernel
theorem dX12_day_132 : decode mX12_day.2.1 132 = .ok (.aload_n 0, 1) := by decide +kernel
theorem dX12_day_133 : decode mX12_day.2.1 133 = .ok (.iload 4, 2) := by decide +kernel
theorem dX12_day_135 : decode mX12_day.2.1 135 = .ok (.invokevirtual 354, 3) := by decide +kernel
theorem dX12_day_138 : decode mX12_day.2.1 138 = .ok (.goto 4, 3) := by decide +kernel
theorem dX12_day_141 : decode mX12_day.2.1 141 = .ok (.iconst 0, 1) := by decide +kernel
theorem dX12_day_142 : decode mX12_day.2.1 142 = .ok (.ireturn, 1) := by decide +kernel
theorem dX12_copies_0 : decode mX12_copies.2.1 0 = .ok (.iconst 0, 1) := by decide +kernel
theorem dX12_copies_1 : decode mX12_copies.2.1 1 = .ok (.istore_n 1, 1) := by decide +kernel
theorem dX12_copies_2 : decode mX12_copies.2.1 2 = .ok (.iload_n 1, 1) := by decide +kernel
theorem dX12_copies_3 : decode mX12_copies.2.1 3 = .ok (.bipush 26, 2) := by decide +kernel
theorem dX12_copies_5 : decode mX12_copies.2.1 5 = .ok (.if_icmp .ge 21, 3) := by decide +kernel
theorem dX12_copies_8 : decode mX12_copies.2.1 8 = .ok (.aload_n 0, 1) := by decide +kernel
theorem dX12_copies_9 : decode mX12_copies.2.1 9 = .ok (.getfield 52, 3) := by decide +kernel
theorem dX12_copies_12 : decode mX12_copies.2.1 12 = .ok (.iload_n 1, 1) := by decide +kernel
theorem dX12_copies_13 : decode mX12_copies.2.1 13 = .ok (.aload_n 0, 1) := by decide +kernel
theorem dX12_copies_14 : decode mX12_copies.2.1 14 = .ok (.getfield 49, 3) := by decide +kernel
theorem dX12_copies_17 : decode mX12_copies.2.1 17 = .ok (.iload_n 1, 1) := by decide +kernel
theorem dX12_copies_18 : decode mX12_copies.2.1 18 = .ok (.iaload, 1) := by decide +kernel
theorem dX12_copies_19 : decode mX12_copies.2.1 19 = .ok (.iastore, 1) := by decide +kernel
theorem dX12_copies_20 : decode mX12_copies.2.1 20 = .ok (.iinc 1 1, 3) := by decide +kernel
theorem dX12_copies_23 : decode mX12_copies.2.1 23 = .ok (.goto (-21), 3) := by decide +kernel
theorem dX12_copies_26 : decode mX12_copies.2.1 26 = .ok (.return_, 1) := by decide +kernel
theorem dX12_ahead_0 : decode mX12_ahead.2.1 0 = .ok (.aload_n 0, 1) := by decide +kernel
theorem dX12_ahead_1 : decode mX12_ahead.2.1 1 = .ok (.iconst 0, 1) := by decide +kernel
theorem dX12_ahead_2 : decode mX12_ahead.2.1 2 = .ok (.putfield 3, 3) := by decide +kernel
theorem dX12_ahead_5 : decode mX12_ahead.2.1 5 = .ok (.aload_n 0, 1) := by decide +kernel
theorem dX12_ahead_6 : decode mX12_ahead.2.1 6 = .ok (.iload_n 1, 1) := by decide +kernel
theorem dX12_ahead_7 : decode mX12_ahead.2.1 7 = .ok (.invokevirtual 346, 3) := by decide +kernel
theorem dX12_ahead_10 : decode mX12_ahead.2.1 10 = .ok (.ifCond .eq 15, 3) := by decide +kernel
theorem dX12_ahead_13 : decode mX12_ahead.2.1 13 = .ok (.iload_n 2, 1) := by decide +kernel
theorem dX12_ahead_14 : decode mX12_ahead.2.1 14 = .ok (.i2l, 1) := by decide +kernel
theorem dX12_ahead_15 : decode mX12_ahead.2.1 15 = .ok (.lconst 0, 1) := by decide +kernel
theorem dX12_ahead_16 : decode mX12_ahead.2.1 16 = .ok (.ldc2_w 405, 3) := by decide +kernel
theorem dX12_ahead_19 : decode mX12_ahead.2.1 19 = .ok (.invokestatic 143, 3) := by decide +kernel
theorem dX12_ahead_22 : decode mX12_ahead.2.1 22 = .ok (.ifCond .ne 5, 3) := by decide +kernel
theorem dX12_ahead_25 : decode mX12_ahead.2.1 25 = .ok (.iconst (-1), 1) := by decide +kernel
theorem dX12_ahead_26 : decode mX12_ahead.2.1 26 = .ok (.ireturn, 1) := by decide +kernel
theorem dX12_ahead_27 : decode mX12_ahead.2.1 27 = .ok (.aload_n 0, 1) := by decide +kernel
theorem dX12_ahead_28 : decode mX12_ahead.2.1 28 = .ok (.invokevirtual 407, 3) := by decide +kernel
theorem dX12_ahead_31 : decode mX12_ahead.2.1 31 = .ok (.aload_n 0, 1) := by decide +kernel
theorem dX12_ahead_32 : decode mX12_ahead.2.1 32 = .ok (.aload_n 0, 1) := by decide +kernel
theorem dX12_ahead_33 : decode mX12_ahead.2.1 33 = .ok (.getfield 52, 3) := by decide +kernel
theorem dX12_ahead_36 : decode mX12_ahead.2.1 36 = .ok (.iload_n 2, 1) := by decide +kernel
theorem dX12_ahead_37 : decode mX12_ahead.2.1 37 = .ok (.invokevirtual 396, 3) := by decide +kernel
theorem dX12_ahead_40 : decode mX12_ahead.2.1 40 = .ok (.aload_n 0, 1) := by decide +kernel
theorem dX12_ahead_41 : decode mX12_ahead.2.1 41 = .ok (.aload_n 0, 1) := by decide +kernel
theorem dX12_ahead_42 : decode mX12_ahead.2.1 42 = .ok (.getfield 52, 3) := by decide +kernel
theorem dX12_ahead_45 : decode mX12_ahead.2.1 45 = .ok (.iload_n 1, 1) := by decide +kernel
theorem dX12_ahead_46 : decode mX12_ahead.2.1 46 = .ok (.invokevirtual 340, 3) := by decide +kernel
theorem dX12_ahead_49 : decode mX12_ahead.2.1 49 = .ok (.istore_n 3, 1) := by decide +kernel
theorem dX12_ahead_50 : decode mX12_ahead.2.1 50 = .ok (.aload_n 0, 1) := by decide +kernel
theorem dX12_ahead_51 : decode mX12_ahead.2.1 51 = .ok (.iconst 0, 1) := by decide +kernel
theorem dX12_ahead_52 : decode mX12_ahead.2.1 52 = .ok (.putfield 15, 3) := by decide +kernel
theorem dX12_ahead_55 : decode mX12_ahead.2.1 55 = .ok (.aload_n 0, 1) := by decide +kernel
theorem dX12_ahead_56 : decode mX12_ahead.2.1 56 = .ok (.iload_n 3, 1) := by decide +kernel
theorem dX12_ahead_57 : decode mX12_ahead.2.1 57 = .ok (.invokestatic 300, 3) := by decide +kernel
theorem dX12_ahead_60 : decode mX12_ahead.2.1 60 = .ok (.i2l, 1) := by decide +kernel
theorem dX12_ahead_61 : decode mX12_ahead.2.1 61 = .ok (.invokevirtual 387, 3) := by decide +kernel
theorem dX12_ahead_64 : decode mX12_ahead.2.1 64 = .ok (.aload_n 0, 1) := by decide +kernel
theorem dX12_ahead_65 : decode mX12_ahead.2.1 65 = .ok (.aload_n 0, 1) := by decide +kernel
theorem dX12_ahead_66 : decode mX12_ahead.2.1 66 = .ok (.aload_n 0, 1) := by decide +kernel
theorem dX12_ahead_67 : decode mX12_ahead.2.1 67 = .ok (.getfield 52, 3) := by decide +kernel
theorem dX12_ahead_70 : decode mX12_ahead.2.1 70 = .ok (.iload_n 1, 1) := by decide +kernel
theorem dX12_ahead_71 : decode mX12_ahead.2.1 71 = .ok (.invokevirtual 325, 3) := by decide +kernel
theorem dX12_ahead_74 : decode mX12_ahead.2.1 74 = .ok (.ifCond .ne 7, 3) := by decide +kernel
theorem dX12_ahead_77 : decode mX12_ahead.2.1 77 = .ok (.lconst 0, 1) := by decide +kernel
theorem dX12_ahead_78 : decode mX12_ahead.2.1 78 = .ok (.goto 13, 3) := by decide +kernel
theorem dX12_ahead_81 : decode mX12_ahead.2.1 81 = .ok (.aload_n 0, 1) := by decide +kernel
theorem dX12_ahead_82 : decode mX12_ahead.2.1 82 = .ok (.aload_n 0, 1) := by decide +kernel
theorem dX12_ahead_83 : decode mX12_ahead.2.1 83 = .ok (.getfield 52, 3) := by decide +kernel
theorem dX12_ahead_86 : decode mX12_ahead.2.1 86 = .ok (.iload_n 1, 1) := by decide +kernel
theorem dX12_ahead_87 : decode mX12_ahead.2.1 87 = .ok (.invokevirtual 318, 3) := by decide +kernel
theorem dX12_ahead_90 : decode mX12_ahead.2.1 90 = .ok (.i2l, 1) := by decide +kernel
theorem dX12_ahead_91 : decode mX12_ahead.2.1 91 = .ok (.invokevirtual 387, 3) := by decide +kernel
theorem dX12_ahead_94 : decode mX12_ahead.2.1 94 = .ok (.iload_n 3, 1) := by decide +kernel
theorem dX12_ahead_95 : decode mX12_ahead.2.1 95 = .ok (.ireturn, 1) := by decide +kernel
theorem dX12_first_0 : decode mX12_first.2.1 0 = .ok (.aload_n 0, 1) := by decide +kernel
theorem dX12_first_1 : decode mX12_first.2.1 1 = .ok (.iconst 0, 1) := by decide +kernel
theorem dX12_first_2 : decode mX12_first.2.1 2 = .ok (.putfield 3, 3) := by decide +kernel
theorem dX12_first_5 : decode mX12_first.2.1 5 = .ok (.aload_n 0, 1) := by decide +kernel
theorem dX12_first_6 : decode mX12_first.2.1 6 = .ok (.iload_n 1, 1) := by decide +kernel
theorem dX12_first_7 : decode mX12_first.2.1 7 = .ok (.invokevirtual 346, 3) := by decide +kernel
theorem dX12_first_10 : decode mX12_first.2.1 10 = .ok (.ifCond .eq 11, 3) := by decide +kernel
theorem dX12_first_13 : decode mX12_first.2.1 13 = .ok (.aload_n 0, 1) := by decide +kernel
theorem dX12_first_14 : decode mX12_first.2.1 14 = .ok (.iload_n 2, 1) := by decide +kernel
theorem dX12_first_15 : decode mX12_first.2.1 15 = .ok (.invokevirtual 332, 3) := by decide +kernel
theorem dX12_first_18 : decode mX12_first.2.1 18 = .ok (.ifCond .ne 5, 3) := by decide +kernel
theorem dX12_first_21 : decode mX12_first.2.1 21 = .ok (.iconst (-1), 1) := by decide +kernel
theorem dX12_first_22 : decode mX12_first.2.1 22 = .ok (.ireturn, 1) := by decide +kernel
theorem dX12_first_23 : decode mX12_first.2.1 23 = .ok (.aload_n 0, 1) := by decide +kernel
theorem dX12_first_24 : decode mX12_first.2.1 24 = .ok (.invokevirtual 407, 3) := by decide +kernel
theorem dX12_first_27 : decode mX12_first.2.1 27 = .ok (.iconst 0, 1) := by decide +kernel
theorem dX12_first_28 : decode mX12_first.2.1 28 = .ok (.istore_n 3, 1) := by decide +kernel
theorem dX12_first_29 : decode mX12_first.2.1 29 = .ok (.iload_n 3, 1) := by decide +kernel
theorem dX12_first_30 : decode mX12_first.2.1 30 = .ok (.bipush 99, 2) := by decide +kernel
theorem dX12_first_32 : decode mX12_first.2.1 32 = .ok (.if_icmp .gt 51, 3) := by decide +kernel
theorem dX12_first_35 : decode mX12_first.2.1 35 = .ok (.aload_n 0, 1) := by decide +kernel
theorem dX12_first_36 : decode mX12_first.2.1 36 = .ok (.aload_n 0, 1) := by decide +kernel
theorem dX12_first_37 : decode mX12_first.2.1 37 = .ok (.getfield 52, 3) := by decide +kernel
theorem dX12_first_40 : decode mX12_first.2.1 40 = .ok (.iload_n 1, 1) := by decide +kernel
theorem dX12_first_41 : decode mX12_first.2.1 41 = .ok (.invokevirtual 340, 3) := by decide +kernel
theorem dX12_first_44 : decode mX12_first.2.1 44 = .ok (.iload_n 2, 1) := by decide +kernel
theorem dX12_first_45 : decode mX12_first.2.1 45 = .ok (.invokestatic 296, 3) := by decide +kernel
theorem dX12_first_48 : decode mX12_first.2.1 48 = .ok (.ifCond .eq 21, 3) := by decide +kernel
theorem dX12_first_51 : decode mX12_first.2.1 51 = .ok (.aload_n 0, 1) := by decide +kernel
theorem dX12_first_52 : decode mX12_first.2.1 52 = .ok (.iconst 0, 1) := by decide +kernel
theorem dX12_first_53 : decode mX12_first.2.1 53 = .ok (.putfield 15, 3) := by decide +kernel
theorem dX12_first_56 : decode mX12_first.2.1 56 = .ok (.aload_n 0, 1) := by decide +kernel
theorem dX12_first_57 : decode mX12_first.2.1 57 = .ok (.aload_n 0, 1) := by decide +kernel
theorem dX12_first_58 : decode mX12_first.2.1 58 = .ok (.getfield 52, 3) := by decide +kernel
theorem dX12_first_61 : decode mX12_first.2.1 61 = .ok (.iload_n 2, 1) := by decide +kernel
theorem dX12_first_62 : decode mX12_first.2.1 62 = .ok (.iaload, 1) := by decide +kernel
theorem dX12_first_63 : decode mX12_first.2.1 63 = .ok (.i2l, 1) := by decide +kernel
theorem dX12_first_64 : decode mX12_first.2.1 64 = .ok (.invokevirtual 387, 3) := by decide +kernel
theorem dX12_first_67 : decode mX12_first.2.1 67 = .ok (.iload_n 3, 1) := by decide +kernel
theorem dX12_first_68 : decode mX12_first.2.1 68 = .ok (.ireturn, 1) := by decide +kernel
theorem dX12_first_69 : decode mX12_first.2.1 69 = .ok (.aload_n 0, 1) := by decide +kernel
theorem dX12_first_70 : decode mX12_first.2.1 70 = .ok (.aload_n 0, 1) := by decide +kernel
theorem dX12_first_71 : decode mX12_first.2.1 71 = .ok (.getfield 52, 3) := by decide +kernel
theorem dX12_first_74 : decode mX12_first.2.1 74 = .ok (.invokevirtual 360, 3) := by decide +kernel
theorem dX12_first_77 : decode mX12_first.2.1 77 = .ok (.iinc 3 1, 3) := by decide +kernel
theorem dX12_first_80 : decode mX12_first.2.1 80 = .ok (.goto (-51), 3) := by decide +kernel
theorem dX12_first_83 : decode mX12_first.2.1 83 = .ok (.bipush (-2), 2) := by decide +kernel
theorem dX12_first_85 : decode mX12_first.2.1 85 = .ok (.ireturn, 1) := by decide +kernel
theorem dX12_meets_0 : decode mX12_meets.2.1 0 = .ok (.aload_n 0, 1) := by decide +kernel
theorem dX12_meets_1 : decode mX12_meets.2.1 1 = .ok (.iconst 0, 1) := by decide +kernel
theorem dX12_meets_2 : decode mX12_meets.2.1 2 = .ok (.putfield 3, 3) := by decide +kernel
theorem dX12_meets_5 : decode mX12_meets.2.1 5 = .ok (.aload_n 0, 1) := by decide +kernel
theorem dX12_meets_6 : decode mX12_meets.2.1 6 = .ok (.iload_n 1, 1) := by decide +kernel
theorem dX12_meets_7 : decode mX12_meets.2.1 7 = .ok (.invokevirtual 346, 3) := by decide +kernel
theorem dX12_meets_10 : decode mX12_meets.2.1 10 = .ok (.ifCond .ne 5, 3) := by decide +kernel
theorem dX12_meets_13 : decode mX12_meets.2.1 13 = .ok (.iconst (-1), 1) := by decide +kernel
theorem dX12_meets_14 : decode mX12_meets.2.1 14 = .ok (.ireturn, 1) := by decide +kernel
theorem dX12_meets_15 : decode mX12_meets.2.1 15 = .ok (.aload_n 0, 1) := by decide +kernel
theorem dX12_meets_16 : decode mX12_meets.2.1 16 = .ok (.invokevirtual 407, 3) := by decide +kernel
theorem dX12_meets_19 : decode mX12_meets.2.1 19 = .ok (.iconst 0, 1) := by decide +kernel
theorem dX12_meets_20 : decode mX12_meets.2.1 20 = .ok (.istore_n 2, 1) := by decide +kernel
theorem dX12_meets_21 : decode mX12_meets.2.1 21 = .ok (.iload_n 2, 1) := by decide +kernel
theorem dX12_meets_22 : decode mX12_meets.2.1 22 = .ok (.bipush 99, 2) := by decide +kernel
theorem dX12_meets_24 : decode mX12_meets.2.1 24 = .ok (.if_icmp .gt 135, 3) := by decide +kernel
theorem dX12_meets_27 : decode mX12_meets.2.1 27 = .ok (.aload_n 0, 1) := by decide +kernel
theorem dX12_meets_28 : decode mX12_meets.2.1 28 = .ok (.aload_n 0, 1) := by decide +kernel
theorem dX12_meets_29 : decode mX12_meets.2.1 29 = .ok (.getfield 52, 3) := by decide +kernel
theorem dX12_meets_32 : decode mX12_meets.2.1 32 = .ok (.iload_n 1, 1) := by decide +kernel
theorem dX12_meets_33 : decode mX12_meets.2.1 33 = .ok (.invokevirtual 340, 3) := by decide +kernel
theorem dX12_meets_36 : decode mX12_meets.2.1 36 = .ok (.istore_n 3, 1) := by decide +kernel
theorem dX12_meets_37 : decode mX12_meets.2.1 37 = .ok (.iconst 0, 1) := by decide +kernel
theorem dX12_meets_38 : decode mX12_meets.2.1 38 = .ok (.istore 4, 2) := by decide +kernel
theorem dX12_meets_40 : decode mX12_meets.2.1 40 = .ok (.iload 4, 2) := by decide +kernel
theorem dX12_meets_42 : decode mX12_meets.2.1 42 = .ok (.aload_n 0, 1) := by decide +kernel
theorem dX12_meets_43 : decode mX12_meets.2.1 43 = .ok (.getfield 24, 3) := by decide +kernel
theorem dX12_meets_46 : decode mX12_meets.2.1 46 = .ok (.aload_n 0, 1) := by decide +kernel
theorem dX12_meets_47 : decode mX12_meets.2.1 47 = .ok (.getfield 27, 3) := by decide +kernel
theorem dX12_meets_50 : decode mX12_meets.2.1 50 = .ok (.imul, 1) := by decide +kernel
theorem dX12_meets_51 : decode mX12_meets.2.1 51 = .ok (.if_icmp .ge 94, 3) := by decide +kernel
theorem dX12_meets_54 : decode mX12_meets.2.1 54 = .ok (.iconst 0, 1) := by decide +kernel
theorem dX12_meets_55 : decode mX12_meets.2.1 55 = .ok (.istore 5, 2) := by decide +kernel
theorem dX12_meets_57 : decode mX12_meets.2.1 57 = .ok (.iconst 0, 1) := by decide +kernel
theorem dX12_meets_58 : decode mX12_meets.2.1 58 = .ok (.istore 6, 2) := by decide +kernel
theorem dX12_meets_60 : decode mX12_meets.2.1 60 = .ok (.iload 6, 2) := by decide +kernel
theorem dX12_meets_62 : decode mX12_meets.2.1 62 = .ok (.aload_n 0, 1) := by decide +kernel
theorem dX12_meets_63 : decode mX12_meets.2.1 63 = .ok (.getfield 140, 3) := by decide +kernel
theorem dX12_meets_66 : decode mX12_meets.2.1 66 = .ok (.if_icmp .ge 43, 3) := by decide +kernel
theorem dX12_meets_69 : decode mX12_meets.2.1 69 = .ok (.iload 5, 2) := by decide +kernel
theorem dX12_meets_71 : decode mX12_meets.2.1 71 = .ok (.iload_n 3, 1) := by decide +kernel
theorem dX12_meets_72 : decode mX12_meets.2.1 72 = .ok (.iload 6, 2) := by decide +kernel
theorem dX12_meets_74 : decode mX12_meets.2.1 74 = .ok (.invokestatic 296, 3) := by decide +kernel
theorem dX12_meets_77 : decode mX12_meets.2.1 77 = .ok (.ifCond .eq 22, 3) := by decide +kernel
theorem dX12_meets_80 : decode mX12_meets.2.1 80 = .ok (.aload_n 0, 1) := by decide +kernel
theorem dX12_meets_81 : decode mX12_meets.2.1 81 = .ok (.getfield 52, 3) := by decide +kernel
theorem dX12_meets_84 : decode mX12_meets.2.1 84 = .ok (.iload 6, 2) := by decide +kernel
theorem dX12_meets_86 : decode mX12_meets.2.1 86 = .ok (.iaload, 1) := by decide +kernel
theorem dX12_meets_87 : decode mX12_meets.2.1 87 = .ok (.iload 4, 2) := by decide +kernel
theorem dX12_meets_89 : decode mX12_meets.2.1 89 = .ok (.if_icmp .ne 10, 3) := by decide +kernel
theorem dX12_meets_92 : decode mX12_meets.2.1 92 = .ok (.iconst 1, 1) := by decide +kernel
theorem dX12_meets_93 : decode mX12_meets.2.1 93 = .ok (.iload 6, 2) := by decide +kernel
theorem dX12_meets_95 : decode mX12_meets.2.1 95 = .ok (.ishl, 1) := by decide +kernel
theorem dX12_meets_96 : decode mX12_meets.2.1 96 = .ok (.goto 4, 3) := by decide +kernel
theorem dX12_meets_99 : decode mX12_meets.2.1 99 = .ok (.iconst 0, 1) := by decide +kernel
theorem dX12_meets_100 : decode mX12_meets.2.1 100 = .ok (.ior, 1) := by decide +kernel
theorem dX12_meets_101 : decode mX12_meets.2.1 101 = .ok (.istore 5, 2) := by decide +kernel
theorem dX12_meets_103 : decode mX12_meets.2.1 103 = .ok (.iinc 6 1, 3) := by decide +kernel
theorem dX12_meets_106 : decode mX12_meets.2.1 106 = .ok (.goto (-46), 3) := by decide +kernel
theorem dX12_meets_109 : decode mX12_meets.2.1 109 = .ok (.iload 5, 2) := by decide +kernel
theorem dX12_meets_111 : decode mX12_meets.2.1 111 = .ok (.invokestatic 300, 3) := by decide +kernel
theorem dX12_meets_114 : decode mX12_meets.2.1 114 = .ok (.iconst 1, 1) := by decide +kernel
theorem dX12_meets_115 : decode mX12_meets.2.1 115 = .ok (.if_icmp .le 24, 3) := by decide +kernel
theorem dX12_meets_118 : decode mX12_meets.2.1 118 = .ok (.aload_n 0, 1) := by decide +kernel
theorem dX12_meets_119 : decode mX12_meets.2.1 119 = .ok (.iconst 0, 1) := by decide +kernel
theorem dX12_meets_120 : decode mX12_meets.2.1 120 = .ok (.putfield 15, 3) := by decide +kernel
theorem dX12_meets_123 : decode mX12_meets.2.1 123 = .ok (.aload_n 0, 1) := by decide +kernel
theorem dX12_meets_124 : decode mX12_meets.2.1 124 = .ok (.iload 4, 2) := by decide +kernel
theorem dX12_meets_126 : decode mX12_meets.2.1 126 = .ok (.i2l, 1) := by decide +kernel
theorem dX12_meets_127 : decode mX12_meets.2.1 127 = .ok (.invokevirtual 387, 3) := by decide +kernel
theorem dX12_meets_130 : decode mX12_meets.2.1 130 = .ok (.aload_n 0, 1) := by decide +kernel
theorem dX12_meets_131 : decode mX12_meets.2.1 131 = .ok (.iload 5, 2) := by decide +kernel
theorem dX12_meets_133 : decode mX12_meets.2.1 133 = .ok (.i2l, 1) := by decide +kernel
theorem dX12_meets_134 : decode mX12_meets.2.1 134 = .ok (.invokevirtual 387, 3) := by decide +kernel
theorem dX12_meets_137 : decode mX12_meets.2.1 137 = .ok (.iload_n 2, 1) := by decide +kernel
theorem dX12_meets_138 : decode mX12_meets.2.1 138 = .ok (.ireturn, 1) := by decide +kernel
theorem dX12_meets_139 : decode mX12_meets.2.1 139 = .ok (.iinc 4 1, 3) := by decide +kernel
theorem dX12_meets_142 : decode mX12_meets.2.1 142 = .ok (.goto (-102), 3) := by decide +kernel
theorem dX12_meets_145 : decode mX12_meets.2.1 145 = .ok (.aload_n 0, 1) := by decide +kernel
theorem dX12_meets_146 : decode mX12_meets.2.1 146 = .ok (.aload_n 0, 1) := by decide +kernel
theorem dX12_meets_147 : decode mX12_meets.2.1 147 = .ok (.getfield 52, 3) := by decide +kernel
theorem dX12_meets_150 : decode mX12_meets.2.1 150 = .ok (.invokevirtual 360, 3) := by decide +kernel
theorem dX12_meets_153 : decode mX12_meets.2.1 153 = .ok (.iinc 2 1, 3) := by decide +kernel
theorem dX12_meets_156 : decode mX12_meets.2.1 156 = .ok (.goto (-135), 3) := by decide +kernel
theorem dX12_meets_159 : decode mX12_meets.2.1 159 = .ok (.bipush (-2), 2) := by decide +kernel
theorem dX12_meets_161 : decode mX12_meets.2.1 161 = .ok (.ireturn, 1) := by decide +kernel
theorem dX12_doubts_0 : decode mX12_doubts.2.1 0 = .ok (.aload_n 0, 1) := by decide +kernel
theorem dX12_doubts_1 : decode mX12_doubts.2.1 1 = .ok (.iconst 0, 1) := by decide +kernel
theorem dX12_doubts_2 : decode mX12_doubts.2.1 2 = .ok (.putfield 3, 3) := by decide +kernel
theorem dX12_doubts_5 : decode mX12_doubts.2.1 5 = .ok (.aload_n 0, 1) := by decide +kernel
theorem dX12_doubts_6 : decode mX12_doubts.2.1 6 = .ok (.iload_n 1, 1) := by decide +kernel
theorem dX12_doubts_7 : decode mX12_doubts.2.1 7 = .ok (.invokevirtual 346, 3) := by decide +kernel
theorem dX12_doubts_10 : decode mX12_doubts.2.1 10 = .ok (.ifCond .eq 16, 3) := by decide +kernel
theorem dX12_doubts_13 : decode mX12_doubts.2.1 13 = .ok (.aload_n 0, 1) := by decide +kernel
theorem dX12_doubts_14 : decode mX12_doubts.2.1 14 = .ok (.iload_n 2, 1) := by decide +kernel
theorem dX12_doubts_15 : decode mX12_doubts.2.1 15 = .ok (.invokevirtual 346, 3) := by decide +kernel
theorem dX12_doubts_18 : decode mX12_doubts.2.1 18 = .ok (.ifCond .eq 8, 3) := by decide +kernel
theorem dX12_doubts_21 : decode mX12_doubts.2.1 21 = .ok (.iload_n 1, 1) := by decide +kernel
theorem dX12_doubts_22 : decode mX12_doubts.2.1 22 = .ok (.iload_n 2, 1) := by decide +kernel
theorem dX12_doubts_23 : decode mX12_doubts.2.1 23 = .ok (.if_icmp .ne 5, 3) := by decide +kernel
theorem dX12_doubts_26 : decode mX12_doubts.2.1 26 = .ok (.iconst (-1), 1) := by decide +kernel
theorem dX12_doubts_27 : decode mX12_doubts.2.1 27 = .ok (.ireturn, 1) := by decide +kernel
theorem dX12_doubts_28 : decode mX12_doubts.2.1 28 = .ok (.aload_n 0, 1) := by decide +kernel
theorem dX12_doubts_29 : decode mX12_doubts.2.1 29 = .ok (.aload_n 0, 1) := by decide +kernel
theorem dX12_doubts_30 : decode mX12_doubts.2.1 30 = .ok (.getfield 49, 3) := by decide +kernel
theorem dX12_doubts_33 : decode mX12_doubts.2.1 33 = .ok (.iload_n 1, 1) := by decide +kernel
theorem dX12_doubts_34 : decode mX12_doubts.2.1 34 = .ok (.invokevirtual 318, 3) := by decide +kernel
theorem dX12_doubts_37 : decode mX12_doubts.2.1 37 = .ok (.aload_n 0, 1) := by decide +kernel
theorem dX12_doubts_38 : decode mX12_doubts.2.1 38 = .ok (.aload_n 0, 1) := by decide +kernel
theorem dX12_doubts_39 : decode mX12_doubts.2.1 39 = .ok (.getfield 49, 3) := by decide +kernel
theorem dX12_doubts_42 : decode mX12_doubts.2.1 42 = .ok (.iload_n 2, 1) := by decide +kernel
theorem dX12_doubts_43 : decode mX12_doubts.2.1 43 = .ok (.invokevirtual 318, 3) := by decide +kernel
theorem dX12_doubts_46 : decode mX12_doubts.2.1 46 = .ok (.iand, 1) := by decide +kernel
theorem dX12_doubts_47 : decode mX12_doubts.2.1 47 = .ok (.istore_n 3, 1) := by decide +kernel
theorem dX12_doubts_48 : decode mX12_doubts.2.1 48 = .ok (.aload_n 0, 1) := by decide +kernel
theorem dX12_doubts_49 : decode mX12_doubts.2.1 49 = .ok (.aload_n 0, 1) := by decide +kernel
theorem dX12_doubts_50 : decode mX12_doubts.2.1 50 = .ok (.getfield 49, 3) := by decide +kernel
theorem dX12_doubts_53 : decode mX12_doubts.2.1 53 = .ok (.iload_n 1, 1) := by decide +kernel
theorem dX12_doubts_54 : decode mX12_doubts.2.1 54 = .ok (.invokevirtual 340, 3) := by decide +kernel
theorem dX12_doubts_57 : decode mX12_doubts.2.1 57 = .ok (.aload_n 0, 1) := by decide +kernel
theorem dX12_doubts_58 : decode mX12_doubts.2.1 58 = .ok (.aload_n 0, 1) := by decide +kernel
theorem dX12_doubts_59 : decode mX12_doubts.2.1 59 = .ok (.getfield 49, 3) := by decide +kernel
theorem dX12_doubts_62 : decode mX12_doubts.2.1 62 = .ok (.iload_n 2, 1) := by decide +kernel
theorem dX12_doubts_63 : decode mX12_doubts.2.1 63 = .ok (.invokevirtual 340, 3) := by decide +kernel
theorem dX12_doubts_66 : decode mX12_doubts.2.1 66 = .ok (.ixor, 1) := by decide +kernel
theorem dX12_doubts_67 : decode mX12_doubts.2.1 67 = .ok (.iload_n 3, 1) := by decide +kernel
theorem dX12_doubts_68 : decode mX12_doubts.2.1 68 = .ok (.iand, 1) := by decide +kernel
theorem dX12_doubts_69 : decode mX12_doubts.2.1 69 = .ok (.istore 4, 2) := by decide +kernel
theorem dX12_doubts_71 : decode mX12_doubts.2.1 71 = .ok (.aload_n 0, 1) := by decide +kernel
theorem dX12_doubts_72 : decode mX12_doubts.2.1 72 = .ok (.iconst 0, 1) := by decide +kernel
theorem dX12_doubts_73 : decode mX12_doubts.2.1 73 = .ok (.putfield 15, 3) := by decide +kernel
theorem dX12_doubts_76 : decode mX12_doubts.2.1 76 = .ok (.aload_n 0, 1) := by decide +kernel
theorem dX12_doubts_77 : decode mX12_doubts.2.1 77 = .ok (.iload 4, 2) := by decide +kernel
theorem dX12_doubts_79 : decode mX12_doubts.2.1 79 = .ok (.aload_n 0, 1) := by decide +kernel
theorem dX12_doubts_80 : decode mX12_doubts.2.1 80 = .ok (.aload_n 0, 1) := by decide +kernel
theorem dX12_doubts_81 : decode mX12_doubts.2.1 81 = .ok (.getfield 49, 3) := by decide +kernel
theorem dX12_doubts_84 : decode mX12_doubts.2.1 84 = .ok (.iload_n 1, 1) := by decide +kernel
theorem dX12_doubts_85 : decode mX12_doubts.2.1 85 = .ok (.invokevirtual 340, 3) := by decide +kernel
theorem dX12_doubts_88 : decode mX12_doubts.2.1 88 = .ok (.iand, 1) := by decide +kernel
theorem dX12_doubts_89 : decode mX12_doubts.2.1 89 = .ok (.i2l, 1) := by decide +kernel
theorem dX12_doubts_90 : decode mX12_doubts.2.1 90 = .ok (.invokevirtual 387, 3) := by decide +kernel
theorem dX12_doubts_93 : decode mX12_doubts.2.1 93 = .ok (.aload_n 0, 1) := by decide +kernel
theorem dX12_doubts_94 : decode mX12_doubts.2.1 94 = .ok (.iload_n 3, 1) := by decide +kernel
theorem dX12_doubts_95 : decode mX12_doubts.2.1 95 = .ok (.i2l, 1) := by decide +kernel
theorem dX12_doubts_96 : decode mX12_doubts.2.1 96 = .ok (.invokevirtual 387, 3) := by decide +kernel
theorem dX12_doubts_99 : decode mX12_doubts.2.1 99 = .ok (.iload 4, 2) := by decide +kernel
theorem dX12_doubts_101 : decode mX12_doubts.2.1 101 = .ok (.ireturn, 1) := by decide +kernel
theorem dX12_watch_0 : decode mX12_watch.2.1 0 = .ok (.aload_n 0, 1) := by decide +kernel
theorem dX12_watch_1 : decode mX12_watch.2.1 1 = .ok (.iconst 0, 1) := by decide +kernel
theorem dX12_watch_2 : decode mX12_watch.2.1 2 = .ok (.putfield 3, 3) := by decide +kernel
theorem dX12_watch_5 : decode mX12_watch.2.1 5 = .ok (.iload_n 1, 1) := by decide +kernel
theorem dX12_watch_6 : decode mX12_watch.2.1 6 = .ok (.i2l, 1) := by decide +kernel
theorem dX12_watch_7 : decode mX12_watch.2.1 7 = .ok (.lconst 0, 1) := by decide +kernel
theorem dX12_watch_8 : decode mX12_watch.2.1 8 = .ok (.aload_n 0, 1) := by decide +kernel
theorem dX12_watch_9 : decode mX12_watch.2.1 9 = .ok (.getfield 140, 3) := by decide +kernel
theorem dX12_watch_12 : decode mX12_watch.2.1 12 = .ok (.invokestatic 410, 3) := by decide +kernel
theorem dX12_watch_15 : decode mX12_watch.2.1 15 = .ok (.i2l, 1) := by decide +kernel
theorem dX12_watch_16 : decode mX12_watch.2.1 16 = .ok (.invokestatic 143, 3) := by decide +kernel
theorem dX12_watch_19 : decode mX12_watch.2.1 19 = .ok (.ifCond .ne 5, 3) := by decide +kernel
theorem dX12_watch_22 : decode mX12_watch.2.1 22 = .ok (.iconst (-1), 1) := by decide +kernel
theorem dX12_watch_23 : decode mX12_watch.2.1 23 = .ok (.ireturn, 1) := by decide +kernel
theorem dX12_watch_24 : decode mX12_watch.2.1 24 = .ok (.iconst (-1), 1) := by decide +kernel
theorem dX12_watch_25 : decode mX12_watch.2.1 25 = .ok (.istore_n 2, 1) := by decide +kernel
theorem dX12_watch_26 : decode mX12_watch.2.1 26 = .ok (.iconst 0, 1) := by decide +kernel
theorem dX12_watch_27 : decode mX12_watch.2.1 27 = .ok (.istore_n 3, 1) := by decide +kernel
theorem dX12_watch_28 : decode mX12_watch.2.1 28 = .ok (.iload_n 3, 1) := by decide +kernel
theorem dX12_watch_29 : decode mX12_watch.2.1 29 = .ok (.iconst 1, 1) := by decide +kernel
theorem dX12_watch_30 : decode mX12_watch.2.1 30 = .ok (.aload_n 0, 1) := by decide +kernel
theorem dX12_watch_31 : decode mX12_watch.2.1 31 = .ok (.getfield 150, 3) := by decide +kernel
theorem dX12_watch_34 : decode mX12_watch.2.1 34 = .ok (.ishl, 1) := by decide +kernel
theorem dX12_watch_35 : decode mX12_watch.2.1 35 = .ok (.if_icmp .ge 100, 3) := by decide +kernel
theorem dX12_watch_38 : decode mX12_watch.2.1 38 = .ok (.iconst 0, 1) := by decide +kernel
theorem dX12_watch_39 : decode mX12_watch.2.1 39 = .ok (.istore 4, 2) := by decide +kernel
theorem dX12_watch_41 : decode mX12_watch.2.1 41 = .ok (.iconst 0, 1) := by decide +kernel
theorem dX12_watch_42 : decode mX12_watch.2.1 42 = .ok (.istore 5, 2) := by decide +kernel
theorem dX12_watch_44 : decode mX12_watch.2.1 44 = .ok (.iload 5, 2) := by decide +kernel
theorem dX12_watch_46 : decode mX12_watch.2.1 46 = .ok (.aload_n 0, 1) := by decide +kernel
theorem dX12_watch_47 : decode mX12_watch.2.1 47 = .ok (.getfield 150, 3) := by decide +kernel
theorem dX12_watch_50 : decode mX12_watch.2.1 50 = .ok (.if_icmp .ge 37, 3) := by decide +kernel
theorem dX12_watch_53 : decode mX12_watch.2.1 53 = .ok (.iload 4, 2) := by decide +kernel
theorem dX12_watch_55 : decode mX12_watch.2.1 55 = .ok (.iload_n 3, 1) := by decide +kernel
theorem dX12_watch_56 : decode mX12_watch.2.1 56 = .ok (.iload 5, 2) := by decide +kernel
theorem dX12_watch_58 : decode mX12_watch.2.1 58 = .ok (.invokestatic 296, 3) := by decide +kernel
theorem dX12_watch_61 : decode mX12_watch.2.1 61 = .ok (.ifCond .eq 16, 3) := by decide +kernel
theorem dX12_watch_64 : decode mX12_watch.2.1 64 = .ok (.aload_n 0, 1) := by decide +kernel
theorem dX12_watch_65 : decode mX12_watch.2.1 65 = .ok (.aload_n 0, 1) := by decide +kernel
theorem dX12_watch_66 : decode mX12_watch.2.1 66 = .ok (.getfield 49, 3) := by decide +kernel
theorem dX12_watch_69 : decode mX12_watch.2.1 69 = .ok (.iload 5, 2) := by decide +kernel
theorem dX12_watch_71 : decode mX12_watch.2.1 71 = .ok (.invokevirtual 340, 3) := by decide +kernel
theorem dX12_watch_74 : decode mX12_watch.2.1 74 = .ok (.goto 4, 3) := by decide +kernel
theorem dX12_watch_77 : decode mX12_watch.2.1 77 = .ok (.iconst 0, 1) := by decide +kernel
theorem dX12_watch_78 : decode mX12_watch.2.1 78 = .ok (.ior, 1) := by decide +kernel
theorem dX12_watch_79 : decode mX12_watch.2.1 79 = .ok (.istore 4, 2) := by decide +kernel
theorem dX12_watch_81 : decode mX12_watch.2.1 81 = .ok (.iinc 5 1, 3) := by decide +kernel
theorem dX12_watch_84 : decode mX12_watch.2.1 84 = .ok (.goto (-40), 3) := by decide +kernel
theorem dX12_watch_87 : decode mX12_watch.2.1 87 = .ok (.iload_n 2, 1) := by decide +kernel
theorem dX12_watch_88 : decode mX12_watch.2.1 88 = .ok (.ifCond .lt 14, 3) := by decide +kernel
theorem dX12_watch_91 : decode mX12_watch.2.1 91 = .ok (.iload_n 3, 1) := by decide +kernel
theorem dX12_watch_92 : decode mX12_watch.2.1 92 = .ok (.invokestatic 300, 3) := by decide +kernel
theorem dX12_watch_95 : decode mX12_watch.2.1 95 = .ok (.iload_n 2, 1) := by decide +kernel
theorem dX12_watch_96 : decode mX12_watch.2.1 96 = .ok (.invokestatic 300, 3) := by decide +kernel
theorem dX12_watch_99 : decode mX12_watch.2.1 99 = .ok (.if_icmp .ge 7, 3) := by decide +kernel
theorem dX12_watch_102 : decode mX12_watch.2.1 102 = .ok (.iconst 1, 1) := by decide +kernel
theorem dX12_watch_103 : decode mX12_watch.2.1 103 = .ok (.goto 4, 3) := by decide +kernel
theorem dX12_watch_106 : decode mX12_watch.2.1 106 = .ok (.iconst 0, 1) := by decide +kernel
theorem dX12_watch_107 : decode mX12_watch.2.1 107 = .ok (.istore 5, 2) := by decide +kernel
theorem dX12_watch_109 : decode mX12_watch.2.1 109 = .ok (.iload 5, 2) := by decide +kernel
theorem dX12_watch_111 : decode mX12_watch.2.1 111 = .ok (.ifCond .eq 16, 3) := by decide +kernel
theorem dX12_watch_114 : decode mX12_watch.2.1 114 = .ok (.iload_n 1, 1) := by decide +kernel
theorem dX12_watch_115 : decode mX12_watch.2.1 115 = .ok (.iload 4, 2) := by decide +kernel
theorem dX12_watch_117 : decode mX12_watch.2.1 117 = .ok (.iconst (-1), 1) := by decide +kernel
theorem dX12_watch_118 : decode mX12_watch.2.1 118 = .ok (.ixor, 1) := by decide +kernel
theorem dX12_watch_119 : decode mX12_watch.2.1 119 = .ok (.iand, 1) := by decide +kernel
theorem dX12_watch_120 : decode mX12_watch.2.1 120 = .ok (.ifCond .ne 7, 3) := by decide +kernel
theorem dX12_watch_123 : decode mX12_watch.2.1 123 = .ok (.iload_n 3, 1) := by decide +kernel
theorem dX12_watch_124 : decode mX12_watch.2.1 124 = .ok (.goto 4, 3) := by decide +kernel
theorem dX12_watch_127 : decode mX12_watch.2.1 127 = .ok (.iload_n 2, 1) := by decide +kernel
theorem dX12_watch_128 : decode mX12_watch.2.1 128 = .ok (.istore_n 2, 1) := by decide +kernel
theorem dX12_watch_129 : decode mX12_watch.2.1 129 = .ok (.iinc 3 1, 3) := by decide +kernel
theorem dX12_watch_132 : decode mX12_watch.2.1 132 = .ok (.goto (-104), 3) := by decide +kernel
theorem dX12_watch_135 : decode mX12_watch.2.1 135 = .ok (.iload_n 2, 1) := by decide +kernel
theorem dX12_watch_136 : decode mX12_watch.2.1 136 = .ok (.ifCond .ge 6, 3) := by decide +kernel
theorem dX12_watch_139 : decode mX12_watch.2.1 139 = .ok (.bipush (-2), 2) := by decide +kernel
theorem dX12_watch_141 : decode mX12_watch.2.1 141 = .ok (.ireturn, 1) := by decide +kernel
theorem dX12_watch_142 : decode mX12_watch.2.1 142 = .ok (.aload_n 0, 1) := by decide +kernel
theorem dX12_watch_143 : decode mX12_watch.2.1 143 = .ok (.iconst 0, 1) := by decide +kernel
theorem dX12_watch_144 : decode mX12_watch.2.1 144 = .ok (.putfield 15, 3) := by decide +kernel
theorem dX12_watch_147 : decode mX12_watch.2.1 147 = .ok (.aload_n 0, 1) := by decide +kernel
theorem dX12_watch_148 : decode mX12_watch.2.1 148 = .ok (.iload_n 2, 1) := by decide +kernel
theorem dX12_watch_149 : decode mX12_watch.2.1 149 = .ok (.i2l, 1) := by decide +kernel
theorem dX12_watch_150 : decode mX12_watch.2.1 150 = .ok (.invokevirtual 387, 3) := by decide +kernel
theorem dX12_watch_153 : decode mX12_watch.2.1 153 = .ok (.iload_n 2, 1) := by decide +kernel
theorem dX12_watch_154 : decode mX12_watch.2.1 154 = .ok (.invokestatic 300, 3) := by decide +kernel
theorem dX12_watch_157 : decode mX12_watch.2.1 157 = .ok (.ireturn, 1) := by decide +kernel
theorem dX12_hidden_0 : decode mX12_hidden.2.1 0 = .ok (.aload_n 0, 1) := by decide +kernel
theorem dX12_hidden_1 : decode mX12_hidden.2.1 1 = .ok (.iconst 0, 1) := by decide +kernel
theorem dX12_hidden_2 : decode mX12_hidden.2.1 2 = .ok (.putfield 3, 3) := by decide +kernel
theorem dX12_hidden_5 : decode mX12_hidden.2.1 5 = .ok (.iconst 0, 1) := by decide +kernel
theorem dX12_hidden_6 : decode mX12_hidden.2.1 6 = .ok (.istore_n 1, 1) := by decide +kernel
theorem dX12_hidden_7 : decode mX12_hidden.2.1 7 = .ok (.aload_n 0, 1) := by decide +kernel
theorem dX12_hidden_8 : decode mX12_hidden.2.1 8 = .ok (.getfield 140, 3) := by decide +kernel
theorem dX12_hidden_11 : decode mX12_hidden.2.1 11 = .ok (.invokestatic 410, 3) := by decide +kernel
theorem dX12_hidden_14 : decode mX12_hidden.2.1 14 = .ok (.istore_n 2, 1) := by decide +kernel
theorem dX12_hidden_15 : decode mX12_hidden.2.1 15 = .ok (.iconst 0, 1) := by decide +kernel
theorem dX12_hidden_16 : decode mX12_hidden.2.1 16 = .ok (.istore_n 3, 1) := by decide +kernel
theorem dX12_hidden_17 : decode mX12_hidden.2.1 17 = .ok (.iload_n 3, 1) := by decide +kernel
theorem dX12_hidden_18 : decode mX12_hidden.2.1 18 = .ok (.aload_n 0, 1) := by decide +kernel
theorem dX12_hidden_19 : decode mX12_hidden.2.1 19 = .ok (.getfield 150, 3) := by decide +kernel
theorem dX12_hidden_22 : decode mX12_hidden.2.1 22 = .ok (.if_icmp .ge 33, 3) := by decide +kernel
theorem dX12_hidden_25 : decode mX12_hidden.2.1 25 = .ok (.iload_n 1, 1) := by decide +kernel
theorem dX12_hidden_26 : decode mX12_hidden.2.1 26 = .ok (.aload_n 0, 1) := by decide +kernel
theorem dX12_hidden_27 : decode mX12_hidden.2.1 27 = .ok (.aload_n 0, 1) := by decide +kernel
theorem dX12_hidden_28 : decode mX12_hidden.2.1 28 = .ok (.getfield 49, 3) := by decide +kernel
theorem dX12_hidden_31 : decode mX12_hidden.2.1 31 = .ok (.iload_n 3, 1) := by decide +kernel
theorem dX12_hidden_32 : decode mX12_hidden.2.1 32 = .ok (.invokevirtual 340, 3) := by decide +kernel
theorem dX12_hidden_35 : decode mX12_hidden.2.1 35 = .ok (.ior, 1) := by decide +kernel
theorem dX12_hidden_36 : decode mX12_hidden.2.1 36 = .ok (.istore_n 1, 1) := by decide +kernel
theorem dX12_hidden_37 : decode mX12_hidden.2.1 37 = .ok (.iload_n 2, 1) := by decide +kernel
theorem dX12_hidden_38 : decode mX12_hidden.2.1 38 = .ok (.aload_n 0, 1) := by decide +kernel
theorem dX12_hidden_39 : decode mX12_hidden.2.1 39 = .ok (.aload_n 0, 1) := by decide +kernel
theorem dX12_hidden_40 : decode mX12_hidden.2.1 40 = .ok (.getfield 49, 3) := by decide +kernel
theorem dX12_hidden_43 : decode mX12_hidden.2.1 43 = .ok (.iload_n 3, 1) := by decide +kernel
theorem dX12_hidden_44 : decode mX12_hidden.2.1 44 = .ok (.invokevirtual 340, 3) := by decide +kernel
theorem dX12_hidden_47 : decode mX12_hidden.2.1 47 = .ok (.iand, 1) := by decide +kernel
theorem dX12_hidden_48 : decode mX12_hidden.2.1 48 = .ok (.istore_n 2, 1) := by decide +kernel
theorem dX12_hidden_49 : decode mX12_hidden.2.1 49 = .ok (.iinc 3 1, 3) := by decide +kernel
theorem dX12_hidden_52 : decode mX12_hidden.2.1 52 = .ok (.goto (-35), 3) := by decide +kernel
theorem dX12_hidden_55 : decode mX12_hidden.2.1 55 = .ok (.aload_n 0, 1) := by decide +kernel
theorem dX12_hidden_56 : decode mX12_hidden.2.1 56 = .ok (.getfield 140, 3) := by decide +kernel
theorem dX12_hidden_59 : decode mX12_hidden.2.1 59 = .ok (.invokestatic 410, 3) := by decide +kernel
theorem dX12_hidden_62 : decode mX12_hidden.2.1 62 = .ok (.iload_n 1, 1) := by decide +kernel
theorem dX12_hidden_63 : decode mX12_hidden.2.1 63 = .ok (.iconst (-1), 1) := by decide +kernel
theorem dX12_hidden_64 : decode mX12_hidden.2.1 64 = .ok (.ixor, 1) := by decide +kernel
theorem dX12_hidden_65 : decode mX12_hidden.2.1 65 = .ok (.iand, 1) := by decide +kernel
theorem dX12_hidden_66 : decode mX12_hidden.2.1 66 = .ok (.istore_n 3, 1) := by decide +kernel
theorem dX12_hidden_67 : decode mX12_hidden.2.1 67 = .ok (.aload_n 0, 1) := by decide +kernel
theorem dX12_hidden_68 : decode mX12_hidden.2.1 68 = .ok (.iconst 0, 1) := by decide +kernel
theorem dX12_hidden_69 : decode mX12_hidden.2.1 69 = .ok (.putfield 15, 3) := by decide +kernel
theorem dX12_hidden_72 : decode mX12_hidden.2.1 72 = .ok (.aload_n 0, 1) := by decide +kernel
theorem dX12_hidden_73 : decode mX12_hidden.2.1 73 = .ok (.iload_n 3, 1) := by decide +kernel
theorem dX12_hidden_74 : decode mX12_hidden.2.1 74 = .ok (.invokestatic 300, 3) := by decide +kernel
theorem dX12_hidden_77 : decode mX12_hidden.2.1 77 = .ok (.i2l, 1) := by decide +kernel
theorem dX12_hidden_78 : decode mX12_hidden.2.1 78 = .ok (.invokevirtual 387, 3) := by decide +kernel
theorem dX12_hidden_81 : decode mX12_hidden.2.1 81 = .ok (.aload_n 0, 1) := by decide +kernel
theorem dX12_hidden_82 : decode mX12_hidden.2.1 82 = .ok (.iload_n 2, 1) := by decide +kernel
theorem dX12_hidden_83 : decode mX12_hidden.2.1 83 = .ok (.i2l, 1) := by decide +kernel
theorem dX12_hidden_84 : decode mX12_hidden.2.1 84 = .ok (.invokevirtual 387, 3) := by decide +kernel
theorem dX12_hidden_87 : decode mX12_hidden.2.1 87 = .ok (.iload_n 3, 1) := by decide +kernel
theorem dX12_hidden_88 : decode mX12_hidden.2.1 88 = .ok (.ireturn, 1) := by decide +kernel
theorem dX12_glaze_0 : decode mX12_glaze.2.1 0 = .ok (.aload_n 0, 1) := by decide +kernel
theorem dX12_glaze_1 : decode mX12_glaze.2.1 1 = .ok (.iconst 0, 1) := by decide +kernel
theorem dX12_glaze_2 : decode mX12_glaze.2.1 2 = .ok (.putfield 3, 3) := by decide +kernel
theorem dX12_glaze_5 : decode mX12_glaze.2.1 5 = .ok (.aload_n 0, 1) := by decide +kernel
theorem dX12_glaze_6 : decode mX12_glaze.2.1 6 = .ok (.iload_n 1, 1) := by decide +kernel
theorem dX12_glaze_7 : decode mX12_glaze.2.1 7 = .ok (.invokevirtual 346, 3) := by decide +kernel
theorem dX12_glaze_10 : decode mX12_glaze.2.1 10 = .ok (.ifCond .eq 37, 3) := by decide +kernel
theorem dX12_glaze_13 : decode mX12_glaze.2.1 13 = .ok (.iload_n 2, 1) := by decide +kernel
theorem dX12_glaze_14 : decode mX12_glaze.2.1 14 = .ok (.i2l, 1) := by decide +kernel
theorem dX12_glaze_15 : decode mX12_glaze.2.1 15 = .ok (.lconst 0, 1) := by decide +kernel
theorem dX12_glaze_16 : decode mX12_glaze.2.1 16 = .ok (.aload_n 0, 1) := by decide +kernel
theorem dX12_glaze_17 : decode mX12_glaze.2.1 17 = .ok (.getfield 140, 3) := by decide +kernel
theorem dX12_glaze_20 : decode mX12_glaze.2.1 20 = .ok (.invokestatic 410, 3) := by decide +kernel
theorem dX12_glaze_23 : decode mX12_glaze.2.1 23 = .ok (.i2l, 1) := by decide +kernel
theorem dX12_glaze_24 : decode mX12_glaze.2.1 24 = .ok (.invokestatic 143, 3) := by decide +kernel
theorem dX12_glaze_27 : decode mX12_glaze.2.1 27 = .ok (.ifCond .eq 20, 3) := by decide +kernel
theorem dX12_glaze_30 : decode mX12_glaze.2.1 30 = .ok (.iload_n 3, 1) := by decide +kernel
theorem dX12_glaze_31 : decode mX12_glaze.2.1 31 = .ok (.i2l, 1) := by decide +kernel
theorem dX12_glaze_32 : decode mX12_glaze.2.1 32 = .ok (.lconst 0, 1) := by decide +kernel
theorem dX12_glaze_33 : decode mX12_glaze.2.1 33 = .ok (.aload_n 0, 1) := by decide +kernel
theorem dX12_glaze_34 : decode mX12_glaze.2.1 34 = .ok (.getfield 140, 3) := by decide +kernel
theorem dX12_glaze_37 : decode mX12_glaze.2.1 37 = .ok (.invokestatic 410, 3) := by decide +kernel
theorem dX12_glaze_40 : decode mX12_glaze.2.1 40 = .ok (.i2l, 1) := by decide +kernel
theorem dX12_glaze_41 : decode mX12_glaze.2.1 41 = .ok (.invokestatic 143, 3) := by decide +kernel
theorem dX12_glaze_44 : decode mX12_glaze.2.1 44 = .ok (.ifCond .ne 5, 3) := by decide +kernel
theorem dX12_glaze_47 : decode mX12_glaze.2.1 47 = .ok (.iconst (-1), 1) := by decide +kernel
theorem dX12_glaze_48 : decode mX12_glaze.2.1 48 = .ok (.ireturn, 1) := by decide +kernel
theorem dX12_glaze_49 : decode mX12_glaze.2.1 49 = .ok (.iconst (-1), 1) := by decide +kernel
theorem dX12_glaze_50 : decode mX12_glaze.2.1 50 = .ok (.istore 4, 2) := by decide +kernel
theorem dX12_glaze_52 : decode mX12_glaze.2.1 52 = .ok (.iconst 0, 1) := by decide +kernel
theorem dX12_glaze_53 : decode mX12_glaze.2.1 53 = .ok (.istore 5, 2) := by decide +kernel
theorem dX12_glaze_55 : decode mX12_glaze.2.1 55 = .ok (.iload 5, 2) := by decide +kernel
theorem dX12_glaze_57 : decode mX12_glaze.2.1 57 = .ok (.iconst 1, 1) := by decide +kernel
theorem dX12_glaze_58 : decode mX12_glaze.2.1 58 = .ok (.aload_n 0, 1) := by decide +kernel
theorem dX12_glaze_59 : decode mX12_glaze.2.1 59 = .ok (.getfield 147, 3) := by decide +kernel
theorem dX12_glaze_62 : decode mX12_glaze.2.1 62 = .ok (.ishl, 1) := by decide +kernel
theorem dX12_glaze_63 : decode mX12_glaze.2.1 63 = .ok (.if_icmp .ge 65, 3) := by decide +kernel
theorem dX12_glaze_66 : decode mX12_glaze.2.1 66 = .ok (.iload 4, 2) := by decide +kernel
theorem dX12_glaze_68 : decode mX12_glaze.2.1 68 = .ok (.ifCond .lt 16, 3) := by decide +kernel
theorem dX12_glaze_71 : decode mX12_glaze.2.1 71 = .ok (.iload 5, 2) := by decide +kernel
theorem dX12_glaze_73 : decode mX12_glaze.2.1 73 = .ok (.invokestatic 300, 3) := by decide +kernel
theorem dX12_glaze_76 : decode mX12_glaze.2.1 76 = .ok (.iload 4, 2) := by decide +kernel
theorem dX12_glaze_78 : decode mX12_glaze.2.1 78 = .ok (.invokestatic 300, 3) := by decide +kernel
theorem dX12_glaze_81 : decode mX12_glaze.2.1 81 = .ok (.if_icmp .ge 41, 3) := by decide +kernel
theorem dX12_glaze_84 : decode mX12_glaze.2.1 84 = .ok (.aload_n 0, 1) := by decide +kernel
theorem dX12_glaze_85 : decode mX12_glaze.2.1 85 = .ok (.aload_n 0, 1) := by decide +kernel
theorem dX12_glaze_86 : decode mX12_glaze.2.1 86 = .ok (.getfield 49, 3) := by decide +kernel
theorem dX12_glaze_89 : decode mX12_glaze.2.1 89 = .ok (.iload_n 1, 1) := by decide +kernel
theorem dX12_glaze_90 : decode mX12_glaze.2.1 90 = .ok (.iload 5, 2) := by decide +kernel
theorem dX12_glaze_92 : decode mX12_glaze.2.1 92 = .ok (.invokevirtual 328, 3) := by decide +kernel
theorem dX12_glaze_95 : decode mX12_glaze.2.1 95 = .ok (.istore 6, 2) := by decide +kernel
theorem dX12_glaze_97 : decode mX12_glaze.2.1 97 = .ok (.iload_n 2, 1) := by decide +kernel
theorem dX12_glaze_98 : decode mX12_glaze.2.1 98 = .ok (.iload 6, 2) := by decide +kernel
theorem dX12_glaze_100 : decode mX12_glaze.2.1 100 = .ok (.iconst (-1), 1) := by decide +kernel
theorem dX12_glaze_101 : decode mX12_glaze.2.1 101 = .ok (.ixor, 1) := by decide +kernel
theorem dX12_glaze_102 : decode mX12_glaze.2.1 102 = .ok (.iand, 1) := by decide +kernel
theorem dX12_glaze_103 : decode mX12_glaze.2.1 103 = .ok (.ifCond .ne 15, 3) := by decide +kernel
theorem dX12_glaze_106 : decode mX12_glaze.2.1 106 = .ok (.iload_n 3, 1) := by decide +kernel
theorem dX12_glaze_107 : decode mX12_glaze.2.1 107 = .ok (.iload 6, 2) := by decide +kernel
theorem dX12_glaze_109 : decode mX12_glaze.2.1 109 = .ok (.iand, 1) := by decide +kernel
theorem dX12_glaze_110 : decode mX12_glaze.2.1 110 = .ok (.ifCond .ne 8, 3) := by decide +kernel
theorem dX12_glaze_113 : decode mX12_glaze.2.1 113 = .ok (.iload 5, 2) := by decide +kernel
theorem dX12_glaze_115 : decode mX12_glaze.2.1 115 = .ok (.goto 5, 3) := by decide +kernel
theorem dX12_glaze_118 : decode mX12_glaze.2.1 118 = .ok (.iload 4, 2) := by decide +kernel
theorem dX12_glaze_120 : decode mX12_glaze.2.1 120 = .ok (.istore 4, 2) := by decide +kernel
theorem dX12_glaze_122 : decode mX12_glaze.2.1 122 = .ok (.iinc 5 1, 3) := by decide +kernel
theorem dX12_glaze_125 : decode mX12_glaze.2.1 125 = .ok (.goto (-70), 3) := by decide +kernel
theorem dX12_glaze_128 : decode mX12_glaze.2.1 128 = .ok (.iload 4, 2) := by decide +kernel
theorem dX12_glaze_130 : decode mX12_glaze.2.1 130 = .ok (.ifCond .ge 6, 3) := by decide +kernel
theorem dX12_glaze_133 : decode mX12_glaze.2.1 133 = .ok (.bipush (-2), 2) := by decide +kernel
theorem dX12_glaze_135 : decode mX12_glaze.2.1 135 = .ok (.ireturn, 1) := by decide +kernel
theorem dX12_glaze_136 : decode mX12_glaze.2.1 136 = .ok (.aload_n 0, 1) := by decide +kernel
theorem dX12_glaze_137 : decode mX12_glaze.2.1 137 = .ok (.iconst 0, 1) := by decide +kernel
theorem dX12_glaze_138 : decode mX12_glaze.2.1 138 = .ok (.putfield 15, 3) := by decide +kernel
theorem dX12_glaze_141 : decode mX12_glaze.2.1 141 = .ok (.aload_n 0, 1) := by decide +kernel
theorem dX12_glaze_142 : decode mX12_glaze.2.1 142 = .ok (.iload 4, 2) := by decide +kernel
theorem dX12_glaze_144 : decode mX12_glaze.2.1 144 = .ok (.i2l, 1) := by decide +kernel
theorem dX12_glaze_145 : decode mX12_glaze.2.1 145 = .ok (.invokevirtual 387, 3) := by decide +kernel
theorem dX12_glaze_148 : decode mX12_glaze.2.1 148 = .ok (.iload 4, 2) := by decide +kernel
theorem dX12_glaze_150 : decode mX12_glaze.2.1 150 = .ok (.invokestatic 300, 3) := by decide +kernel
theorem dX12_glaze_153 : decode mX12_glaze.2.1 153 = .ok (.ireturn, 1) := by decide +kernel
theorem dX12_best_0 : decode mX12_best.2.1 0 = .ok (.aload_n 0, 1) := by decide +kernel
theorem dX12_best_1 : decode mX12_best.2.1 1 = .ok (.iconst 0, 1) := by decide +kernel
theorem dX12_best_2 : decode mX12_best.2.1 2 = .ok (.putfield 3, 3) := by decide +kernel
theorem dX12_best_5 : decode mX12_best.2.1 5 = .ok (.aload_n 0, 1) := by decide +kernel
theorem dX12_best_6 : decode mX12_best.2.1 6 = .ok (.iload_n 1, 1) := by decide +kernel
theorem dX12_best_7 : decode mX12_best.2.1 7 = .ok (.invokevirtual 346, 3) := by decide +kernel
theorem dX12_best_10 : decode mX12_best.2.1 10 = .ok (.ifCond .ne 5, 3) := by decide +kernel
theorem dX12_best_13 : decode mX12_best.2.1 13 = .ok (.iconst (-1), 1) := by decide +kernel
theorem dX12_best_14 : decode mX12_best.2.1 14 = .ok (.ireturn, 1) := by decide +kernel
theorem dX12_best_15 : decode mX12_best.2.1 15 = .ok (.aload_n 0, 1) := by decide +kernel
theorem dX12_best_16 : decode mX12_best.2.1 16 = .ok (.aload_n 0, 1) := by decide +kernel
theorem dX12_best_17 : decode mX12_best.2.1 17 = .ok (.getfield 49, 3) := by decide +kernel
theorem dX12_best_20 : decode mX12_best.2.1 20 = .ok (.iload_n 1, 1) := by decide +kernel
theorem dX12_best_21 : decode mX12_best.2.1 21 = .ok (.invokevirtual 325, 3) := by decide +kernel
theorem dX12_best_24 : decode mX12_best.2.1 24 = .ok (.istore_n 2, 1) := by decide +kernel
theorem dX12_best_25 : decode mX12_best.2.1 25 = .ok (.bipush (-2), 2) := by decide +kernel
theorem dX12_best_27 : decode mX12_best.2.1 27 = .ok (.istore_n 3, 1) := by decide +kernel
theorem dX12_best_28 : decode mX12_best.2.1 28 = .ok (.ldc_w 413, 3) := by decide +kernel
theorem dX12_best_31 : decode mX12_best.2.1 31 = .ok (.istore 4, 2) := by decide +kernel
theorem dX12_best_33 : decode mX12_best.2.1 33 = .ok (.iconst 0, 1) := by decide +kernel
theorem dX12_best_34 : decode mX12_best.2.1 34 = .ok (.istore 5, 2) := by decide +kernel
theorem dX12_best_36 : decode mX12_best.2.1 36 = .ok (.iload 5, 2) := by decide +kernel
theorem dX12_best_38 : decode mX12_best.2.1 38 = .ok (.aload_n 0, 1) := by decide +kernel
theorem dX12_best_39 : decode mX12_best.2.1 39 = .ok (.getfield 147, 3) := by decide +kernel
theorem dX12_best_42 : decode mX12_best.2.1 42 = .ok (.if_icmp .ge 63, 3) := by decide +kernel
theorem dX12_best_45 : decode mX12_best.2.1 45 = .ok (.iload_n 2, 1) := by decide +kernel
theorem dX12_best_46 : decode mX12_best.2.1 46 = .ok (.iload 5, 2) := by decide +kernel
theorem dX12_best_48 : decode mX12_best.2.1 48 = .ok (.invokestatic 296, 3) := by decide +kernel
theorem dX12_best_51 : decode mX12_best.2.1 51 = .ok (.ifCond .eq 48, 3) := by decide +kernel
theorem dX12_best_54 : decode mX12_best.2.1 54 = .ok (.aload_n 0, 1) := by decide +kernel
theorem dX12_best_55 : decode mX12_best.2.1 55 = .ok (.aload_n 0, 1) := by decide +kernel
theorem dX12_best_56 : decode mX12_best.2.1 56 = .ok (.getfield 49, 3) := by decide +kernel
theorem dX12_best_59 : decode mX12_best.2.1 59 = .ok (.iload_n 1, 1) := by decide +kernel
theorem dX12_best_60 : decode mX12_best.2.1 60 = .ok (.iload_n 2, 1) := by decide +kernel
theorem dX12_best_61 : decode mX12_best.2.1 61 = .ok (.iconst 1, 1) := by decide +kernel
theorem dX12_best_62 : decode mX12_best.2.1 62 = .ok (.iload 5, 2) := by decide +kernel
theorem dX12_best_64 : decode mX12_best.2.1 64 = .ok (.ishl, 1) := by decide +kernel
theorem dX12_best_65 : decode mX12_best.2.1 65 = .ok (.iconst (-1), 1) := by decide +kernel
theorem dX12_best_66 : decode mX12_best.2.1 66 = .ok (.ixor, 1) := by decide +kernel
theorem dX12_best_67 : decode mX12_best.2.1 67 = .ok (.iand, 1) := by decide +kernel
theorem dX12_best_68 : decode mX12_best.2.1 68 = .ok (.invokevirtual 328, 3) := by decide +kernel
theorem dX12_best_71 : decode mX12_best.2.1 71 = .ok (.invokestatic 300, 3) := by decide +kernel
theorem dX12_best_74 : decode mX12_best.2.1 74 = .ok (.istore 6, 2) := by decide +kernel
theorem dX12_best_76 : decode mX12_best.2.1 76 = .ok (.iload 6, 2) := by decide +kernel
theorem dX12_best_78 : decode mX12_best.2.1 78 = .ok (.iload 4, 2) := by decide +kernel
theorem dX12_best_80 : decode mX12_best.2.1 80 = .ok (.if_icmp .ge 8, 3) := by decide +kernel
theorem dX12_best_83 : decode mX12_best.2.1 83 = .ok (.iload 5, 2) := by decide +kernel
theorem dX12_best_85 : decode mX12_best.2.1 85 = .ok (.goto 4, 3) := by decide +kernel
theorem dX12_best_88 : decode mX12_best.2.1 88 = .ok (.iload_n 3, 1) := by decide +kernel
theorem dX12_best_89 : decode mX12_best.2.1 89 = .ok (.istore_n 3, 1) := by decide +kernel
theorem dX12_best_90 : decode mX12_best.2.1 90 = .ok (.iload 4, 2) := by decide +kernel
theorem dX12_best_92 : decode mX12_best.2.1 92 = .ok (.iload 6, 2) := by decide +kernel
theorem dX12_best_94 : decode mX12_best.2.1 94 = .ok (.invokestatic 168, 3) := by decide +kernel
theorem dX12_best_97 : decode mX12_best.2.1 97 = .ok (.istore 4, 2) := by decide +kernel
theorem dX12_best_99 : decode mX12_best.2.1 99 = .ok (.iinc 5 1, 3) := by decide +kernel
theorem dX12_best_102 : decode mX12_best.2.1 102 = .ok (.goto (-66), 3) := by decide +kernel
theorem dX12_best_105 : decode mX12_best.2.1 105 = .ok (.iload_n 3, 1) := by decide +kernel
theorem dX12_best_106 : decode mX12_best.2.1 106 = .ok (.ifCond .lt 32, 3) := by decide +kernel
theorem dX12_best_109 : decode mX12_best.2.1 109 = .ok (.aload_n 0, 1) := by decide +kernel
theorem dX12_best_110 : decode mX12_best.2.1 110 = .ok (.iconst 0, 1) := by decide +kernel
theorem dX12_best_111 : decode mX12_best.2.1 111 = .ok (.putfield 15, 3) := by decide +kernel
theorem dX12_best_114 : decode mX12_best.2.1 114 = .ok (.aload_n 0, 1) := by decide +kernel
theorem dX12_best_115 : decode mX12_best.2.1 115 = .ok (.iload 4, 2) := by decide +kernel
theorem dX12_best_117 : decode mX12_best.2.1 117 = .ok (.i2l, 1) := by decide +kernel
theorem dX12_best_118 : decode mX12_best.2.1 118 = .ok (.invokevirtual 387, 3) := by decide +kernel
theorem dX12_best_121 : decode mX12_best.2.1 121 = .ok (.aload_n 0, 1) := by decide +kernel
theorem dX12_best_122 : decode mX12_best.2.1 122 = .ok (.aload_n 0, 1) := by decide +kernel
theorem dX12_best_123 : decode mX12_best.2.1 123 = .ok (.aload_n 0, 1) := by decide +kernel
theorem dX12_best_124 : decode mX12_best.2.1 124 = .ok (.getfield 49, 3) := by decide +kernel
theorem dX12_best_127 : decode mX12_best.2.1 127 = .ok (.iload_n 1, 1) := by decide +kernel
theorem dX12_best_128 : decode mX12_best.2.1 128 = .ok (.invokevirtual 340, 3) := by decide +kernel
theorem dX12_best_131 : decode mX12_best.2.1 131 = .ok (.invokestatic 300, 3) := by decide +kernel
theorem dX12_best_134 : decode mX12_best.2.1 134 = .ok (.i2l, 1) := by decide +kernel
theorem dX12_best_135 : decode mX12_best.2.1 135 = .ok (.invokevirtual 387, 3) := by decide +kernel
theorem dX12_best_138 : decode mX12_best.2.1 138 = .ok (.iload_n 3, 1) := by decide +kernel
theorem dX12_best_139 : decode mX12_best.2.1 139 = .ok (.ireturn, 1) := by decide +kernel
theorem dX12_adds_0 : decode mX12_adds.2.1 0 = .ok (.aload_n 0, 1) := by decide +kernel
theorem dX12_adds_1 : decode mX12_adds.2.1 1 = .ok (.iconst 0, 1) := by decide +kernel
theorem dX12_adds_2 : decode mX12_adds.2.1 2 = .ok (.putfield 3, 3) := by decide +kernel
theorem dX12_adds_5 : decode mX12_adds.2.1 5 = .ok (.aload_n 0, 1) := by decide +kernel
theorem dX12_adds_6 : decode mX12_adds.2.1 6 = .ok (.iload_n 1, 1) := by decide +kernel
theorem dX12_adds_7 : decode mX12_adds.2.1 7 = .ok (.invokevirtual 343, 3) := by decide +kernel
theorem dX12_adds_10 : decode mX12_adds.2.1 10 = .ok (.ifCond .ne 5, 3) := by decide +kernel
theorem dX12_adds_13 : decode mX12_adds.2.1 13 = .ok (.iconst (-1), 1) := by decide +kernel
theorem dX12_adds_14 : decode mX12_adds.2.1 14 = .ok (.ireturn, 1) := by decide +kernel
theorem dX12_adds_15 : decode mX12_adds.2.1 15 = .ok (.aload_n 0, 1) := by decide +kernel
theorem dX12_adds_16 : decode mX12_adds.2.1 16 = .ok (.getfield 49, 3) := by decide +kernel
theorem dX12_adds_19 : decode mX12_adds.2.1 19 = .ok (.bipush 16, 2) := by decide +kernel
theorem dX12_adds_21 : decode mX12_adds.2.1 21 = .ok (.iload_n 1, 1) := by decide +kernel
theorem dX12_adds_22 : decode mX12_adds.2.1 22 = .ok (.iadd, 1) := by decide +kernel
theorem dX12_adds_23 : decode mX12_adds.2.1 23 = .ok (.iaload, 1) := by decide +kernel
theorem dX12_adds_24 : decode mX12_adds.2.1 24 = .ok (.istore_n 2, 1) := by decide +kernel
theorem dX12_adds_25 : decode mX12_adds.2.1 25 = .ok (.iload_n 2, 1) := by decide +kernel
theorem dX12_adds_26 : decode mX12_adds.2.1 26 = .ok (.ifCond .ge 6, 3) := by decide +kernel
theorem dX12_adds_29 : decode mX12_adds.2.1 29 = .ok (.bipush (-2), 2) := by decide +kernel
theorem dX12_adds_31 : decode mX12_adds.2.1 31 = .ok (.ireturn, 1) := by decide +kernel
theorem dX12_adds_32 : decode mX12_adds.2.1 32 = .ok (.aload_n 0, 1) := by decide +kernel
theorem dX12_adds_33 : decode mX12_adds.2.1 33 = .ok (.aload_n 0, 1) := by decide +kernel
theorem dX12_adds_34 : decode mX12_adds.2.1 34 = .ok (.getfield 49, 3) := by decide +kernel
theorem dX12_adds_37 : decode mX12_adds.2.1 37 = .ok (.iload_n 2, 1) := by decide +kernel
theorem dX12_adds_38 : decode mX12_adds.2.1 38 = .ok (.invokevirtual 325, 3) := by decide +kernel
theorem dX12_adds_41 : decode mX12_adds.2.1 41 = .ok (.iconst 1, 1) := by decide +kernel
theorem dX12_adds_42 : decode mX12_adds.2.1 42 = .ok (.iload_n 1, 1) := by decide +kernel
theorem dX12_adds_43 : decode mX12_adds.2.1 43 = .ok (.ishl, 1) := by decide +kernel
theorem dX12_adds_44 : decode mX12_adds.2.1 44 = .ok (.iconst (-1), 1) := by decide +kernel
theorem dX12_adds_45 : decode mX12_adds.2.1 45 = .ok (.ixor, 1) := by decide +kernel
theorem dX12_adds_46 : decode mX12_adds.2.1 46 = .ok (.iand, 1) := by decide +kernel
theorem dX12_adds_47 : decode mX12_adds.2.1 47 = .ok (.istore_n 3, 1) := by decide +kernel
theorem dX12_adds_48 : decode mX12_adds.2.1 48 = .ok (.iconst 0, 1) := by decide +kernel
theorem dX12_adds_49 : decode mX12_adds.2.1 49 = .ok (.istore 4, 2) := by decide +kernel
theorem dX12_adds_51 : decode mX12_adds.2.1 51 = .ok (.iconst 0, 1) := by decide +kernel
theorem dX12_adds_52 : decode mX12_adds.2.1 52 = .ok (.istore 5, 2) := by decide +kernel
theorem dX12_adds_54 : decode mX12_adds.2.1 54 = .ok (.iload 5, 2) := by decide +kernel
theorem dX12_adds_56 : decode mX12_adds.2.1 56 = .ok (.iload_n 3, 1) := by decide +kernel
theorem dX12_adds_57 : decode mX12_adds.2.1 57 = .ok (.if_icmp .gt 72, 3) := by decide +kernel
theorem dX12_adds_60 : decode mX12_adds.2.1 60 = .ok (.iload 5, 2) := by decide +kernel
theorem dX12_adds_62 : decode mX12_adds.2.1 62 = .ok (.iload_n 3, 1) := by decide +kernel
theorem dX12_adds_63 : decode mX12_adds.2.1 63 = .ok (.iconst (-1), 1) := by decide +kernel
theorem dX12_adds_64 : decode mX12_adds.2.1 64 = .ok (.ixor, 1) := by decide +kernel
theorem dX12_adds_65 : decode mX12_adds.2.1 65 = .ok (.iand, 1) := by decide +kernel
theorem dX12_adds_66 : decode mX12_adds.2.1 66 = .ok (.ifCond .ne 7, 3) := by decide +kernel
theorem dX12_adds_69 : decode mX12_adds.2.1 69 = .ok (.iconst 1, 1) := by decide +kernel
theorem dX12_adds_70 : decode mX12_adds.2.1 70 = .ok (.goto 4, 3) := by decide +kernel
theorem dX12_adds_73 : decode mX12_adds.2.1 73 = .ok (.iconst 0, 1) := by decide +kernel
theorem dX12_adds_74 : decode mX12_adds.2.1 74 = .ok (.istore 6, 2) := by decide +kernel
theorem dX12_adds_76 : decode mX12_adds.2.1 76 = .ok (.iload 4, 2) := by decide +kernel
theorem dX12_adds_78 : decode mX12_adds.2.1 78 = .ok (.iload 6, 2) := by decide +kernel
theorem dX12_adds_80 : decode mX12_adds.2.1 80 = .ok (.ifCond .eq 36, 3) := by decide +kernel
theorem dX12_adds_83 : decode mX12_adds.2.1 83 = .ok (.aload_n 0, 1) := by decide +kernel
theorem dX12_adds_84 : decode mX12_adds.2.1 84 = .ok (.aload_n 0, 1) := by decide +kernel
theorem dX12_adds_85 : decode mX12_adds.2.1 85 = .ok (.getfield 49, 3) := by decide +kernel
theorem dX12_adds_88 : decode mX12_adds.2.1 88 = .ok (.iload_n 2, 1) := by decide +kernel
theorem dX12_adds_89 : decode mX12_adds.2.1 89 = .ok (.iload 5, 2) := by decide +kernel
theorem dX12_adds_91 : decode mX12_adds.2.1 91 = .ok (.invokevirtual 328, 3) := by decide +kernel
theorem dX12_adds_94 : decode mX12_adds.2.1 94 = .ok (.aload_n 0, 1) := by decide +kernel
theorem dX12_adds_95 : decode mX12_adds.2.1 95 = .ok (.aload_n 0, 1) := by decide +kernel
theorem dX12_adds_96 : decode mX12_adds.2.1 96 = .ok (.getfield 49, 3) := by decide +kernel
theorem dX12_adds_99 : decode mX12_adds.2.1 99 = .ok (.iload_n 2, 1) := by decide +kernel
theorem dX12_adds_100 : decode mX12_adds.2.1 100 = .ok (.iload 5, 2) := by decide +kernel
theorem dX12_adds_102 : decode mX12_adds.2.1 102 = .ok (.iconst 1, 1) := by decide +kernel
theorem dX12_adds_103 : decode mX12_adds.2.1 103 = .ok (.iload_n 1, 1) := by decide +kernel
theorem dX12_adds_104 : decode mX12_adds.2.1 104 = .ok (.ishl, 1) := by decide +kernel
theorem dX12_adds_105 : decode mX12_adds.2.1 105 = .ok (.ior, 1) := by decide +kernel
theorem dX12_adds_106 : decode mX12_adds.2.1 106 = .ok (.invokevirtual 328, 3) := by decide +kernel
theorem dX12_adds_109 : decode mX12_adds.2.1 109 = .ok (.if_icmp .eq 7, 3) := by decide +kernel
theorem dX12_adds_112 : decode mX12_adds.2.1 112 = .ok (.iconst 1, 1) := by decide +kernel
theorem dX12_adds_113 : decode mX12_adds.2.1 113 = .ok (.goto 4, 3) := by decide +kernel
theorem dX12_adds_116 : decode mX12_adds.2.1 116 = .ok (.iconst 0, 1) := by decide +kernel
theorem dX12_adds_117 : decode mX12_adds.2.1 117 = .ok (.invokestatic 175, 3) := by decide +kernel
theorem dX12_adds_120 : decode mX12_adds.2.1 120 = .ok (.iadd, 1) := by decide +kernel
theorem dX12_adds_121 : decode mX12_adds.2.1 121 = .ok (.istore 4, 2) := by decide +kernel
theorem dX12_adds_123 : decode mX12_adds.2.1 123 = .ok (.iinc 5 1, 3) := by decide +kernel
theorem dX12_adds_126 : decode mX12_adds.2.1 126 = .ok (.goto (-72), 3) := by decide +kernel
theorem dX12_adds_129 : decode mX12_adds.2.1 129 = .ok (.aload_n 0, 1) := by decide +kernel
theorem dX12_adds_130 : decode mX12_adds.2.1 130 = .ok (.iconst 0, 1) := by decide +kernel
theorem dX12_adds_131 : decode mX12_adds.2.1 131 = .ok (.putfield 15, 3) := by decide +kernel
theorem dX12_adds_134 : decode mX12_adds.2.1 134 = .ok (.aload_n 0, 1) := by decide +kernel
theorem dX12_adds_135 : decode mX12_adds.2.1 135 = .ok (.iconst 1, 1) := by decide +kernel
theorem dX12_adds_136 : decode mX12_adds.2.1 136 = .ok (.iload_n 3, 1) := by decide +kernel
theorem dX12_adds_137 : decode mX12_adds.2.1 137 = .ok (.invokestatic 300, 3) := by decide +kernel
theorem dX12_adds_140 : decode mX12_adds.2.1 140 = .ok (.ishl, 1) := by decide +kernel
theorem dX12_adds_141 : decode mX12_adds.2.1 141 = .ok (.i2l, 1) := by decide +kernel
theorem dX12_adds_142 : decode mX12_adds.2.1 142 = .ok (.invokevirtual 387, 3) := by decide +kernel
theorem dX12_adds_145 : decode mX12_adds.2.1 145 = .ok (.iload 4, 2) := by decide +kernel
theorem dX12_adds_147 : decode mX12_adds.2.1 147 = .ok (.ireturn, 1) := by decide +kernel
theorem dX12_isBeing_0 : decode mX12_isBeing.2.1 0 = .ok (.iload_n 1, 1) := by decide +kernel
theorem dX12_isBeing_1 : decode mX12_isBeing.2.1 1 = .ok (.i2l, 1) := by decide +kernel
theorem dX12_isBeing_2 : decode mX12_isBeing.2.1 2 = .ok (.lconst 0, 1) := by decide +kernel
theorem dX12_isBeing_3 : decode mX12_isBeing.2.1 3 = .ok (.ldc2_w 414, 3) := by decide +kernel
theorem dX12_isBeing_6 : decode mX12_isBeing.2.1 6 = .ok (.invokestatic 143, 3) := by decide +kernel
theorem dX12_isBeing_9 : decode mX12_isBeing.2.1 9 = .ok (.ifCond .eq 19, 3) := by decide +kernel
theorem dX12_isBeing_12 : decode mX12_isBeing.2.1 12 = .ok (.iload_n 2, 1) := by decide +kernel
theorem dX12_isBeing_13 : decode mX12_isBeing.2.1 13 = .ok (.i2l, 1) := by decide +kernel
theorem dX12_isBeing_14 : decode mX12_isBeing.2.1 14 = .ok (.lconst 0, 1) := by decide +kernel
theorem dX12_isBeing_15 : decode mX12_isBeing.2.1 15 = .ok (.ldc2_w 416, 3) := by decide +kernel
theorem dX12_isBeing_18 : decode mX12_isBeing.2.1 18 = .ok (.invokestatic 143, 3) := by decide +kernel
theorem dX12_isBeing_21 : decode mX12_isBeing.2.1 21 = .ok (.ifCond .eq 7, 3) := by decide +kernel
theorem dX12_isBeing_24 : decode mX12_isBeing.2.1 24 = .ok (.iconst 1, 1) := by decide +kernel
theorem dX12_isBeing_25 : decode mX12_isBeing.2.1 25 = .ok (.goto 4, 3) := by decide +kernel
theorem dX12_isBeing_28 : decode mX12_isBeing.2.1 28 = .ok (.iconst 0, 1) := by decide +kernel
theorem dX12_isBeing_29 : decode mX12_isBeing.2.1 29 = .ok (.ireturn, 1) := by decide +kernel
theorem dX12_laysDark_0 : decode mX12_laysDark.2.1 0 = .ok (.iconst 0, 1) := by decide +kernel
theorem dX12_laysDark_1 : decode mX12_laysDark.2.1 1 = .ok (.istore 4, 2) := by decide +kernel
theorem dX12_laysDark_3 : decode mX12_laysDark.2.1 3 = .ok (.iconst 0, 1) := by decide +kernel
theorem dX12_laysDark_4 : decode mX12_laysDark.2.1 4 = .ok (.istore 5, 2) := by decide +kernel
theorem dX12_laysDark_6 : decode mX12_laysDark.2.1 6 = .ok (.iload 5, 2) := by decide +kernel
theorem dX12_laysDark_8 : decode mX12_laysDark.2.1 8 = .ok (.aload_n 0, 1) := by decide +kernel
theorem dX12_laysDark_9 : decode mX12_laysDark.2.1 9 = .ok (.getfield 24, 3) := by decide +kernel
theorem dX12_laysDark_12 : decode mX12_laysDark.2.1 12 = .ok (.aload_n 0, 1) := by decide +kernel
theorem dX12_laysDark_13 : decode mX12_laysDark.2.1 13 = .ok (.getfield 27, 3) := by decide +kernel
theorem dX12_laysDark_16 : decode mX12_laysDark.2.1 16 = .ok (.imul, 1) := by decide +kernel
theorem dX12_laysDark_17 : decode mX12_laysDark.2.1 17 = .ok (.if_icmp .ge 48, 3) := by decide +kernel
theorem dX12_laysDark_20 : decode mX12_laysDark.2.1 20 = .ok (.aload_n 0, 1) := by decide +kernel
theorem dX12_laysDark_21 : decode mX12_laysDark.2.1 21 = .ok (.getfield 94, 3) := by decide +kernel
theorem dX12_laysDark_24 : decode mX12_laysDark.2.1 24 = .ok (.iload 5, 2) := by decide +kernel
theorem dX12_laysDark_26 : decode mX12_laysDark.2.1 26 = .ok (.aload_n 0, 1) := by decide +kernel
theorem dX12_laysDark_27 : decode mX12_laysDark.2.1 27 = .ok (.aload_n 1, 1) := by decide +kernel
theorem dX12_laysDark_28 : decode mX12_laysDark.2.1 28 = .ok (.iload 5, 2) := by decide +kernel
theorem dX12_laysDark_30 : decode mX12_laysDark.2.1 30 = .ok (.iload_n 2, 1) := by decide +kernel
theorem dX12_laysDark_31 : decode mX12_laysDark.2.1 31 = .ok (.iload_n 3, 1) := by decide +kernel
theorem dX12_laysDark_32 : decode mX12_laysDark.2.1 32 = .ok (.invokevirtual 418, 3) := by decide +kernel
theorem dX12_laysDark_35 : decode mX12_laysDark.2.1 35 = .ok (.ifCond .ne 7, 3) := by decide +kernel
theorem dX12_laysDark_38 : decode mX12_laysDark.2.1 38 = .ok (.iconst 1, 1) := by decide +kernel
theorem dX12_laysDark_39 : decode mX12_laysDark.2.1 39 = .ok (.goto 4, 3) := by decide +kernel
theorem dX12_laysDark_42 : decode mX12_laysDark.2.1 42 = .ok (.iconst 0, 1) := by decide +kernel
theorem dX12_laysDark_43 : decode mX12_laysDark.2.1 43 = .ok (.bastore, 1) := by decide +kernel
theorem dX12_laysDark_44 : decode mX12_laysDark.2.1 44 = .ok (.iload 4, 2) := by decide +kernel
theorem dX12_laysDark_46 : decode mX12_laysDark.2.1 46 = .ok (.aload_n 0, 1) := by decide +kernel
theorem dX12_laysDark_47 : decode mX12_laysDark.2.1 47 = .ok (.getfield 94, 3) := by decide +kernel
theorem dX12_laysDark_50 : decode mX12_laysDark.2.1 50 = .ok (.iload 5, 2) := by decide +kernel
theorem dX12_laysDark_52 : decode mX12_laysDark.2.1 52 = .ok (.baload, 1) := by decide +kernel
theorem dX12_laysDark_53 : decode mX12_laysDark.2.1 53 = .ok (.invokestatic 175, 3) := by decide +kernel
theorem dX12_laysDark_56 : decode mX12_laysDark.2.1 56 = .ok (.iadd, 1) := by decide +kernel
theorem dX12_laysDark_57 : decode mX12_laysDark.2.1 57 = .ok (.istore 4, 2) := by decide +kernel
theorem dX12_laysDark_59 : decode mX12_laysDark.2.1 59 = .ok (.iinc 5 1, 3) := by decide +kernel
theorem dX12_laysDark_62 : decode mX12_laysDark.2.1 62 = .ok (.goto (-56), 3) := by decide +kernel
theorem dX12_laysDark_65 : decode mX12_laysDark.2.1 65 = .ok (.iload 4, 2) := by decide +kernel
theorem dX12_laysDark_67 : decode mX12_laysDark.2.1 67 = .ok (.ireturn, 1) := by decide +kernel
theorem dX12_steals_0 : decode mX12_steals.2.1 0 = .ok (.aload_n 0, 1) := by decide +kernel
theorem dX12_steals_1 : decode mX12_steals.2.1 1 = .ok (.iconst 0, 1) := by decide +kernel
theorem dX12_steals_2 : decode mX12_steals.2.1 2 = .ok (.putfield 3, 3) := by decide +kernel
theorem dX12_steals_5 : decode mX12_steals.2.1 5 = .ok (.aload_n 0, 1) := by decide +kernel
theorem dX12_steals_6 : decode mX12_steals.2.1 6 = .ok (.iload_n 1, 1) := by decide +kernel
theorem dX12_steals_7 : decode mX12_steals.2.1 7 = .ok (.invokevirtual 364, 3) := by decide +kernel
theorem dX12_steals_10 : decode mX12_steals.2.1 10 = .ok (.ifCond .eq 21, 3) := by decide +kernel
theorem dX12_steals_13 : decode mX12_steals.2.1 13 = .ok (.aload_n 0, 1) := by decide +kernel
theorem dX12_steals_14 : decode mX12_steals.2.1 14 = .ok (.iload_n 2, 1) := by decide +kernel
theorem dX12_steals_15 : decode mX12_steals.2.1 15 = .ok (.invokevirtual 364, 3) := by decide +kernel
theorem dX12_steals_18 : decode mX12_steals.2.1 18 = .ok (.ifCond .eq 13, 3) := by decide +kernel
theorem dX12_steals_21 : decode mX12_steals.2.1 21 = .ok (.aload_n 0, 1) := by decide +kernel
theorem dX12_steals_22 : decode mX12_steals.2.1 22 = .ok (.iload_n 3, 1) := by decide +kernel
theorem dX12_steals_23 : decode mX12_steals.2.1 23 = .ok (.iload 4, 2) := by decide +kernel
theorem dX12_steals_25 : decode mX12_steals.2.1 25 = .ok (.invokevirtual 421, 3) := by decide +kernel
theorem dX12_steals_28 : decode mX12_steals.2.1 28 = .ok (.ifCond .ne 5, 3) := by decide +kernel
theorem dX12_steals_31 : decode mX12_steals.2.1 31 = .ok (.iconst (-1), 1) := by decide +kernel
theorem dX12_steals_32 : decode mX12_steals.2.1 32 = .ok (.ireturn, 1) := by decide +kernel
theorem dX12_steals_33 : decode mX12_steals.2.1 33 = .ok (.aload_n 0, 1) := by decide +kernel
theorem dX12_steals_34 : decode mX12_steals.2.1 34 = .ok (.aload_n 0, 1) := by decide +kernel
theorem dX12_steals_35 : decode mX12_steals.2.1 35 = .ok (.getfield 49, 3) := by decide +kernel
theorem dX12_steals_38 : decode mX12_steals.2.1 38 = .ok (.iload_n 3, 1) := by decide +kernel
theorem dX12_steals_39 : decode mX12_steals.2.1 39 = .ok (.iload 4, 2) := by decide +kernel
theorem dX12_steals_41 : decode mX12_steals.2.1 41 = .ok (.invokevirtual 424, 3) := by decide +kernel
theorem dX12_steals_44 : decode mX12_steals.2.1 44 = .ok (.pop, 1) := by decide +kernel
theorem dX12_steals_45 : decode mX12_steals.2.1 45 = .ok (.iconst 0, 1) := by decide +kernel
theorem dX12_steals_46 : decode mX12_steals.2.1 46 = .ok (.istore 5, 2) := by decide +kernel
theorem dX12_steals_48 : decode mX12_steals.2.1 48 = .ok (.iload 5, 2) := by decide +kernel
theorem dX12_steals_50 : decode mX12_steals.2.1 50 = .ok (.aload_n 0, 1) := by decide +kernel
theorem dX12_steals_51 : decode mX12_steals.2.1 51 = .ok (.getfield 24, 3) := by decide +kernel
theorem dX12_steals_54 : decode mX12_steals.2.1 54 = .ok (.aload_n 0, 1) := by decide +kernel
theorem dX12_steals_55 : decode mX12_steals.2.1 55 = .ok (.getfield 27, 3) := by decide +kernel
theorem dX12_steals_58 : decode mX12_steals.2.1 58 = .ok (.imul, 1) := by decide +kernel
theorem dX12_steals_59 : decode mX12_steals.2.1 59 = .ok (.if_icmp .ge 39, 3) := by decide +kernel
theorem dX12_steals_62 : decode mX12_steals.2.1 62 = .ok (.aload_n 0, 1) := by decide +kernel
theorem dX12_steals_63 : decode mX12_steals.2.1 63 = .ok (.getfield 98, 3) := by decide +kernel
theorem dX12_steals_66 : decode mX12_steals.2.1 66 = .ok (.iload 5, 2) := by decide +kernel
theorem dX12_steals_68 : decode mX12_steals.2.1 68 = .ok (.iload 5, 2) := by decide +kernel
theorem dX12_steals_70 : decode mX12_steals.2.1 70 = .ok (.iload_n 2, 1) := by decide +kernel
theorem dX12_steals_71 : decode mX12_steals.2.1 71 = .ok (.if_icmp .ne 17, 3) := by decide +kernel
theorem dX12_steals_74 : decode mX12_steals.2.1 74 = .ok (.aload_n 0, 1) := by decide +kernel
theorem dX12_steals_75 : decode mX12_steals.2.1 75 = .ok (.getfield 94, 3) := by decide +kernel
theorem dX12_steals_78 : decode mX12_steals.2.1 78 = .ok (.iload 5, 2) := by decide +kernel
theorem dX12_steals_80 : decode mX12_steals.2.1 80 = .ok (.baload, 1) := by decide +kernel
theorem dX12_steals_81 : decode mX12_steals.2.1 81 = .ok (.ifCond .eq 7, 3) := by decide +kernel
theorem dX12_steals_84 : decode mX12_steals.2.1 84 = .ok (.iconst 0, 1) := by decide +kernel
theorem dX12_steals_85 : decode mX12_steals.2.1 85 = .ok (.goto 6, 3) := by decide +kernel
theorem dX12_steals_88 : decode mX12_steals.2.1 88 = .ok (.ldc_w 413, 3) := by decide +kernel
theorem dX12_steals_91 : decode mX12_steals.2.1 91 = .ok (.iastore, 1) := by decide +kernel
theorem dX12_steals_92 : decode mX12_steals.2.1 92 = .ok (.iinc 5 1, 3) := by decide +kernel
theorem dX12_steals_95 : decode mX12_steals.2.1 95 = .ok (.goto (-47), 3) := by decide +kernel
theorem dX12_steals_98 : decode mX12_steals.2.1 98 = .ok (.iconst 0, 1) := by decide +kernel
theorem dX12_steals_99 : decode mX12_steals.2.1 99 = .ok (.istore 5, 2) := by decide +kernel
theorem dX12_steals_101 : decode mX12_steals.2.1 101 = .ok (.iload 5, 2) := by decide +kernel
theorem dX12_steals_103 : decode mX12_steals.2.1 103 = .ok (.aload_n 0, 1) := by decide +kernel
theorem dX12_steals_104 : decode mX12_steals.2.1 104 = .ok (.getfield 24, 3) := by decide +kernel
theorem dX12_steals_107 : decode mX12_steals.2.1 107 = .ok (.aload_n 0, 1) := by decide +kernel
theorem dX12_steals_108 : decode mX12_steals.2.1 108 = .ok (.getfield 27, 3) := by decide +kernel
theorem dX12_steals_111 : decode mX12_steals.2.1 111 = .ok (.imul, 1) := by decide +kernel
theorem dX12_steals_112 : decode mX12_steals.2.1 112 = .ok (.if_icmp .ge 108, 3) := by decide +kernel
theorem dX12_steals_115 : decode mX12_steals.2.1 115 = .ok (.iconst 0, 1) := by decide +kernel
theorem dX12_steals_116 : decode mX12_steals.2.1 116 = .ok (.istore 6, 2) := by decide +kernel
theorem dX12_steals_118 : decode mX12_steals.2.1 118 = .ok (.iload 6, 2) := by decide +kernel
theorem dX12_steals_120 : decode mX12_steals.2.1 120 = .ok (.aload_n 0, 1) := by decide +kernel
theorem dX12_steals_121 : decode mX12_steals.2.1 121 = .ok (.getfield 24, 3) := by decide +kernel
theorem dX12_steals_124 : decode mX12_steals.2.1 124 = .ok (.aload_n 0, 1) := by decide +kernel
theorem dX12_steals_125 : decode mX12_steals.2.1 125 = .ok (.getfield 27, 3) := by decide +kernel
theorem dX12_steals_128 : decode mX12_steals.2.1 128 = .ok (.imul, 1) := by decide +kernel
theorem dX12_steals_129 : decode mX12_steals.2.1 129 = .ok (.if_icmp .ge 85, 3) := by decide +kernel
theorem dX12_steals_132 : decode mX12_steals.2.1 132 = .ok (.iconst 0, 1) := by decide +kernel
theorem dX12_steals_133 : decode mX12_steals.2.1 133 = .ok (.istore 7, 2) := by decide +kernel
theorem dX12_steals_135 : decode mX12_steals.2.1 135 = .ok (.iload 7, 2) := by decide +kernel
theorem dX12_steals_137 : decode mX12_steals.2.1 137 = .ok (.iconst 4, 1) := by decide +kernel
theorem dX12_steals_138 : decode mX12_steals.2.1 138 = .ok (.if_icmp .ge 70, 3) := by decide +kernel
theorem dX12_steals_141 : decode mX12_steals.2.1 141 = .ok (.aload_n 0, 1) := by decide +kernel
theorem dX12_steals_142 : decode mX12_steals.2.1 142 = .ok (.iload 6, 2) := by decide +kernel
theorem dX12_steals_144 : decode mX12_steals.2.1 144 = .ok (.iload 7, 2) := by decide +kernel
theorem dX12_steals_146 : decode mX12_steals.2.1 146 = .ok (.invokevirtual 357, 3) := by decide +kernel
theorem dX12_steals_149 : decode mX12_steals.2.1 149 = .ok (.istore 8, 2) := by decide +kernel
theorem dX12_steals_151 : decode mX12_steals.2.1 151 = .ok (.aload_n 0, 1) := by decide +kernel
theorem dX12_steals_152 : decode mX12_steals.2.1 152 = .ok (.getfield 98, 3) := by decide +kernel
theorem dX12_steals_155 : decode mX12_steals.2.1 155 = .ok (.iload 6, 2) := by decide +kernel
theorem dX12_steals_157 : decode mX12_steals.2.1 157 = .ok (.iload 8, 2) := by decide +kernel
theorem dX12_steals_159 : decode mX12_steals.2.1 159 = .ok (.ifCond .lt 35, 3) := by decide +kernel
theorem dX12_steals_162 : decode mX12_steals.2.1 162 = .ok (.aload_n 0, 1) := by decide +kernel
theorem dX12_steals_163 : decode mX12_steals.2.1 163 = .ok (.getfield 94, 3) := by decide +kernel
theorem dX12_steals_166 : decode mX12_steals.2.1 166 = .ok (.iload 6, 2) := by decide +kernel
theorem dX12_steals_168 : decode mX12_steals.2.1 168 = .ok (.baload, 1) := by decide +kernel
theorem dX12_steals_169 : decode mX12_steals.2.1 169 = .ok (.ifCond .eq 25, 3) := by decide +kernel
theorem dX12_steals_172 : decode mX12_steals.2.1 172 = .ok (.aload_n 0, 1) := by decide +kernel
theorem dX12_steals_173 : decode mX12_steals.2.1 173 = .ok (.getfield 98, 3) := by decide +kernel
theorem dX12_steals_176 : decode mX12_steals.2.1 176 = .ok (.iload 6, 2) := by decide +kernel
theorem dX12_steals_178 : decode mX12_steals.2.1 178 = .ok (.iaload, 1) := by decide +kernel
theorem dX12_steals_179 : decode mX12_steals.2.1 179 = .ok (.aload_n 0, 1) := by decide +kernel
theorem dX12_steals_180 : decode mX12_steals.2.1 180 = .ok (.getfield 98, 3) := by decide +kernel
theorem dX12_steals_183 : decode mX12_steals.2.1 183 = .ok (.iload 8, 2) := by decide +kernel
theorem dX12_steals_185 : decode mX12_steals.2.1 185 = .ok (.iaload, 1) := by decide +kernel
theorem dX12_steals_186 : decode mX12_steals.2.1 186 = .ok (.iconst 1, 1) := by decide +kernel
theorem dX12_steals_187 : decode mX12_steals.2.1 187 = .ok (.iadd, 1) := by decide +kernel
theorem dX12_steals_188 : decode mX12_steals.2.1 188 = .ok (.invokestatic 168, 3) := by decide +kernel
theorem dX12_steals_191 : decode mX12_steals.2.1 191 = .ok (.goto 10, 3) := by decide +kernel
theorem dX12_steals_194 : decode mX12_steals.2.1 194 = .ok (.aload_n 0, 1) := by decide +kernel
theorem dX12_steals_195 : decode mX12_steals.2.1 195 = .ok (.getfield 98, 3) := by decide +kernel
theorem dX12_steals_198 : decode mX12_steals.2.1 198 = .ok (.iload 6, 2) := by decide +kernel
theorem dX12_steals_200 : decode mX12_steals.2.1 200 = .ok (.iaload, 1) := by decide +kernel
theorem dX12_steals_201 : decode mX12_steals.2.1 201 = .ok (.iastore, 1) := by decide +kernel
theorem dX12_steals_202 : decode mX12_steals.2.1 202 = .ok (.iinc 7 1, 3) := by decide +kernel
theorem dX12_steals_205 : decode mX12_steals.2.1 205 = .ok (.goto (-70), 3) := by decide +kernel
theorem dX12_steals_208 : decode mX12_steals.2.1 208 = .ok (.iinc 6 1, 3) := by decide +kernel
theorem dX12_steals_211 : decode mX12_steals.2.1 211 = .ok (.goto (-93), 3) := by decide +kernel
theorem dX12_steals_214 : decode mX12_steals.2.1 214 = .ok (.iinc 5 1, 3) := by decide +kernel
theorem dX12_steals_217 : decode mX12_steals.2.1 217 = .ok (.goto (-116), 3) := by decide +kernel
theorem dX12_steals_220 : decode mX12_steals.2.1 220 = .ok (.aload_n 0, 1) := by decide +kernel
theorem dX12_steals_221 : decode mX12_steals.2.1 221 = .ok (.getfield 98, 3) := by decide +kernel
theorem dX12_steals_224 : decode mX12_steals.2.1 224 = .ok (.iload_n 1, 1) := by decide +kernel
theorem dX12_steals_225 : decode mX12_steals.2.1 225 = .ok (.iaload, 1) := by decide +kernel
theorem dX12_steals_226 : decode mX12_steals.2.1 226 = .ok (.ldc_w 413, 3) := by decide +kernel
theorem dX12_steals_229 : decode mX12_steals.2.1 229 = .ok (.if_icmp .lt 6, 3) := by decide +kernel
theorem dX12_steals_232 : decode mX12_steals.2.1 232 = .ok (.bipush (-2), 2) := by decide +kernel
theorem dX12_steals_234 : decode mX12_steals.2.1 234 = .ok (.ireturn, 1) := by decide +kernel
theorem dX12_steals_235 : decode mX12_steals.2.1 235 = .ok (.aload_n 0, 1) := by decide +kernel
theorem dX12_steals_236 : decode mX12_steals.2.1 236 = .ok (.iconst 0, 1) := by decide +kernel
theorem dX12_steals_237 : decode mX12_steals.2.1 237 = .ok (.putfield 15, 3) := by decide +kernel
theorem dX12_steals_240 : decode mX12_steals.2.1 240 = .ok (.iload_n 1, 1) := by decide +kernel
theorem dX12_steals_241 : decode mX12_steals.2.1 241 = .ok (.istore 5, 2) := by decide +kernel
theorem dX12_steals_243 : decode mX12_steals.2.1 243 = .ok (.aload_n 0, 1) := by decide +kernel
theorem dX12_steals_244 : decode mX12_steals.2.1 244 = .ok (.iload 5, 2) := by decide +kernel
theorem dX12_steals_246 : decode mX12_steals.2.1 246 = .ok (.i2l, 1) := by decide +kernel
theorem dX12_steals_247 : decode mX12_steals.2.1 247 = .ok (.invokevirtual 387, 3) := by decide +kernel
theorem dX12_steals_250 : decode mX12_steals.2.1 250 = .ok (.iload 5, 2) := by decide +kernel
theorem dX12_steals_252 : decode mX12_steals.2.1 252 = .ok (.iload_n 2, 1) := by decide +kernel
theorem dX12_steals_253 : decode mX12_steals.2.1 253 = .ok (.if_icmp .eq 88, 3) := by decide +kernel
theorem dX12_steals_256 : decode mX12_steals.2.1 256 = .ok (.iconst (-1), 1) := by decide +kernel
theorem dX12_steals_257 : decode mX12_steals.2.1 257 = .ok (.istore 6, 2) := by decide +kernel
theorem dX12_steals_259 : decode mX12_steals.2.1 259 = .ok (.iconst 0, 1) := by decide +kernel
theorem dX12_steals_260 : decode mX12_steals.2.1 260 = .ok (.istore 7, 2) := by decide +kernel
theorem dX12_steals_262 : decode mX12_steals.2.1 262 = .ok (.iload 7, 2) := by decide +kernel
theorem dX12_steals_264 : decode mX12_steals.2.1 264 = .ok (.aload_n 0, 1) := by decide +kernel
theorem dX12_steals_265 : decode mX12_steals.2.1 265 = .ok (.getfield 24, 3) := by decide +kernel
theorem dX12_steals_268 : decode mX12_steals.2.1 268 = .ok (.aload_n 0, 1) := by decide +kernel
theorem dX12_steals_269 : decode mX12_steals.2.1 269 = .ok (.getfield 27, 3) := by decide +kernel
theorem dX12_steals_272 : decode mX12_steals.2.1 272 = .ok (.imul, 1) := by decide +kernel
theorem dX12_steals_273 : decode mX12_steals.2.1 273 = .ok (.if_icmp .ge 54, 3) := by decide +kernel
theorem dX12_steals_276 : decode mX12_steals.2.1 276 = .ok (.iload 6, 2) := by decide +kernel
theorem dX12_steals_278 : decode mX12_steals.2.1 278 = .ok (.ifCond .ge 39, 3) := by decide +kernel
theorem dX12_steals_281 : decode mX12_steals.2.1 281 = .ok (.aload_n 0, 1) := by decide +kernel
theorem dX12_steals_282 : decode mX12_steals.2.1 282 = .ok (.iload 5, 2) := by decide +kernel
theorem dX12_steals_284 : decode mX12_steals.2.1 284 = .ok (.iload 7, 2) := by decide +kernel
theorem dX12_steals_286 : decode mX12_steals.2.1 286 = .ok (.invokevirtual 312, 3) := by decide +kernel
theorem dX12_steals_289 : decode mX12_steals.2.1 289 = .ok (.iconst 1, 1) := by decide +kernel
theorem dX12_steals_290 : decode mX12_steals.2.1 290 = .ok (.if_icmp .ne 27, 3) := by decide +kernel
theorem dX12_steals_293 : decode mX12_steals.2.1 293 = .ok (.aload_n 0, 1) := by decide +kernel
theorem dX12_steals_294 : decode mX12_steals.2.1 294 = .ok (.getfield 98, 3) := by decide +kernel
theorem dX12_steals_297 : decode mX12_steals.2.1 297 = .ok (.iload 7, 2) := by decide +kernel
theorem dX12_steals_299 : decode mX12_steals.2.1 299 = .ok (.iaload, 1) := by decide +kernel
theorem dX12_steals_300 : decode mX12_steals.2.1 300 = .ok (.aload_n 0, 1) := by decide +kernel
theorem dX12_steals_301 : decode mX12_steals.2.1 301 = .ok (.getfield 98, 3) := by decide +kernel
theorem dX12_steals_304 : decode mX12_steals.2.1 304 = .ok (.iload 5, 2) := by decide +kernel
theorem dX12_steals_306 : decode mX12_steals.2.1 306 = .ok (.iaload, 1) := by decide +kernel
theorem dX12_steals_307 : decode mX12_steals.2.1 307 = .ok (.iconst 1, 1) := by decide +kernel
theorem dX12_steals_308 : decode mX12_steals.2.1 308 = .ok (.isub, 1) := by decide +kernel
theorem dX12_steals_309 : decode mX12_steals.2.1 309 = .ok (.if_icmp .ne 8, 3) := by decide +kernel
theorem dX12_steals_312 : decode mX12_steals.2.1 312 = .ok (.iload 7, 2) := by decide +kernel
theorem dX12_steals_314 : decode mX12_steals.2.1 314 = .ok (.goto 5, 3) := by decide +kernel
theorem dX12_steals_317 : decode mX12_steals.2.1 317 = .ok (.iload 6, 2) := by decide +kernel
theorem dX12_steals_319 : decode mX12_steals.2.1 319 = .ok (.istore 6, 2) := by decide +kernel
theorem dX12_steals_321 : decode mX12_steals.2.1 321 = .ok (.iinc 7 1, 3) := by decide +kernel
theorem dX12_steals_324 : decode mX12_steals.2.1 324 = .ok (.goto (-62), 3) := by decide +kernel
theorem dX12_steals_327 : decode mX12_steals.2.1 327 = .ok (.iload 6, 2) := by decide +kernel
theorem dX12_steals_329 : decode mX12_steals.2.1 329 = .ok (.istore 5, 2) := by decide +kernel
theorem dX12_steals_331 : decode mX12_steals.2.1 331 = .ok (.aload_n 0, 1) := by decide +kernel
theorem dX12_steals_332 : decode mX12_steals.2.1 332 = .ok (.iload 5, 2) := by decide +kernel
theorem dX12_steals_334 : decode mX12_steals.2.1 334 = .ok (.i2l, 1) := by decide +kernel
theorem dX12_steals_335 : decode mX12_steals.2.1 335 = .ok (.invokevirtual 387, 3) := by decide +kernel
theorem dX12_steals_338 : decode mX12_steals.2.1 338 = .ok (.goto (-88), 3) := by decide +kernel
theorem dX12_steals_341 : decode mX12_steals.2.1 341 = .ok (.aload_n 0, 1) := by decide +kernel
theorem dX12_steals_342 : decode mX12_steals.2.1 342 = .ok (.getfield 98, 3) := by decide +kernel
theorem dX12_steals_345 : decode mX12_steals.2.1 345 = .ok (.iload_n 1, 1) := by decide +kernel
theorem dX12_steals_346 : decode mX12_steals.2.1 346 = .ok (.iaload, 1) := by decide +kernel
theorem dX12_steals_347 : decode mX12_steals.2.1 347 = .ok (.ireturn, 1) := by decide +kernel
theorem dX12_slips_0 : decode mX12_slips.2.1 0 = .ok (.aload_n 0, 1) := by decide +kernel
theorem dX12_slips_1 : decode mX12_slips.2.1 1 = .ok (.iconst 0, 1) := by decide +kernel
theorem dX12_slips_2 : decode mX12_slips.2.1 2 = .ok (.putfield 3, 3) := by decide +kernel
theorem dX12_slips_5 : decode mX12_slips.2.1 5 = .ok (.aload_n 0, 1) := by decide +kernel
theorem dX12_slips_6 : decode mX12_slips.2.1 6 = .ok (.iload_n 1, 1) := by decide +kernel
theorem dX12_slips_7 : decode mX12_slips.2.1 7 = .ok (.invokevirtual 364, 3) := by decide +kernel
theorem dX12_slips_10 : decode mX12_slips.2.1 10 = .ok (.ifCond .eq 21, 3) := by decide +kernel
theorem dX12_slips_13 : decode mX12_slips.2.1 13 = .ok (.aload_n 0, 1) := by decide +kernel
theorem dX12_slips_14 : decode mX12_slips.2.1 14 = .ok (.iload_n 2, 1) := by decide +kernel
theorem dX12_slips_15 : decode mX12_slips.2.1 15 = .ok (.invokevirtual 364, 3) := by decide +kernel
theorem dX12_slips_18 : decode mX12_slips.2.1 18 = .ok (.ifCond .eq 13, 3) := by decide +kernel
theorem dX12_slips_21 : decode mX12_slips.2.1 21 = .ok (.aload_n 0, 1) := by decide +kernel
theorem dX12_slips_22 : decode mX12_slips.2.1 22 = .ok (.iload_n 3, 1) := by decide +kernel
theorem dX12_slips_23 : decode mX12_slips.2.1 23 = .ok (.iload 4, 2) := by decide +kernel
theorem dX12_slips_25 : decode mX12_slips.2.1 25 = .ok (.invokevirtual 421, 3) := by decide +kernel
theorem dX12_slips_28 : decode mX12_slips.2.1 28 = .ok (.ifCond .ne 5, 3) := by decide +kernel
theorem dX12_slips_31 : decode mX12_slips.2.1 31 = .ok (.iconst (-1), 1) := by decide +kernel
theorem dX12_slips_32 : decode mX12_slips.2.1 32 = .ok (.ireturn, 1) := by decide +kernel
theorem dX12_slips_33 : decode mX12_slips.2.1 33 = .ok (.aload_n 0, 1) := by decide +kernel
theorem dX12_slips_34 : decode mX12_slips.2.1 34 = .ok (.invokevirtual 407, 3) := by decide +kernel
theorem dX12_slips_37 : decode mX12_slips.2.1 37 = .ok (.iconst 0, 1) := by decide +kernel
theorem dX12_slips_38 : decode mX12_slips.2.1 38 = .ok (.istore 5, 2) := by decide +kernel
theorem dX12_slips_40 : decode mX12_slips.2.1 40 = .ok (.iload 5, 2) := by decide +kernel
theorem dX12_slips_42 : decode mX12_slips.2.1 42 = .ok (.aload_n 0, 1) := by decide +kernel
theorem dX12_slips_43 : decode mX12_slips.2.1 43 = .ok (.getfield 24, 3) := by decide +kernel
theorem dX12_slips_46 : decode mX12_slips.2.1 46 = .ok (.aload_n 0, 1) := by decide +kernel
theorem dX12_slips_47 : decode mX12_slips.2.1 47 = .ok (.getfield 27, 3) := by decide +kernel
theorem dX12_slips_50 : decode mX12_slips.2.1 50 = .ok (.imul, 1) := by decide +kernel
theorem dX12_slips_51 : decode mX12_slips.2.1 51 = .ok (.if_icmp .ge 27, 3) := by decide +kernel
theorem dX12_slips_54 : decode mX12_slips.2.1 54 = .ok (.aload_n 0, 1) := by decide +kernel
theorem dX12_slips_55 : decode mX12_slips.2.1 55 = .ok (.getfield 104, 3) := by decide +kernel
theorem dX12_slips_58 : decode mX12_slips.2.1 58 = .ok (.iload 5, 2) := by decide +kernel
theorem dX12_slips_60 : decode mX12_slips.2.1 60 = .ok (.iload 5, 2) := by decide +kernel
theorem dX12_slips_62 : decode mX12_slips.2.1 62 = .ok (.iload_n 1, 1) := by decide +kernel
theorem dX12_slips_63 : decode mX12_slips.2.1 63 = .ok (.if_icmp .ne 7, 3) := by decide +kernel
theorem dX12_slips_66 : decode mX12_slips.2.1 66 = .ok (.iconst 1, 1) := by decide +kernel
theorem dX12_slips_67 : decode mX12_slips.2.1 67 = .ok (.goto 4, 3) := by decide +kernel
theorem dX12_slips_70 : decode mX12_slips.2.1 70 = .ok (.iconst 0, 1) := by decide +kernel
theorem dX12_slips_71 : decode mX12_slips.2.1 71 = .ok (.bastore, 1) := by decide +kernel
theorem dX12_slips_72 : decode mX12_slips.2.1 72 = .ok (.iinc 5 1, 3) := by decide +kernel
theorem dX12_slips_75 : decode mX12_slips.2.1 75 = .ok (.goto (-35), 3) := by decide +kernel
theorem dX12_slips_78 : decode mX12_slips.2.1 78 = .ok (.iconst 0, 1) := by decide +kernel
theorem dX12_slips_79 : decode mX12_slips.2.1 79 = .ok (.istore 5, 2) := by decide +kernel
theorem dX12_slips_81 : decode mX12_slips.2.1 81 = .ok (.iload 5, 2) := by decide +kernel
theorem dX12_slips_83 : decode mX12_slips.2.1 83 = .ok (.bipush 60, 2) := by decide +kernel
theorem dX12_slips_85 : decode mX12_slips.2.1 85 = .ok (.if_icmp .gt 197, 3) := by decide +kernel
theorem dX12_slips_88 : decode mX12_slips.2.1 88 = .ok (.aload_n 0, 1) := by decide +kernel
theorem dX12_slips_89 : decode mX12_slips.2.1 89 = .ok (.aload_n 0, 1) := by decide +kernel
theorem dX12_slips_90 : decode mX12_slips.2.1 90 = .ok (.getfield 52, 3) := by decide +kernel
theorem dX12_slips_93 : decode mX12_slips.2.1 93 = .ok (.iload_n 3, 1) := by decide +kernel
theorem dX12_slips_94 : decode mX12_slips.2.1 94 = .ok (.iload 4, 2) := by decide +kernel
theorem dX12_slips_96 : decode mX12_slips.2.1 96 = .ok (.invokevirtual 424, 3) := by decide +kernel
theorem dX12_slips_99 : decode mX12_slips.2.1 99 = .ok (.pop, 1) := by decide +kernel
theorem dX12_slips_100 : decode mX12_slips.2.1 100 = .ok (.iconst 0, 1) := by decide +kernel
theorem dX12_slips_101 : decode mX12_slips.2.1 101 = .ok (.istore 6, 2) := by decide +kernel
theorem dX12_slips_103 : decode mX12_slips.2.1 103 = .ok (.iload 6, 2) := by decide +kernel
theorem dX12_slips_105 : decode mX12_slips.2.1 105 = .ok (.aload_n 0, 1) := by decide +kernel
theorem dX12_slips_106 : decode mX12_slips.2.1 106 = .ok (.getfield 24, 3) := by decide +kernel
theorem dX12_slips_109 : decode mX12_slips.2.1 109 = .ok (.aload_n 0, 1) := by decide +kernel
theorem dX12_slips_110 : decode mX12_slips.2.1 110 = .ok (.getfield 27, 3) := by decide +kernel
theorem dX12_slips_113 : decode mX12_slips.2.1 113 = .ok (.imul, 1) := by decide +kernel
theorem dX12_slips_114 : decode mX12_slips.2.1 114 = .ok (.if_icmp .ge 102, 3) := by decide +kernel
theorem dX12_slips_117 : decode mX12_slips.2.1 117 = .ok (.aload_n 0, 1) := by decide +kernel
theorem dX12_slips_118 : decode mX12_slips.2.1 118 = .ok (.getfield 104, 3) := by decide +kernel
theorem dX12_slips_121 : decode mX12_slips.2.1 121 = .ok (.iload 6, 2) := by decide +kernel
theorem dX12_slips_123 : decode mX12_slips.2.1 123 = .ok (.baload, 1) := by decide +kernel
theorem dX12_slips_124 : decode mX12_slips.2.1 124 = .ok (.istore 7, 2) := by decide +kernel
theorem dX12_slips_126 : decode mX12_slips.2.1 126 = .ok (.iconst 0, 1) := by decide +kernel
theorem dX12_slips_127 : decode mX12_slips.2.1 127 = .ok (.istore 8, 2) := by decide +kernel
theorem dX12_slips_129 : decode mX12_slips.2.1 129 = .ok (.iload 8, 2) := by decide +kernel
theorem dX12_slips_131 : decode mX12_slips.2.1 131 = .ok (.iconst 4, 1) := by decide +kernel
theorem dX12_slips_132 : decode mX12_slips.2.1 132 = .ok (.if_icmp .ge 51, 3) := by decide +kernel
theorem dX12_slips_135 : decode mX12_slips.2.1 135 = .ok (.iload 5, 2) := by decide +kernel
theorem dX12_slips_137 : decode mX12_slips.2.1 137 = .ok (.ifCond .le 46, 3) := by decide +kernel
theorem dX12_slips_140 : decode mX12_slips.2.1 140 = .ok (.aload_n 0, 1) := by decide +kernel
theorem dX12_slips_141 : decode mX12_slips.2.1 141 = .ok (.iload 6, 2) := by decide +kernel
theorem dX12_slips_143 : decode mX12_slips.2.1 143 = .ok (.iload 8, 2) := by decide +kernel
theorem dX12_slips_145 : decode mX12_slips.2.1 145 = .ok (.invokevirtual 357, 3) := by decide +kernel
theorem dX12_slips_148 : decode mX12_slips.2.1 148 = .ok (.istore 9, 2) := by decide +kernel
theorem dX12_slips_150 : decode mX12_slips.2.1 150 = .ok (.iload 7, 2) := by decide +kernel
theorem dX12_slips_152 : decode mX12_slips.2.1 152 = .ok (.ifCond .ne 18, 3) := by decide +kernel
theorem dX12_slips_155 : decode mX12_slips.2.1 155 = .ok (.iload 9, 2) := by decide +kernel
theorem dX12_slips_157 : decode mX12_slips.2.1 157 = .ok (.ifCond .lt 17, 3) := by decide +kernel
theorem dX12_slips_160 : decode mX12_slips.2.1 160 = .ok (.aload_n 0, 1) := by decide +kernel
theorem dX12_slips_161 : decode mX12_slips.2.1 161 = .ok (.getfield 104, 3) := by decide +kernel
theorem dX12_slips_164 : decode mX12_slips.2.1 164 = .ok (.iload 9, 2) := by decide +kernel
theorem dX12_slips_166 : decode mX12_slips.2.1 166 = .ok (.baload, 1) := by decide +kernel
theorem dX12_slips_167 : decode mX12_slips.2.1 167 = .ok (.ifCond .eq 7, 3) := by decide +kernel
theorem dX12_slips_170 : decode mX12_slips.2.1 170 = .ok (.iconst 1, 1) := by decide +kernel
theorem dX12_slips_171 : decode mX12_slips.2.1 171 = .ok (.goto 4, 3) := by decide +kernel
theorem dX12_slips_174 : decode mX12_slips.2.1 174 = .ok (.iconst 0, 1) := by decide +kernel
theorem dX12_slips_175 : decode mX12_slips.2.1 175 = .ok (.istore 7, 2) := by decide +kernel
theorem dX12_slips_177 : decode mX12_slips.2.1 177 = .ok (.iinc 8 1, 3) := by decide +kernel
theorem dX12_slips_180 : decode mX12_slips.2.1 180 = .ok (.goto (-51), 3) := by decide +kernel
theorem dX12_slips_183 : decode mX12_slips.2.1 183 = .ok (.aload_n 0, 1) := by decide +kernel
theorem dX12_slips_184 : decode mX12_slips.2.1 184 = .ok (.getfield 101, 3) := by decide +kernel
theorem dX12_slips_187 : decode mX12_slips.2.1 187 = .ok (.iload 6, 2) := by decide +kernel
theorem dX12_slips_189 : decode mX12_slips.2.1 189 = .ok (.iload 7, 2) := by decide +kernel
theorem dX12_slips_191 : decode mX12_slips.2.1 191 = .ok (.ifCond .eq 17, 3) := by decide +kernel
theorem dX12_slips_194 : decode mX12_slips.2.1 194 = .ok (.aload_n 0, 1) := by decide +kernel
theorem dX12_slips_195 : decode mX12_slips.2.1 195 = .ok (.getfield 94, 3) := by decide +kernel
theorem dX12_slips_198 : decode mX12_slips.2.1 198 = .ok (.iload 6, 2) := by decide +kernel
theorem dX12_slips_200 : decode mX12_slips.2.1 200 = .ok (.baload, 1) := by decide +kernel
theorem dX12_slips_201 : decode mX12_slips.2.1 201 = .ok (.ifCond .eq 7, 3) := by decide +kernel
theorem dX12_slips_204 : decode mX12_slips.2.1 204 = .ok (.iconst 1, 1) := by decide +kernel
theorem dX12_slips_205 : decode mX12_slips.2.1 205 = .ok (.goto 4, 3) := by decide +kernel
theorem dX12_slips_208 : decode mX12_slips.2.1 208 = .ok (.iconst 0, 1) := by decide +kernel
theorem dX12_slips_209 : decode mX12_slips.2.1 209 = .ok (.bastore, 1) := by decide +kernel
theorem dX12_slips_210 : decode mX12_slips.2.1 210 = .ok (.iinc 6 1, 3) := by decide +kernel
theorem dX12_slips_213 : decode mX12_slips.2.1 213 = .ok (.goto (-110), 3) := by decide +kernel
theorem dX12_slips_216 : decode mX12_slips.2.1 216 = .ok (.aload_n 0, 1) := by decide +kernel
theorem dX12_slips_217 : decode mX12_slips.2.1 217 = .ok (.getfield 101, 3) := by decide +kernel
theorem dX12_slips_220 : decode mX12_slips.2.1 220 = .ok (.iload_n 2, 1) := by decide +kernel
theorem dX12_slips_221 : decode mX12_slips.2.1 221 = .ok (.baload, 1) := by decide +kernel
theorem dX12_slips_222 : decode mX12_slips.2.1 222 = .ok (.ifCond .eq 6, 3) := by decide +kernel
theorem dX12_slips_225 : decode mX12_slips.2.1 225 = .ok (.iload 5, 2) := by decide +kernel
theorem dX12_slips_227 : decode mX12_slips.2.1 227 = .ok (.ireturn, 1) := by decide +kernel
theorem dX12_slips_228 : decode mX12_slips.2.1 228 = .ok (.iconst 0, 1) := by decide +kernel
theorem dX12_slips_229 : decode mX12_slips.2.1 229 = .ok (.istore 6, 2) := by decide +kernel
theorem dX12_slips_231 : decode mX12_slips.2.1 231 = .ok (.iload 6, 2) := by decide +kernel
theorem dX12_slips_233 : decode mX12_slips.2.1 233 = .ok (.aload_n 0, 1) := by decide +kernel
theorem dX12_slips_234 : decode mX12_slips.2.1 234 = .ok (.getfield 24, 3) := by decide +kernel
theorem dX12_slips_237 : decode mX12_slips.2.1 237 = .ok (.aload_n 0, 1) := by decide +kernel
theorem dX12_slips_238 : decode mX12_slips.2.1 238 = .ok (.getfield 27, 3) := by decide +kernel
theorem dX12_slips_241 : decode mX12_slips.2.1 241 = .ok (.imul, 1) := by decide +kernel
theorem dX12_slips_242 : decode mX12_slips.2.1 242 = .ok (.if_icmp .ge 23, 3) := by decide +kernel
theorem dX12_slips_245 : decode mX12_slips.2.1 245 = .ok (.aload_n 0, 1) := by decide +kernel
theorem dX12_slips_246 : decode mX12_slips.2.1 246 = .ok (.getfield 104, 3) := by decide +kernel
theorem dX12_slips_249 : decode mX12_slips.2.1 249 = .ok (.iload 6, 2) := by decide +kernel
theorem dX12_slips_251 : decode mX12_slips.2.1 251 = .ok (.aload_n 0, 1) := by decide +kernel
theorem dX12_slips_252 : decode mX12_slips.2.1 252 = .ok (.getfield 101, 3) := by decide +kernel
theorem dX12_slips_255 : decode mX12_slips.2.1 255 = .ok (.iload 6, 2) := by decide +kernel
theorem dX12_slips_257 : decode mX12_slips.2.1 257 = .ok (.baload, 1) := by decide +kernel
theorem dX12_slips_258 : decode mX12_slips.2.1 258 = .ok (.bastore, 1) := by decide +kernel
theorem dX12_slips_259 : decode mX12_slips.2.1 259 = .ok (.iinc 6 1, 3) := by decide +kernel
theorem dX12_slips_262 : decode mX12_slips.2.1 262 = .ok (.goto (-31), 3) := by decide +kernel
theorem dX12_slips_265 : decode mX12_slips.2.1 265 = .ok (.aload_n 0, 1) := by decide +kernel
theorem dX12_slips_266 : decode mX12_slips.2.1 266 = .ok (.getfield 52, 3) := by decide +kernel
theorem dX12_slips_269 : decode mX12_slips.2.1 269 = .ok (.bipush 25, 2) := by decide +kernel
theorem dX12_slips_271 : decode mX12_slips.2.1 271 = .ok (.dup2, 1) := by decide +kernel
theorem dX12_slips_272 : decode mX12_slips.2.1 272 = .ok (.iaload, 1) := by decide +kernel
theorem dX12_slips_273 : decode mX12_slips.2.1 273 = .ok (.iconst 1, 1) := by decide +kernel
theorem dX12_slips_274 : decode mX12_slips.2.1 274 = .ok (.iadd, 1) := by decide +kernel
theorem dX12_slips_275 : decode mX12_slips.2.1 275 = .ok (.iastore, 1) := by decide +kernel
theorem dX12_slips_276 : decode mX12_slips.2.1 276 = .ok (.iinc 5 1, 3) := by decide +kernel
theorem dX12_slips_279 : decode mX12_slips.2.1 279 = .ok (.goto (-198), 3) := by decide +kernel
theorem dX12_slips_282 : decode mX12_slips.2.1 282 = .ok (.bipush (-2), 2) := by decide +kernel
theorem dX12_slips_284 : decode mX12_slips.2.1 284 = .ok (.ireturn, 1) := by decide +kernel
theorem dX12_dark_0 : decode mX12_dark.2.1 0 = .ok (.aload_n 0, 1) := by decide +kernel
theorem dX12_dark_1 : decode mX12_dark.2.1 1 = .ok (.iconst 0, 1) := by decide +kernel
theorem dX12_dark_2 : decode mX12_dark.2.1 2 = .ok (.putfield 3, 3) := by decide +kernel
theorem dX12_dark_5 : decode mX12_dark.2.1 5 = .ok (.aload_n 0, 1) := by decide +kernel
theorem dX12_dark_6 : decode mX12_dark.2.1 6 = .ok (.iload_n 1, 1) := by decide +kernel
theorem dX12_dark_7 : decode mX12_dark.2.1 7 = .ok (.iload_n 2, 1) := by decide +kernel
theorem dX12_dark_8 : decode mX12_dark.2.1 8 = .ok (.invokevirtual 421, 3) := by decide +kernel
theorem dX12_dark_11 : decode mX12_dark.2.1 11 = .ok (.ifCond .ne 7, 3) := by decide +kernel
theorem dX12_dark_14 : decode mX12_dark.2.1 14 = .ok (.ldc2_w 427, 3) := by decide +kernel
theorem dX12_dark_17 : decode mX12_dark.2.1 17 = .ok (.lreturn, 1) := by decide +kernel
theorem dX12_dark_18 : decode mX12_dark.2.1 18 = .ok (.aload_n 0, 1) := by decide +kernel
theorem dX12_dark_19 : decode mX12_dark.2.1 19 = .ok (.aload_n 0, 1) := by decide +kernel
theorem dX12_dark_20 : decode mX12_dark.2.1 20 = .ok (.getfield 49, 3) := by decide +kernel
theorem dX12_dark_23 : decode mX12_dark.2.1 23 = .ok (.iload_n 1, 1) := by decide +kernel
theorem dX12_dark_24 : decode mX12_dark.2.1 24 = .ok (.iload_n 2, 1) := by decide +kernel
theorem dX12_dark_25 : decode mX12_dark.2.1 25 = .ok (.invokevirtual 424, 3) := by decide +kernel
theorem dX12_dark_28 : decode mX12_dark.2.1 28 = .ok (.istore_n 3, 1) := by decide +kernel
theorem dX12_dark_29 : decode mX12_dark.2.1 29 = .ok (.lconst 0, 1) := by decide +kernel
theorem dX12_dark_30 : decode mX12_dark.2.1 30 = .ok (.lstore 4, 2) := by decide +kernel
theorem dX12_dark_32 : decode mX12_dark.2.1 32 = .ok (.iconst 0, 1) := by decide +kernel
theorem dX12_dark_33 : decode mX12_dark.2.1 33 = .ok (.istore 6, 2) := by decide +kernel
theorem dX12_dark_35 : decode mX12_dark.2.1 35 = .ok (.iload 6, 2) := by decide +kernel
theorem dX12_dark_37 : decode mX12_dark.2.1 37 = .ok (.aload_n 0, 1) := by decide +kernel
theorem dX12_dark_38 : decode mX12_dark.2.1 38 = .ok (.getfield 24, 3) := by decide +kernel
theorem dX12_dark_41 : decode mX12_dark.2.1 41 = .ok (.aload_n 0, 1) := by decide +kernel
theorem dX12_dark_42 : decode mX12_dark.2.1 42 = .ok (.getfield 27, 3) := by decide +kernel
theorem dX12_dark_45 : decode mX12_dark.2.1 45 = .ok (.imul, 1) := by decide +kernel
theorem dX12_dark_46 : decode mX12_dark.2.1 46 = .ok (.if_icmp .ge 32, 3) := by decide +kernel
theorem dX12_dark_49 : decode mX12_dark.2.1 49 = .ok (.lload 4, 2) := by decide +kernel
theorem dX12_dark_51 : decode mX12_dark.2.1 51 = .ok (.aload_n 0, 1) := by decide +kernel
theorem dX12_dark_52 : decode mX12_dark.2.1 52 = .ok (.getfield 94, 3) := by decide +kernel
theorem dX12_dark_55 : decode mX12_dark.2.1 55 = .ok (.iload 6, 2) := by decide +kernel
theorem dX12_dark_57 : decode mX12_dark.2.1 57 = .ok (.baload, 1) := by decide +kernel
theorem dX12_dark_58 : decode mX12_dark.2.1 58 = .ok (.ifCond .eq 10, 3) := by decide +kernel
theorem dX12_dark_61 : decode mX12_dark.2.1 61 = .ok (.lconst 1, 1) := by decide +kernel
theorem dX12_dark_62 : decode mX12_dark.2.1 62 = .ok (.iload 6, 2) := by decide +kernel
theorem dX12_dark_64 : decode mX12_dark.2.1 64 = .ok (.lshl, 1) := by decide +kernel
theorem dX12_dark_65 : decode mX12_dark.2.1 65 = .ok (.goto 4, 3) := by decide +kernel
theorem dX12_dark_68 : decode mX12_dark.2.1 68 = .ok (.lconst 0, 1) := by decide +kernel
theorem dX12_dark_69 : decode mX12_dark.2.1 69 = .ok (.lor, 1) := by decide +kernel
theorem dX12_dark_70 : decode mX12_dark.2.1 70 = .ok (.lstore 4, 2) := by decide +kernel
theorem dX12_dark_72 : decode mX12_dark.2.1 72 = .ok (.iinc 6 1, 3) := by decide +kernel
theorem dX12_dark_75 : decode mX12_dark.2.1 75 = .ok (.goto (-40), 3) := by decide +kernel
theorem dX12_dark_78 : decode mX12_dark.2.1 78 = .ok (.aload_n 0, 1) := by decide +kernel
theorem dX12_dark_79 : decode mX12_dark.2.1 79 = .ok (.iconst 0, 1) := by decide +kernel
theorem dX12_dark_80 : decode mX12_dark.2.1 80 = .ok (.putfield 15, 3) := by decide +kernel
theorem dX12_dark_83 : decode mX12_dark.2.1 83 = .ok (.aload_n 0, 1) := by decide +kernel
theorem dX12_dark_84 : decode mX12_dark.2.1 84 = .ok (.iload_n 3, 1) := by decide +kernel
theorem dX12_dark_85 : decode mX12_dark.2.1 85 = .ok (.i2l, 1) := by decide +kernel
theorem dX12_dark_86 : decode mX12_dark.2.1 86 = .ok (.invokevirtual 387, 3) := by decide +kernel
theorem dX12_dark_89 : decode mX12_dark.2.1 89 = .ok (.lload 4, 2) := by decide +kernel
theorem dX12_dark_91 : decode mX12_dark.2.1 91 = .ok (.lreturn, 1) := by decide +kernel
theorem dX12_watched_0 : decode mX12_watched.2.1 0 = .ok (.aload_n 0, 1) := by decide +kernel
theorem dX12_watched_1 : decode mX12_watched.2.1 1 = .ok (.iconst 0, 1) := by decide +kernel
theorem dX12_watched_2 : decode mX12_watched.2.1 2 = .ok (.putfield 3, 3) := by decide +kernel
theorem dX12_watched_5 : decode mX12_watched.2.1 5 = .ok (.aload_n 0, 1) := by decide +kernel
theorem dX12_watched_6 : decode mX12_watched.2.1 6 = .ok (.iload_n 1, 1) := by decide +kernel
theorem dX12_watched_7 : decode mX12_watched.2.1 7 = .ok (.iload_n 2, 1) := by decide +kernel
theorem dX12_watched_8 : decode mX12_watched.2.1 8 = .ok (.invokevirtual 421, 3) := by decide +kernel
theorem dX12_watched_11 : decode mX12_watched.2.1 11 = .ok (.ifCond .eq 22, 3) := by decide +kernel
theorem dX12_watched_14 : decode mX12_watched.2.1 14 = .ok (.iload_n 3, 1) := by decide +kernel
theorem dX12_watched_15 : decode mX12_watched.2.1 15 = .ok (.i2l, 1) := by decide +kernel
theorem dX12_watched_16 : decode mX12_watched.2.1 16 = .ok (.lconst 0, 1) := by decide +kernel
theorem dX12_watched_17 : decode mX12_watched.2.1 17 = .ok (.lconst 1, 1) := by decide +kernel
theorem dX12_watched_18 : decode mX12_watched.2.1 18 = .ok (.invokestatic 143, 3) := by decide +kernel
theorem dX12_watched_21 : decode mX12_watched.2.1 21 = .ok (.ifCond .eq 12, 3) := by decide +kernel
theorem dX12_watched_24 : decode mX12_watched.2.1 24 = .ok (.aload_n 0, 1) := by decide +kernel
theorem dX12_watched_25 : decode mX12_watched.2.1 25 = .ok (.getfield 212, 3) := by decide +kernel
theorem dX12_watched_28 : decode mX12_watched.2.1 28 = .ok (.bipush 12, 2) := by decide +kernel
theorem dX12_watched_30 : decode mX12_watched.2.1 30 = .ok (.if_icmp .ne 5, 3) := by decide +kernel
theorem dX12_watched_33 : decode mX12_watched.2.1 33 = .ok (.iconst (-1), 1) := by decide +kernel
theorem dX12_watched_34 : decode mX12_watched.2.1 34 = .ok (.ireturn, 1) := by decide +kernel
theorem dX12_watched_35 : decode mX12_watched.2.1 35 = .ok (.aload_n 0, 1) := by decide +kernel
theorem dX12_watched_36 : decode mX12_watched.2.1 36 = .ok (.getfield 107, 3) := by decide +kernel
theorem dX12_watched_39 : decode mX12_watched.2.1 39 = .ok (.aload_n 0, 1) := by decide +kernel
theorem dX12_watched_40 : decode mX12_watched.2.1 40 = .ok (.getfield 212, 3) := by decide +kernel
theorem dX12_watched_43 : decode mX12_watched.2.1 43 = .ok (.iload_n 1, 1) := by decide +kernel
theorem dX12_watched_44 : decode mX12_watched.2.1 44 = .ok (.iastore, 1) := by decide +kernel
theorem dX12_watched_45 : decode mX12_watched.2.1 45 = .ok (.aload_n 0, 1) := by decide +kernel
theorem dX12_watched_46 : decode mX12_watched.2.1 46 = .ok (.getfield 110, 3) := by decide +kernel
theorem dX12_watched_49 : decode mX12_watched.2.1 49 = .ok (.aload_n 0, 1) := by decide +kernel
theorem dX12_watched_50 : decode mX12_watched.2.1 50 = .ok (.getfield 212, 3) := by decide +kernel
theorem dX12_watched_53 : decode mX12_watched.2.1 53 = .ok (.iload_n 2, 1) := by decide +kernel
theorem dX12_watched_54 : decode mX12_watched.2.1 54 = .ok (.iastore, 1) := by decide +kernel
theorem dX12_watched_55 : decode mX12_watched.2.1 55 = .ok (.aload_n 0, 1) := by decide +kernel
theorem dX12_watched_56 : decode mX12_watched.2.1 56 = .ok (.getfield 113, 3) := by decide +kernel
theorem dX12_watched_59 : decode mX12_watched.2.1 59 = .ok (.aload_n 0, 1) := by decide +kernel
theorem dX12_watched_60 : decode mX12_watched.2.1 60 = .ok (.getfield 212, 3) := by decide +kernel
theorem dX12_watched_63 : decode mX12_watched.2.1 63 = .ok (.iload_n 3, 1) := by decide +kernel
theorem dX12_watched_64 : decode mX12_watched.2.1 64 = .ok (.iastore, 1) := by decide +kernel
theorem dX12_watched_65 : decode mX12_watched.2.1 65 = .ok (.aload_n 0, 1) := by decide +kernel
theorem dX12_watched_66 : decode mX12_watched.2.1 66 = .ok (.dup, 1) := by decide +kernel
theorem dX12_watched_67 : decode mX12_watched.2.1 67 = .ok (.getfield 212, 3) := by decide +kernel
theorem dX12_watched_70 : decode mX12_watched.2.1 70 = .ok (.iconst 1, 1) := by decide +kernel
theorem dX12_watched_71 : decode mX12_watched.2.1 71 = .ok (.iadd, 1) := by decide +kernel
theorem dX12_watched_72 : decode mX12_watched.2.1 72 = .ok (.putfield 212, 3) := by decide +kernel
theorem dX12_watched_75 : decode mX12_watched.2.1 75 = .ok (.aload_n 0, 1) := by decide +kernel
theorem dX12_watched_76 : decode mX12_watched.2.1 76 = .ok (.getfield 212, 3) := by decide +kernel
theorem dX12_watched_79 : decode mX12_watched.2.1 79 = .ok (.ireturn, 1) := by decide +kernel
theorem dX12_forget_0 : decode mX12_forget.2.1 0 = .ok (.aload_n 0, 1) := by decide +kernel
theorem dX12_forget_1 : decode mX12_forget.2.1 1 = .ok (.iconst 0, 1) := by decide +kernel
theorem dX12_forget_2 : decode mX12_forget.2.1 2 = .ok (.putfield 3, 3) := by decide +kernel
theorem dX12_forget_5 : decode mX12_forget.2.1 5 = .ok (.aload_n 0, 1) := by decide +kernel
theorem dX12_forget_6 : decode mX12_forget.2.1 6 = .ok (.getfield 212, 3) := by decide +kernel
theorem dX12_forget_9 : decode mX12_forget.2.1 9 = .ok (.istore_n 1, 1) := by decide +kernel
theorem dX12_forget_10 : decode mX12_forget.2.1 10 = .ok (.aload_n 0, 1) := by decide +kernel
theorem dX12_forget_11 : decode mX12_forget.2.1 11 = .ok (.iconst 0, 1) := by decide +kernel
theorem dX12_forget_12 : decode mX12_forget.2.1 12 = .ok (.putfield 212, 3) := by decide +kernel
theorem dX12_forget_15 : decode mX12_forget.2.1 15 = .ok (.iload_n 1, 1) := by decide +kernel
theorem dX12_forget_16 : decode mX12_forget.2.1 16 = .ok (.ireturn, 1) := by decide +kernel
theorem dX12_shows_0 : decode mX12_shows.2.1 0 = .ok (.iload_n 0, 1) := by decide +kernel
theorem dX12_shows_1 : decode mX12_shows.2.1 1 = .ok (.iload_n 2, 1) := by decide +kernel
theorem dX12_shows_2 : decode mX12_shows.2.1 2 = .ok (.invokestatic 296, 3) := by decide +kernel
theorem dX12_shows_5 : decode mX12_shows.2.1 5 = .ok (.ifCond .ne 12, 3) := by decide +kernel
theorem dX12_shows_8 : decode mX12_shows.2.1 8 = .ok (.iload_n 3, 1) := by decide +kernel
theorem dX12_shows_9 : decode mX12_shows.2.1 9 = .ok (.iload_n 1, 1) := by decide +kernel
theorem dX12_shows_10 : decode mX12_shows.2.1 10 = .ok (.if_icmp .gt 7, 3) := by decide +kernel
theorem dX12_shows_13 : decode mX12_shows.2.1 13 = .ok (.iconst 1, 1) := by decide +kernel
theorem dX12_shows_14 : decode mX12_shows.2.1 14 = .ok (.goto 4, 3) := by decide +kernel
theorem dX12_shows_17 : decode mX12_shows.2.1 17 = .ok (.iconst 0, 1) := by decide +kernel
theorem dX12_shows_18 : decode mX12_shows.2.1 18 = .ok (.ireturn, 1) := by decide +kernel
theorem dX12_isLaw_0 : decode mX12_isLaw.2.1 0 = .ok (.iconst 1, 1) := by decide +kernel
theorem dX12_isLaw_1 : decode mX12_isLaw.2.1 1 = .ok (.istore_n 3, 1) := by decide +kernel
theorem dX12_isLaw_2 : decode mX12_isLaw.2.1 2 = .ok (.iconst 0, 1) := by decide +kernel
theorem dX12_isLaw_3 : decode mX12_isLaw.2.1 3 = .ok (.istore 4, 2) := by decide +kernel
theorem dX12_isLaw_5 : decode mX12_isLaw.2.1 5 = .ok (.iload 4, 2) := by decide +kernel
theorem dX12_isLaw_7 : decode mX12_isLaw.2.1 7 = .ok (.aload_n 0, 1) := by decide +kernel
theorem dX12_isLaw_8 : decode mX12_isLaw.2.1 8 = .ok (.getfield 212, 3) := by decide +kernel
theorem dX12_isLaw_11 : decode mX12_isLaw.2.1 11 = .ok (.if_icmp .ge 51, 3) := by decide +kernel
theorem dX12_isLaw_14 : decode mX12_isLaw.2.1 14 = .ok (.iload_n 3, 1) := by decide +kernel
theorem dX12_isLaw_15 : decode mX12_isLaw.2.1 15 = .ok (.ifCond .eq 39, 3) := by decide +kernel
theorem dX12_isLaw_18 : decode mX12_isLaw.2.1 18 = .ok (.iload_n 1, 1) := by decide +kernel
theorem dX12_isLaw_19 : decode mX12_isLaw.2.1 19 = .ok (.iload_n 2, 1) := by decide +kernel
theorem dX12_isLaw_20 : decode mX12_isLaw.2.1 20 = .ok (.aload_n 0, 1) := by decide +kernel
theorem dX12_isLaw_21 : decode mX12_isLaw.2.1 21 = .ok (.getfield 107, 3) := by decide +kernel
theorem dX12_isLaw_24 : decode mX12_isLaw.2.1 24 = .ok (.iload 4, 2) := by decide +kernel
theorem dX12_isLaw_26 : decode mX12_isLaw.2.1 26 = .ok (.iaload, 1) := by decide +kernel
theorem dX12_isLaw_27 : decode mX12_isLaw.2.1 27 = .ok (.aload_n 0, 1) := by decide +kernel
theorem dX12_isLaw_28 : decode mX12_isLaw.2.1 28 = .ok (.getfield 110, 3) := by decide +kernel
theorem dX12_isLaw_31 : decode mX12_isLaw.2.1 31 = .ok (.iload 4, 2) := by decide +kernel
theorem dX12_isLaw_33 : decode mX12_isLaw.2.1 33 = .ok (.iaload, 1) := by decide +kernel
theorem dX12_isLaw_34 : decode mX12_isLaw.2.1 34 = .ok (.invokestatic 429, 3) := by decide +kernel
theorem dX12_isLaw_37 : decode mX12_isLaw.2.1 37 = .ok (.invokestatic 175, 3) := by decide +kernel
theorem dX12_isLaw_40 : decode mX12_isLaw.2.1 40 = .ok (.aload_n 0, 1) := by decide +kernel
theorem dX12_isLaw_41 : decode mX12_isLaw.2.1 41 = .ok (.getfield 113, 3) := by decide +kernel
theorem dX12_isLaw_44 : decode mX12_isLaw.2.1 44 = .ok (.iload 4, 2) := by decide +kernel
theorem dX12_isLaw_46 : decode mX12_isLaw.2.1 46 = .ok (.iaload, 1) := by decide +kernel
theorem dX12_isLaw_47 : decode mX12_isLaw.2.1 47 = .ok (.if_icmp .ne 7, 3) := by decide +kernel
theorem dX12_isLaw_50 : decode mX12_isLaw.2.1 50 = .ok (.iconst 1, 1) := by decide +kernel
theorem dX12_isLaw_51 : decode mX12_isLaw.2.1 51 = .ok (.goto 4, 3) := by decide +kernel
theorem dX12_isLaw_54 : decode mX12_isLaw.2.1 54 = .ok (.iconst 0, 1) := by decide +kernel
theorem dX12_isLaw_55 : decode mX12_isLaw.2.1 55 = .ok (.istore_n 3, 1) := by decide +kernel
theorem dX12_isLaw_56 : decode mX12_isLaw.2.1 56 = .ok (.iinc 4 1, 3) := by decide +kernel
theorem dX12_isLaw_59 : decode mX12_isLaw.2.1 59 = .ok (.goto (-54), 3) := by decide +kernel
theorem dX12_isLaw_62 : decode mX12_isLaw.2.1 62 = .ok (.iload_n 3, 1) := by decide +kernel
theorem dX12_isLaw_63 : decode mX12_isLaw.2.1 63 = .ok (.ireturn, 1) := by decide +kernel
theorem dX12_laws_0 : decode mX12_laws.2.1 0 = .ok (.aload_n 0, 1) := by decide +kernel
theorem dX12_laws_1 : decode mX12_laws.2.1 1 = .ok (.iconst 0, 1) := by decide +kernel
theorem dX12_laws_2 : decode mX12_laws.2.1 2 = .ok (.putfield 3, 3) := by decide +kernel
theorem dX12_laws_5 : decode mX12_laws.2.1 5 = .ok (.iconst 0, 1) := by decide +kernel
theorem dX12_laws_6 : decode mX12_laws.2.1 6 = .ok (.istore_n 1, 1) := by decide +kernel
theorem dX12_laws_7 : decode mX12_laws.2.1 7 = .ok (.iconst 0, 1) := by decide +kernel
theorem dX12_laws_8 : decode mX12_laws.2.1 8 = .ok (.istore_n 2, 1) := by decide +kernel
theorem dX12_laws_9 : decode mX12_laws.2.1 9 = .ok (.iconst 0, 1) := by decide +kernel
theorem dX12_laws_10 : decode mX12_laws.2.1 10 = .ok (.istore_n 3, 1) := by decide +kernel
theorem dX12_laws_11 : decode mX12_laws.2.1 11 = .ok (.bipush 9, 2) := by decide +kernel
theorem dX12_laws_13 : decode mX12_laws.2.1 13 = .ok (.istore 4, 2) := by decide +kernel
theorem dX12_laws_15 : decode mX12_laws.2.1 15 = .ok (.iload 4, 2) := by decide +kernel
theorem dX12_laws_17 : decode mX12_laws.2.1 17 = .ok (.ifCond .lt 62, 3) := by decide +kernel
theorem dX12_laws_20 : decode mX12_laws.2.1 20 = .ok (.iconst 0, 1) := by decide +kernel
theorem dX12_laws_21 : decode mX12_laws.2.1 21 = .ok (.istore 5, 2) := by decide +kernel
theorem dX12_laws_23 : decode mX12_laws.2.1 23 = .ok (.iload 5, 2) := by decide +kernel
theorem dX12_laws_25 : decode mX12_laws.2.1 25 = .ok (.sipush 256, 3) := by decide +kernel
theorem dX12_laws_28 : decode mX12_laws.2.1 28 = .ok (.if_icmp .ge 45, 3) := by decide +kernel
theorem dX12_laws_31 : decode mX12_laws.2.1 31 = .ok (.aload_n 0, 1) := by decide +kernel
theorem dX12_laws_32 : decode mX12_laws.2.1 32 = .ok (.iload 5, 2) := by decide +kernel
theorem dX12_laws_34 : decode mX12_laws.2.1 34 = .ok (.iload 4, 2) := by decide +kernel
theorem dX12_laws_36 : decode mX12_laws.2.1 36 = .ok (.invokevirtual 433, 3) := by decide +kernel
theorem dX12_laws_39 : decode mX12_laws.2.1 39 = .ok (.ifCond .eq 28, 3) := by decide +kernel
theorem dX12_laws_42 : decode mX12_laws.2.1 42 = .ok (.iload_n 1, 1) := by decide +kernel
theorem dX12_laws_43 : decode mX12_laws.2.1 43 = .ok (.ifCond .eq 15, 3) := by decide +kernel
theorem dX12_laws_46 : decode mX12_laws.2.1 46 = .ok (.iload 5, 2) := by decide +kernel
theorem dX12_laws_48 : decode mX12_laws.2.1 48 = .ok (.invokestatic 300, 3) := by decide +kernel
theorem dX12_laws_51 : decode mX12_laws.2.1 51 = .ok (.iload_n 2, 1) := by decide +kernel
theorem dX12_laws_52 : decode mX12_laws.2.1 52 = .ok (.invokestatic 300, 3) := by decide +kernel
theorem dX12_laws_55 : decode mX12_laws.2.1 55 = .ok (.if_icmp .ge 9, 3) := by decide +kernel
theorem dX12_laws_58 : decode mX12_laws.2.1 58 = .ok (.iload 5, 2) := by decide +kernel
theorem dX12_laws_60 : decode mX12_laws.2.1 60 = .ok (.istore_n 2, 1) := by decide +kernel
theorem dX12_laws_61 : decode mX12_laws.2.1 61 = .ok (.iload 4, 2) := by decide +kernel
theorem dX12_laws_63 : decode mX12_laws.2.1 63 = .ok (.istore_n 3, 1) := by decide +kernel
theorem dX12_laws_64 : decode mX12_laws.2.1 64 = .ok (.iinc 1 1, 3) := by decide +kernel
theorem dX12_laws_67 : decode mX12_laws.2.1 67 = .ok (.iinc 5 1, 3) := by decide +kernel
theorem dX12_laws_70 : decode mX12_laws.2.1 70 = .ok (.goto (-47), 3) := by decide +kernel
theorem dX12_laws_73 : decode mX12_laws.2.1 73 = .ok (.iinc 4 (-1), 3) := by decide +kernel
theorem dX12_laws_76 : decode mX12_laws.2.1 76 = .ok (.goto (-61), 3) := by decide +kernel
theorem dX12_laws_79 : decode mX12_laws.2.1 79 = .ok (.aload_n 0, 1) := by decide +kernel
theorem dX12_laws_80 : decode mX12_laws.2.1 80 = .ok (.iconst 0, 1) := by decide +kernel
theorem dX12_laws_81 : decode mX12_laws.2.1 81 = .ok (.putfield 15, 3) := by decide +kernel
theorem dX12_laws_84 : decode mX12_laws.2.1 84 = .ok (.iload_n 1, 1) := by decide +kernel
theorem dX12_laws_85 : decode mX12_laws.2.1 85 = .ok (.ifCond .le 15, 3) := by decide +kernel
theorem dX12_laws_88 : decode mX12_laws.2.1 88 = .ok (.aload_n 0, 1) := by decide +kernel
theorem dX12_laws_89 : decode mX12_laws.2.1 89 = .ok (.iload_n 2, 1) := by decide +kernel
theorem dX12_laws_90 : decode mX12_laws.2.1 90 = .ok (.i2l, 1) := by decide +kernel
theorem dX12_laws_91 : decode mX12_laws.2.1 91 = .ok (.invokevirtual 387, 3) := by decide +kernel
theorem dX12_laws_94 : decode mX12_laws.2.1 94 = .ok (.aload_n 0, 1) := by decide +kernel
theorem dX12_laws_95 : decode mX12_laws.2.1 95 = .ok (.iload_n 3, 1) := by decide +kernel
theorem dX12_laws_96 : decode mX12_laws.2.1 96 = .ok (.i2l, 1) := by decide +kernel
theorem dX12_laws_97 : decode mX12_laws.2.1 97 = .ok (.invokevirtual 387, 3) := by decide +kernel
theorem dX12_laws_100 : decode mX12_laws.2.1 100 = .ok (.iload_n 1, 1) := by decide +kernel
theorem dX12_laws_101 : decode mX12_laws.2.1 101 = .ok (.ireturn, 1) := by decide +kernel
theorem dX12_next_0 : decode mX12_next.2.1 0 = .ok (.aload_n 0, 1) := by decide +kernel
theorem dX12_next_1 : decode mX12_next.2.1 1 = .ok (.iconst 0, 1) := by decide +kernel
theorem dX12_next_2 : decode mX12_next.2.1 2 = .ok (.putfield 3, 3) := by decide +kernel
theorem dX12_next_5 : decode mX12_next.2.1 5 = .ok (.iconst 0, 1) := by decide +kernel
theorem dX12_next_6 : decode mX12_next.2.1 6 = .ok (.istore_n 1, 1) := by decide +kernel
theorem dX12_next_7 : decode mX12_next.2.1 7 = .ok (.iconst 0, 1) := by decide +kernel
theorem dX12_next_8 : decode mX12_next.2.1 8 = .ok (.istore_n 2, 1) := by decide +kernel
theorem dX12_next_9 : decode mX12_next.2.1 9 = .ok (.iload_n 2, 1) := by decide +kernel
theorem dX12_next_10 : decode mX12_next.2.1 10 = .ok (.sipush 2560, 3) := by decide +kernel
theorem dX12_next_13 : decode mX12_next.2.1 13 = .ok (.if_icmp .ge 39, 3) := by decide +kernel
theorem dX12_next_16 : decode mX12_next.2.1 16 = .ok (.aload_n 0, 1) := by decide +kernel
theorem dX12_next_17 : decode mX12_next.2.1 17 = .ok (.getfield 116, 3) := by decide +kernel
theorem dX12_next_20 : decode mX12_next.2.1 20 = .ok (.iload_n 2, 1) := by decide +kernel
theorem dX12_next_21 : decode mX12_next.2.1 21 = .ok (.aload_n 0, 1) := by decide +kernel
theorem dX12_next_22 : decode mX12_next.2.1 22 = .ok (.iload_n 2, 1) := by decide +kernel
theorem dX12_next_23 : decode mX12_next.2.1 23 = .ok (.bipush 10, 2) := by decide +kernel
theorem dX12_next_25 : decode mX12_next.2.1 25 = .ok (.idiv, 1) := by decide +kernel
theorem dX12_next_26 : decode mX12_next.2.1 26 = .ok (.iload_n 2, 1) := by decide +kernel
theorem dX12_next_27 : decode mX12_next.2.1 27 = .ok (.bipush 10, 2) := by decide +kernel
theorem dX12_next_29 : decode mX12_next.2.1 29 = .ok (.irem, 1) := by decide +kernel
theorem dX12_next_30 : decode mX12_next.2.1 30 = .ok (.invokevirtual 433, 3) := by decide +kernel
theorem dX12_next_33 : decode mX12_next.2.1 33 = .ok (.bastore, 1) := by decide +kernel
theorem dX12_next_34 : decode mX12_next.2.1 34 = .ok (.iload_n 1, 1) := by decide +kernel
theorem dX12_next_35 : decode mX12_next.2.1 35 = .ok (.aload_n 0, 1) := by decide +kernel
theorem dX12_next_36 : decode mX12_next.2.1 36 = .ok (.getfield 116, 3) := by decide +kernel
theorem dX12_next_39 : decode mX12_next.2.1 39 = .ok (.iload_n 2, 1) := by decide +kernel
theorem dX12_next_40 : decode mX12_next.2.1 40 = .ok (.baload, 1) := by decide +kernel
theorem dX12_next_41 : decode mX12_next.2.1 41 = .ok (.invokestatic 175, 3) := by decide +kernel
theorem dX12_next_44 : decode mX12_next.2.1 44 = .ok (.iadd, 1) := by decide +kernel
theorem dX12_next_45 : decode mX12_next.2.1 45 = .ok (.istore_n 1, 1) := by decide +kernel
theorem dX12_next_46 : decode mX12_next.2.1 46 = .ok (.iinc 2 1, 3) := by decide +kernel
theorem dX12_next_49 : decode mX12_next.2.1 49 = .ok (.goto (-40), 3) := by decide +kernel
theorem dX12_next_52 : decode mX12_next.2.1 52 = .ok (.iload_n 1, 1) := by decide +kernel
theorem dX12_next_53 : decode mX12_next.2.1 53 = .ok (.ifCond .ne 6, 3) := by decide +kernel
theorem dX12_next_56 : decode mX12_next.2.1 56 = .ok (.bipush (-2), 2) := by decide +kernel
theorem dX12_next_58 : decode mX12_next.2.1 58 = .ok (.ireturn, 1) := by decide +kernel
theorem dX12_next_59 : decode mX12_next.2.1 59 = .ok (.iconst (-1), 1) := by decide +kernel
theorem dX12_next_60 : decode mX12_next.2.1 60 = .ok (.istore_n 2, 1) := by decide +kernel
theorem dX12_next_61 : decode mX12_next.2.1 61 = .ok (.ldc_w 413, 3) := by decide +kernel
theorem dX12_next_64 : decode mX12_next.2.1 64 = .ok (.istore_n 3, 1) := by decide +kernel
theorem dX12_next_65 : decode mX12_next.2.1 65 = .ok (.iconst 0, 1) := by decide +kernel
theorem dX12_next_66 : decode mX12_next.2.1 66 = .ok (.istore 4, 2) := by decide +kernel
theorem dX12_next_68 : decode mX12_next.2.1 68 = .ok (.iload 4, 2) := by decide +kernel
theorem dX12_next_70 : decode mX12_next.2.1 70 = .ok (.bipush 8, 2) := by decide +kernel
theorem dX12_next_72 : decode mX12_next.2.1 72 = .ok (.if_icmp .ge 125, 3) := by decide +kernel
theorem dX12_next_75 : decode mX12_next.2.1 75 = .ok (.iconst 0, 1) := by decide +kernel
theorem dX12_next_76 : decode mX12_next.2.1 76 = .ok (.istore 5, 2) := by decide +kernel
theorem dX12_next_78 : decode mX12_next.2.1 78 = .ok (.iload 5, 2) := by decide +kernel
theorem dX12_next_80 : decode mX12_next.2.1 80 = .ok (.bipush 9, 2) := by decide +kernel
theorem dX12_next_82 : decode mX12_next.2.1 82 = .ok (.if_icmp .gt 109, 3) := by decide +kernel
theorem dX12_next_85 : decode mX12_next.2.1 85 = .ok (.iconst 0, 1) := by decide +kernel
theorem dX12_next_86 : decode mX12_next.2.1 86 = .ok (.istore 6, 2) := by decide +kernel
theorem dX12_next_88 : decode mX12_next.2.1 88 = .ok (.iconst 0, 1) := by decide +kernel
theorem dX12_next_89 : decode mX12_next.2.1 89 = .ok (.istore 7, 2) := by decide +kernel
theorem dX12_next_91 : decode mX12_next.2.1 91 = .ok (.iload 7, 2) := by decide +kernel
theorem dX12_next_93 : decode mX12_next.2.1 93 = .ok (.sipush 2560, 3) := by decide +kernel
theorem dX12_next_96 : decode mX12_next.2.1 96 = .ok (.if_icmp .ge 52, 3) := by decide +kernel
theorem dX12_next_99 : decode mX12_next.2.1 99 = .ok (.iload 6, 2) := by decide +kernel
theorem dX12_next_101 : decode mX12_next.2.1 101 = .ok (.aload_n 0, 1) := by decide +kernel
theorem dX12_next_102 : decode mX12_next.2.1 102 = .ok (.getfield 116, 3) := by decide +kernel
theorem dX12_next_105 : decode mX12_next.2.1 105 = .ok (.iload 7, 2) := by decide +kernel
theorem dX12_next_107 : decode mX12_next.2.1 107 = .ok (.baload, 1) := by decide +kernel
theorem dX12_next_108 : decode mX12_next.2.1 108 = .ok (.ifCond .eq 27, 3) := by decide +kernel
theorem dX12_next_111 : decode mX12_next.2.1 111 = .ok (.iload 7, 2) := by decide +kernel
theorem dX12_next_113 : decode mX12_next.2.1 113 = .ok (.bipush 10, 2) := by decide +kernel
theorem dX12_next_115 : decode mX12_next.2.1 115 = .ok (.idiv, 1) := by decide +kernel
theorem dX12_next_116 : decode mX12_next.2.1 116 = .ok (.iload 7, 2) := by decide +kernel
theorem dX12_next_118 : decode mX12_next.2.1 118 = .ok (.bipush 10, 2) := by decide +kernel
theorem dX12_next_120 : decode mX12_next.2.1 120 = .ok (.irem, 1) := by decide +kernel
theorem dX12_next_121 : decode mX12_next.2.1 121 = .ok (.iload 4, 2) := by decide +kernel
theorem dX12_next_123 : decode mX12_next.2.1 123 = .ok (.iload 5, 2) := by decide +kernel
theorem dX12_next_125 : decode mX12_next.2.1 125 = .ok (.invokestatic 429, 3) := by decide +kernel
theorem dX12_next_128 : decode mX12_next.2.1 128 = .ok (.ifCond .eq 7, 3) := by decide +kernel
theorem dX12_next_131 : decode mX12_next.2.1 131 = .ok (.iconst 1, 1) := by decide +kernel
theorem dX12_next_132 : decode mX12_next.2.1 132 = .ok (.goto 4, 3) := by decide +kernel
theorem dX12_next_135 : decode mX12_next.2.1 135 = .ok (.iconst 0, 1) := by decide +kernel
theorem dX12_next_136 : decode mX12_next.2.1 136 = .ok (.invokestatic 175, 3) := by decide +kernel
theorem dX12_next_139 : decode mX12_next.2.1 139 = .ok (.iadd, 1) := by decide +kernel
theorem dX12_next_140 : decode mX12_next.2.1 140 = .ok (.istore 6, 2) := by decide +kernel
theorem dX12_next_142 : decode mX12_next.2.1 142 = .ok (.iinc 7 1, 3) := by decide +kernel
theorem dX12_next_145 : decode mX12_next.2.1 145 = .ok (.goto (-54), 3) := by decide +kernel
theorem dX12_next_148 : decode mX12_next.2.1 148 = .ok (.iload 6, 2) := by decide +kernel
theorem dX12_next_150 : decode mX12_next.2.1 150 = .ok (.iload_n 1, 1) := by decide +kernel
theorem dX12_next_151 : decode mX12_next.2.1 151 = .ok (.iload 6, 2) := by decide +kernel
theorem dX12_next_153 : decode mX12_next.2.1 153 = .ok (.isub, 1) := by decide +kernel
theorem dX12_next_154 : decode mX12_next.2.1 154 = .ok (.invokestatic 351, 3) := by decide +kernel
theorem dX12_next_157 : decode mX12_next.2.1 157 = .ok (.istore 7, 2) := by decide +kernel
theorem dX12_next_159 : decode mX12_next.2.1 159 = .ok (.iload 7, 2) := by decide +kernel
theorem dX12_next_161 : decode mX12_next.2.1 161 = .ok (.iload_n 3, 1) := by decide +kernel
theorem dX12_next_162 : decode mX12_next.2.1 162 = .ok (.if_icmp .ge 14, 3) := by decide +kernel
theorem dX12_next_165 : decode mX12_next.2.1 165 = .ok (.bipush 10, 2) := by decide +kernel
theorem dX12_next_167 : decode mX12_next.2.1 167 = .ok (.iload 4, 2) := by decide +kernel
theorem dX12_next_169 : decode mX12_next.2.1 169 = .ok (.imul, 1) := by decide +kernel
theorem dX12_next_170 : decode mX12_next.2.1 170 = .ok (.iload 5, 2) := by decide +kernel
theorem dX12_next_172 : decode mX12_next.2.1 172 = .ok (.iadd, 1) := by decide +kernel
theorem dX12_next_173 : decode mX12_next.2.1 173 = .ok (.goto 4, 3) := by decide +kernel
theorem dX12_next_176 : decode mX12_next.2.1 176 = .ok (.iload_n 2, 1) := by decide +kernel
theorem dX12_next_177 : decode mX12_next.2.1 177 = .ok (.istore_n 2, 1) := by decide +kernel
theorem dX12_next_178 : decode mX12_next.2.1 178 = .ok (.iload_n 3, 1) := by decide +kernel
theorem dX12_next_179 : decode mX12_next.2.1 179 = .ok (.iload 7, 2) := by decide +kernel
theorem dX12_next_181 : decode mX12_next.2.1 181 = .ok (.invokestatic 168, 3) := by decide +kernel
theorem dX12_next_184 : decode mX12_next.2.1 184 = .ok (.istore_n 3, 1) := by decide +kernel
theorem dX12_next_185 : decode mX12_next.2.1 185 = .ok (.iinc 5 1, 3) := by decide +kernel
theorem dX12_next_188 : decode mX12_next.2.1 188 = .ok (.goto (-110), 3) := by decide +kernel
theorem dX12_next_191 : decode mX12_next.2.1 191 = .ok (.iinc 4 1, 3) := by decide +kernel
theorem dX12_next_194 : decode mX12_next.2.1 194 = .ok (.goto (-126), 3) := by decide +kernel
theorem dX12_next_197 : decode mX12_next.2.1 197 = .ok (.aload_n 0, 1) := by decide +kernel
theorem dX12_next_198 : decode mX12_next.2.1 198 = .ok (.iconst 0, 1) := by decide +kernel
theorem dX12_next_199 : decode mX12_next.2.1 199 = .ok (.putfield 15, 3) := by decide +kernel
theorem dX12_next_202 : decode mX12_next.2.1 202 = .ok (.aload_n 0, 1) := by decide +kernel
theorem dX12_next_203 : decode mX12_next.2.1 203 = .ok (.iload_n 3, 1) := by decide +kernel
theorem dX12_next_204 : decode mX12_next.2.1 204 = .ok (.i2l, 1) := by decide +kernel
theorem dX12_next_205 : decode mX12_next.2.1 205 = .ok (.invokevirtual 387, 3) := by decide +kernel
theorem dX12_next_208 : decode mX12_next.2.1 208 = .ok (.iload_n 2, 1) := by decide +kernel
theorem dX12_next_209 : decode mX12_next.2.1 209 = .ok (.ireturn, 1) := by decide +kernel
theorem dX12_fits_0 : decode mX12_fits.2.1 0 = .ok (.aload_n 0, 1) := by decide +kernel
theorem dX12_fits_1 : decode mX12_fits.2.1 1 = .ok (.iconst 0, 1) := by decide +kernel
theorem dX12_fits_2 : decode mX12_fits.2.1 2 = .ok (.putfield 3, 3) := by decide +kernel
theorem dX12_fits_5 : decode mX12_fits.2.1 5 = .ok (.iconst 0, 1) := by decide +kernel
theorem dX12_fits_6 : decode mX12_fits.2.1 6 = .ok (.istore_n 1, 1) := by decide +kernel
theorem dX12_fits_7 : decode mX12_fits.2.1 7 = .ok (.iconst 0, 1) := by decide +kernel
theorem dX12_fits_8 : decode mX12_fits.2.1 8 = .ok (.istore_n 2, 1) := by decide +kernel
theorem dX12_fits_9 : decode mX12_fits.2.1 9 = .ok (.iload_n 2, 1) := by decide +kernel
theorem dX12_fits_10 : decode mX12_fits.2.1 10 = .ok (.aload_n 0, 1) := by decide +kernel
theorem dX12_fits_11 : decode mX12_fits.2.1 11 = .ok (.getfield 147, 3) := by decide +kernel
theorem dX12_fits_14 : decode mX12_fits.2.1 14 = .ok (.if_icmp .ge 38, 3) := by decide +kernel
theorem dX12_fits_17 : decode mX12_fits.2.1 17 = .ok (.iload_n 1, 1) := by decide +kernel
theorem dX12_fits_18 : decode mX12_fits.2.1 18 = .ok (.aload_n 0, 1) := by decide +kernel
theorem dX12_fits_19 : decode mX12_fits.2.1 19 = .ok (.aload_n 0, 1) := by decide +kernel
theorem dX12_fits_20 : decode mX12_fits.2.1 20 = .ok (.getfield 40, 3) := by decide +kernel
theorem dX12_fits_23 : decode mX12_fits.2.1 23 = .ok (.iload_n 2, 1) := by decide +kernel
theorem dX12_fits_24 : decode mX12_fits.2.1 24 = .ok (.iaload, 1) := by decide +kernel
theorem dX12_fits_25 : decode mX12_fits.2.1 25 = .ok (.aload_n 0, 1) := by decide +kernel
theorem dX12_fits_26 : decode mX12_fits.2.1 26 = .ok (.getfield 37, 3) := by decide +kernel
theorem dX12_fits_29 : decode mX12_fits.2.1 29 = .ok (.iload_n 2, 1) := by decide +kernel
theorem dX12_fits_30 : decode mX12_fits.2.1 30 = .ok (.iaload, 1) := by decide +kernel
theorem dX12_fits_31 : decode mX12_fits.2.1 31 = .ok (.invokevirtual 433, 3) := by decide +kernel
theorem dX12_fits_34 : decode mX12_fits.2.1 34 = .ok (.ifCond .eq 9, 3) := by decide +kernel
theorem dX12_fits_37 : decode mX12_fits.2.1 37 = .ok (.iconst 1, 1) := by decide +kernel
theorem dX12_fits_38 : decode mX12_fits.2.1 38 = .ok (.iload_n 2, 1) := by decide +kernel
theorem dX12_fits_39 : decode mX12_fits.2.1 39 = .ok (.ishl, 1) := by decide +kernel
theorem dX12_fits_40 : decode mX12_fits.2.1 40 = .ok (.goto 4, 3) := by decide +kernel
theorem dX12_fits_43 : decode mX12_fits.2.1 43 = .ok (.iconst 0, 1) := by decide +kernel
theorem dX12_fits_44 : decode mX12_fits.2.1 44 = .ok (.ior, 1) := by decide +kernel
theorem dX12_fits_45 : decode mX12_fits.2.1 45 = .ok (.istore_n 1, 1) := by decide +kernel
theorem dX12_fits_46 : decode mX12_fits.2.1 46 = .ok (.iinc 2 1, 3) := by decide +kernel
theorem dX12_fits_49 : decode mX12_fits.2.1 49 = .ok (.goto (-40), 3) := by decide +kernel
theorem dX12_fits_52 : decode mX12_fits.2.1 52 = .ok (.aload_n 0, 1) := by decide +kernel
theorem dX12_fits_53 : decode mX12_fits.2.1 53 = .ok (.iconst 0, 1) := by decide +kernel
theorem dX12_fits_54 : decode mX12_fits.2.1 54 = .ok (.putfield 15, 3) := by decide +kernel
theorem dX12_fits_57 : decode mX12_fits.2.1 57 = .ok (.aload_n 0, 1) := by decide +kernel
theorem dX12_fits_58 : decode mX12_fits.2.1 58 = .ok (.iload_n 1, 1) := by decide +kernel
theorem dX12_fits_59 : decode mX12_fits.2.1 59 = .ok (.invokestatic 300, 3) := by decide +kernel
theorem dX12_fits_62 : decode mX12_fits.2.1 62 = .ok (.i2l, 1) := by decide +kernel
theorem dX12_fits_63 : decode mX12_fits.2.1 63 = .ok (.invokevirtual 387, 3) := by decide +kernel
theorem dX12_fits_66 : decode mX12_fits.2.1 66 = .ok (.iload_n 1, 1) := by decide +kernel
theorem dX12_fits_67 : decode mX12_fits.2.1 67 = .ok (.ireturn, 1) := by decide +kernel
theorem dX12_givesFrom_0 : decode mX12_givesFrom.2.1 0 = .ok (.iload_n 1, 1) := by decide +kernel
theorem dX12_givesFrom_1 : decode mX12_givesFrom.2.1 1 = .ok (.iload_n 2, 1) := by decide +kernel
theorem dX12_givesFrom_2 : decode mX12_givesFrom.2.1 2 = .ok (.if_icmp .ne 48, 3) := by decide +kernel
theorem dX12_givesFrom_5 : decode mX12_givesFrom.2.1 5 = .ok (.iload 4, 2) := by decide +kernel
theorem dX12_givesFrom_7 : decode mX12_givesFrom.2.1 7 = .ok (.aload_n 0, 1) := by decide +kernel
theorem dX12_givesFrom_8 : decode mX12_givesFrom.2.1 8 = .ok (.getfield 436, 3) := by decide +kernel
theorem dX12_givesFrom_11 : decode mX12_givesFrom.2.1 11 = .ok (.if_icmp .le 38, 3) := by decide +kernel
theorem dX12_givesFrom_14 : decode mX12_givesFrom.2.1 14 = .ok (.aload_n 0, 1) := by decide +kernel
theorem dX12_givesFrom_15 : decode mX12_givesFrom.2.1 15 = .ok (.iload 4, 2) := by decide +kernel
theorem dX12_givesFrom_17 : decode mX12_givesFrom.2.1 17 = .ok (.putfield 436, 3) := by decide +kernel
theorem dX12_givesFrom_20 : decode mX12_givesFrom.2.1 20 = .ok (.iconst 0, 1) := by decide +kernel
theorem dX12_givesFrom_21 : decode mX12_givesFrom.2.1 21 = .ok (.istore 5, 2) := by decide +kernel
theorem dX12_givesFrom_23 : decode mX12_givesFrom.2.1 23 = .ok (.iload 5, 2) := by decide +kernel
theorem dX12_givesFrom_25 : decode mX12_givesFrom.2.1 25 = .ok (.iload_n 2, 1) := by decide +kernel
theorem dX12_givesFrom_26 : decode mX12_givesFrom.2.1 26 = .ok (.if_icmp .ge 23, 3) := by decide +kernel
theorem dX12_givesFrom_29 : decode mX12_givesFrom.2.1 29 = .ok (.aload_n 0, 1) := by decide +kernel
theorem dX12_givesFrom_30 : decode mX12_givesFrom.2.1 30 = .ok (.getfield 125, 3) := by decide +kernel
theorem dX12_givesFrom_33 : decode mX12_givesFrom.2.1 33 = .ok (.iload 5, 2) := by decide +kernel
theorem dX12_givesFrom_35 : decode mX12_givesFrom.2.1 35 = .ok (.aload_n 0, 1) := by decide +kernel
theorem dX12_givesFrom_36 : decode mX12_givesFrom.2.1 36 = .ok (.getfield 122, 3) := by decide +kernel
theorem dX12_givesFrom_39 : decode mX12_givesFrom.2.1 39 = .ok (.iload 5, 2) := by decide +kernel
theorem dX12_givesFrom_41 : decode mX12_givesFrom.2.1 41 = .ok (.iaload, 1) := by decide +kernel
theorem dX12_givesFrom_42 : decode mX12_givesFrom.2.1 42 = .ok (.iastore, 1) := by decide +kernel
theorem dX12_givesFrom_43 : decode mX12_givesFrom.2.1 43 = .ok (.iinc 5 1, 3) := by decide +kernel
theorem dX12_givesFrom_46 : decode mX12_givesFrom.2.1 46 = .ok (.goto (-23), 3) := by decide +kernel
theorem dX12_givesFrom_49 : decode mX12_givesFrom.2.1 49 = .ok (.return_, 1) := by decide +kernel
theorem dX12_givesFrom_50 : decode mX12_givesFrom.2.1 50 = .ok (.iload 4, 2) := by decide +kernel
theorem dX12_givesFrom_52 : decode mX12_givesFrom.2.1 52 = .ok (.iload_n 2, 1) := by decide +kernel
theorem dX12_givesFrom_53 : decode mX12_givesFrom.2.1 53 = .ok (.iadd, 1) := by decide +kernel
theorem dX12_givesFrom_54 : decode mX12_givesFrom.2.1 54 = .ok (.iload_n 1, 1) := by decide +kernel
theorem dX12_givesFrom_55 : decode mX12_givesFrom.2.1 55 = .ok (.isub, 1) := by decide +kernel
theorem dX12_givesFrom_56 : decode mX12_givesFrom.2.1 56 = .ok (.aload_n 0, 1) := by decide +kernel
theorem dX12_givesFrom_57 : decode mX12_givesFrom.2.1 57 = .ok (.getfield 436, 3) := by decide +kernel
theorem dX12_givesFrom_60 : decode mX12_givesFrom.2.1 60 = .ok (.if_icmp .gt 4, 3) := by decide +kernel
theorem dX12_givesFrom_63 : decode mX12_givesFrom.2.1 63 = .ok (.return_, 1) := by decide +kernel
theorem dX12_givesFrom_64 : decode mX12_givesFrom.2.1 64 = .ok (.aload_n 0, 1) := by decide +kernel
theorem dX12_givesFrom_65 : decode mX12_givesFrom.2.1 65 = .ok (.getfield 122, 3) := by decide +kernel
theorem dX12_givesFrom_68 : decode mX12_givesFrom.2.1 68 = .ok (.iload_n 1, 1) := by decide +kernel
theorem dX12_givesFrom_69 : decode mX12_givesFrom.2.1 69 = .ok (.iconst (-1), 1) := by decide +kernel
theorem dX12_givesFrom_70 : decode mX12_givesFrom.2.1 70 = .ok (.iastore, 1) := by decide +kernel
theorem dX12_givesFrom_71 : decode mX12_givesFrom.2.1 71 = .ok (.aload_n 0, 1) := by decide +kernel
theorem dX12_givesFrom_72 : decode mX12_givesFrom.2.1 72 = .ok (.iload_n 1, 1) := by decide +kernel
theorem dX12_givesFrom_73 : decode mX12_givesFrom.2.1 73 = .ok (.iconst 1, 1) := by decide +kernel
theorem dX12_givesFrom_74 : decode mX12_givesFrom.2.1 74 = .ok (.iadd, 1) := by decide +kernel
theorem dX12_givesFrom_75 : decode mX12_givesFrom.2.1 75 = .ok (.iload_n 2, 1) := by decide +kernel
theorem dX12_givesFrom_76 : decode mX12_givesFrom.2.1 76 = .ok (.iload_n 3, 1) := by decide +kernel
theorem dX12_givesFrom_77 : decode mX12_givesFrom.2.1 77 = .ok (.iload 4, 2) := by decide +kernel
theorem dX12_givesFrom_79 : decode mX12_givesFrom.2.1 79 = .ok (.invokevirtual 439, 3) := by decide +kernel
theorem dX12_givesFrom_82 : decode mX12_givesFrom.2.1 82 = .ok (.iconst 0, 1) := by decide +kernel
theorem dX12_givesFrom_83 : decode mX12_givesFrom.2.1 83 = .ok (.istore 5, 2) := by decide +kernel
theorem dX12_givesFrom_85 : decode mX12_givesFrom.2.1 85 = .ok (.iload 5, 2) := by decide +kernel
theorem dX12_givesFrom_87 : decode mX12_givesFrom.2.1 87 = .ok (.aload_n 0, 1) := by decide +kernel
theorem dX12_givesFrom_88 : decode mX12_givesFrom.2.1 88 = .ok (.getfield 147, 3) := by decide +kernel
theorem dX12_givesFrom_91 : decode mX12_givesFrom.2.1 91 = .ok (.if_icmp .ge 63, 3) := by decide +kernel
theorem dX12_givesFrom_94 : decode mX12_givesFrom.2.1 94 = .ok (.iload_n 3, 1) := by decide +kernel
theorem dX12_givesFrom_95 : decode mX12_givesFrom.2.1 95 = .ok (.iload 5, 2) := by decide +kernel
theorem dX12_givesFrom_97 : decode mX12_givesFrom.2.1 97 = .ok (.invokestatic 296, 3) := by decide +kernel
theorem dX12_givesFrom_100 : decode mX12_givesFrom.2.1 100 = .ok (.ifCond .ne 48, 3) := by decide +kernel
theorem dX12_givesFrom_103 : decode mX12_givesFrom.2.1 103 = .ok (.aload_n 0, 1) := by decide +kernel
theorem dX12_givesFrom_104 : decode mX12_givesFrom.2.1 104 = .ok (.getfield 119, 3) := by decide +kernel
theorem dX12_givesFrom_107 : decode mX12_givesFrom.2.1 107 = .ok (.iload_n 1, 1) := by decide +kernel
theorem dX12_givesFrom_108 : decode mX12_givesFrom.2.1 108 = .ok (.iaload, 1) := by decide +kernel
theorem dX12_givesFrom_109 : decode mX12_givesFrom.2.1 109 = .ok (.aload_n 0, 1) := by decide +kernel
theorem dX12_givesFrom_110 : decode mX12_givesFrom.2.1 110 = .ok (.getfield 40, 3) := by decide +kernel
theorem dX12_givesFrom_113 : decode mX12_givesFrom.2.1 113 = .ok (.iload 5, 2) := by decide +kernel
theorem dX12_givesFrom_115 : decode mX12_givesFrom.2.1 115 = .ok (.iaload, 1) := by decide +kernel
theorem dX12_givesFrom_116 : decode mX12_givesFrom.2.1 116 = .ok (.iconst (-1), 1) := by decide +kernel
theorem dX12_givesFrom_117 : decode mX12_givesFrom.2.1 117 = .ok (.ixor, 1) := by decide +kernel
theorem dX12_givesFrom_118 : decode mX12_givesFrom.2.1 118 = .ok (.iand, 1) := by decide +kernel
theorem dX12_givesFrom_119 : decode mX12_givesFrom.2.1 119 = .ok (.ifCond .ne 29, 3) := by decide +kernel
theorem dX12_givesFrom_122 : decode mX12_givesFrom.2.1 122 = .ok (.aload_n 0, 1) := by decide +kernel
theorem dX12_givesFrom_123 : decode mX12_givesFrom.2.1 123 = .ok (.getfield 122, 3) := by decide +kernel
theorem dX12_givesFrom_126 : decode mX12_givesFrom.2.1 126 = .ok (.iload_n 1, 1) := by decide +kernel
theorem dX12_givesFrom_127 : decode mX12_givesFrom.2.1 127 = .ok (.iload 5, 2) := by decide +kernel
theorem dX12_givesFrom_129 : decode mX12_givesFrom.2.1 129 = .ok (.iastore, 1) := by decide +kernel
theorem dX12_givesFrom_130 : decode mX12_givesFrom.2.1 130 = .ok (.aload_n 0, 1) := by decide +kernel
theorem dX12_givesFrom_131 : decode mX12_givesFrom.2.1 131 = .ok (.iload_n 1, 1) := by decide +kernel
theorem dX12_givesFrom_132 : decode mX12_givesFrom.2.1 132 = .ok (.iconst 1, 1) := by decide +kernel
theorem dX12_givesFrom_133 : decode mX12_givesFrom.2.1 133 = .ok (.iadd, 1) := by decide +kernel
theorem dX12_givesFrom_134 : decode mX12_givesFrom.2.1 134 = .ok (.iload_n 2, 1) := by decide +kernel
theorem dX12_givesFrom_135 : decode mX12_givesFrom.2.1 135 = .ok (.iload_n 3, 1) := by decide +kernel
theorem dX12_givesFrom_136 : decode mX12_givesFrom.2.1 136 = .ok (.iconst 1, 1) := by decide +kernel
theorem dX12_givesFrom_137 : decode mX12_givesFrom.2.1 137 = .ok (.iload 5, 2) := by decide +kernel
theorem dX12_givesFrom_139 : decode mX12_givesFrom.2.1 139 = .ok (.ishl, 1) := by decide +kernel
theorem dX12_givesFrom_140 : decode mX12_givesFrom.2.1 140 = .ok (.ior, 1) := by decide +kernel
theorem dX12_givesFrom_141 : decode mX12_givesFrom.2.1 141 = .ok (.iload 4, 2) := by decide +kernel
theorem dX12_givesFrom_143 : decode mX12_givesFrom.2.1 143 = .ok (.iconst 1, 1) := by decide +kernel
theorem dX12_givesFrom_144 : decode mX12_givesFrom.2.1 144 = .ok (.iadd, 1) := by decide +kernel
theorem dX12_givesFrom_145 : decode mX12_givesFrom.2.1 145 = .ok (.invokevirtual 439, 3) := by decide +kernel
theorem dX12_givesFrom_148 : decode mX12_givesFrom.2.1 148 = .ok (.iinc 5 1, 3) := by decide +kernel
theorem dX12_givesFrom_151 : decode mX12_givesFrom.2.1 151 = .ok (.goto (-66), 3) := by decide +kernel
theorem dX12_givesFrom_154 : decode mX12_givesFrom.2.1 154 = .ok (.return_, 1) := by decide +kernel
theorem dX12_claims_0 : decode mX12_claims.2.1 0 = .ok (.aload_n 0, 1) := by decide +kernel
theorem dX12_claims_1 : decode mX12_claims.2.1 1 = .ok (.iconst 0, 1) := by decide +kernel
theorem dX12_claims_2 : decode mX12_claims.2.1 2 = .ok (.putfield 3, 3) := by decide +kernel
theorem dX12_claims_5 : decode mX12_claims.2.1 5 = .ok (.aload_n 0, 1) := by decide +kernel
theorem dX12_claims_6 : decode mX12_claims.2.1 6 = .ok (.bipush 80, 2) := by decide +kernel
theorem dX12_claims_8 : decode mX12_claims.2.1 8 = .ok (.invokevirtual 206, 3) := by decide +kernel
theorem dX12_claims_11 : decode mX12_claims.2.1 11 = .ok (.istore_n 1, 1) := by decide +kernel
theorem dX12_claims_12 : decode mX12_claims.2.1 12 = .ok (.iconst 0, 1) := by decide +kernel
theorem dX12_claims_13 : decode mX12_claims.2.1 13 = .ok (.istore_n 2, 1) := by decide +kernel
theorem dX12_claims_14 : decode mX12_claims.2.1 14 = .ok (.iconst 1, 1) := by decide +kernel
theorem dX12_claims_15 : decode mX12_claims.2.1 15 = .ok (.istore_n 3, 1) := by decide +kernel
theorem dX12_claims_16 : decode mX12_claims.2.1 16 = .ok (.iload_n 1, 1) := by decide +kernel
theorem dX12_claims_17 : decode mX12_claims.2.1 17 = .ok (.ifCond .le 7, 3) := by decide +kernel
theorem dX12_claims_20 : decode mX12_claims.2.1 20 = .ok (.iconst 1, 1) := by decide +kernel
theorem dX12_claims_21 : decode mX12_claims.2.1 21 = .ok (.goto 4, 3) := by decide +kernel
theorem dX12_claims_24 : decode mX12_claims.2.1 24 = .ok (.iconst 0, 1) := by decide +kernel
theorem dX12_claims_25 : decode mX12_claims.2.1 25 = .ok (.istore 4, 2) := by decide +kernel
theorem dX12_claims_27 : decode mX12_claims.2.1 27 = .ok (.iload 4, 2) := by decide +kernel
theorem dX12_claims_29 : decode mX12_claims.2.1 29 = .ok (.ifCond .eq 70, 3) := by decide +kernel
theorem dX12_claims_32 : decode mX12_claims.2.1 32 = .ok (.iload_n 2, 1) := by decide +kernel
theorem dX12_claims_33 : decode mX12_claims.2.1 33 = .ok (.bipush 8, 2) := by decide +kernel
theorem dX12_claims_35 : decode mX12_claims.2.1 35 = .ok (.if_icmp .ge 7, 3) := by decide +kernel
theorem dX12_claims_38 : decode mX12_claims.2.1 38 = .ok (.iconst 1, 1) := by decide +kernel
theorem dX12_claims_39 : decode mX12_claims.2.1 39 = .ok (.goto 4, 3) := by decide +kernel
theorem dX12_claims_42 : decode mX12_claims.2.1 42 = .ok (.iconst 0, 1) := by decide +kernel
theorem dX12_claims_43 : decode mX12_claims.2.1 43 = .ok (.istore_n 3, 1) := by decide +kernel
theorem dX12_claims_44 : decode mX12_claims.2.1 44 = .ok (.iload_n 3, 1) := by decide +kernel
theorem dX12_claims_45 : decode mX12_claims.2.1 45 = .ok (.ifCond .eq 31, 3) := by decide +kernel
theorem dX12_claims_48 : decode mX12_claims.2.1 48 = .ok (.aload_n 0, 1) := by decide +kernel
theorem dX12_claims_49 : decode mX12_claims.2.1 49 = .ok (.getfield 119, 3) := by decide +kernel
theorem dX12_claims_52 : decode mX12_claims.2.1 52 = .ok (.iload_n 2, 1) := by decide +kernel
theorem dX12_claims_53 : decode mX12_claims.2.1 53 = .ok (.aload_n 0, 1) := by decide +kernel
theorem dX12_claims_54 : decode mX12_claims.2.1 54 = .ok (.invokevirtual 229, 3) := by decide +kernel
theorem dX12_claims_57 : decode mX12_claims.2.1 57 = .ok (.iastore, 1) := by decide +kernel
theorem dX12_claims_58 : decode mX12_claims.2.1 58 = .ok (.aload_n 0, 1) := by decide +kernel
theorem dX12_claims_59 : decode mX12_claims.2.1 59 = .ok (.getfield 119, 3) := by decide +kernel
theorem dX12_claims_62 : decode mX12_claims.2.1 62 = .ok (.iload_n 2, 1) := by decide +kernel
theorem dX12_claims_63 : decode mX12_claims.2.1 63 = .ok (.iaload, 1) := by decide +kernel
theorem dX12_claims_64 : decode mX12_claims.2.1 64 = .ok (.ifCond .eq 7, 3) := by decide +kernel
theorem dX12_claims_67 : decode mX12_claims.2.1 67 = .ok (.iconst 1, 1) := by decide +kernel
theorem dX12_claims_68 : decode mX12_claims.2.1 68 = .ok (.goto 4, 3) := by decide +kernel
theorem dX12_claims_71 : decode mX12_claims.2.1 71 = .ok (.iconst 0, 1) := by decide +kernel
theorem dX12_claims_72 : decode mX12_claims.2.1 72 = .ok (.istore_n 3, 1) := by decide +kernel
theorem dX12_claims_73 : decode mX12_claims.2.1 73 = .ok (.iinc 2 1, 3) := by decide +kernel
theorem dX12_claims_76 : decode mX12_claims.2.1 76 = .ok (.iload_n 3, 1) := by decide +kernel
theorem dX12_claims_77 : decode mX12_claims.2.1 77 = .ok (.ifCond .eq 16, 3) := by decide +kernel
theorem dX12_claims_80 : decode mX12_claims.2.1 80 = .ok (.aload_n 0, 1) := by decide +kernel
theorem dX12_claims_81 : decode mX12_claims.2.1 81 = .ok (.bipush 59, 2) := by decide +kernel
theorem dX12_claims_83 : decode mX12_claims.2.1 83 = .ok (.invokevirtual 245, 3) := by decide +kernel
theorem dX12_claims_86 : decode mX12_claims.2.1 86 = .ok (.ifCond .eq 7, 3) := by decide +kernel
theorem dX12_claims_89 : decode mX12_claims.2.1 89 = .ok (.iconst 1, 1) := by decide +kernel
theorem dX12_claims_90 : decode mX12_claims.2.1 90 = .ok (.goto 4, 3) := by decide +kernel
theorem dX12_claims_93 : decode mX12_claims.2.1 93 = .ok (.iconst 0, 1) := by decide +kernel
theorem dX12_claims_94 : decode mX12_claims.2.1 94 = .ok (.istore 4, 2) := by decide +kernel
theorem dX12_claims_96 : decode mX12_claims.2.1 96 = .ok (.goto (-69), 3) := by decide +kernel
theorem dX12_claims_99 : decode mX12_claims.2.1 99 = .ok (.iload_n 3, 1) := by decide +kernel
theorem dX12_claims_100 : decode mX12_claims.2.1 100 = .ok (.ifCond .eq 14, 3) := by decide +kernel
theorem dX12_claims_103 : decode mX12_claims.2.1 103 = .ok (.aload_n 0, 1) := by decide +kernel
theorem dX12_claims_104 : decode mX12_claims.2.1 104 = .ok (.getfield 162, 3) := by decide +kernel
theorem dX12_claims_107 : decode mX12_claims.2.1 107 = .ok (.aload_n 0, 1) := by decide +kernel
theorem dX12_claims_108 : decode mX12_claims.2.1 108 = .ok (.getfield 172, 3) := by decide +kernel
theorem dX12_claims_111 : decode mX12_claims.2.1 111 = .ok (.if_icmp .ge 10, 3) := by decide +kernel
theorem dX12_claims_114 : decode mX12_claims.2.1 114 = .ok (.iconst (-1), 1) := by decide +kernel
theorem dX12_claims_115 : decode mX12_claims.2.1 115 = .ok (.aload_n 0, 1) := by decide +kernel
theorem dX12_claims_116 : decode mX12_claims.2.1 116 = .ok (.getfield 162, 3) := by decide +kernel
theorem dX12_claims_119 : decode mX12_claims.2.1 119 = .ok (.isub, 1) := by decide +kernel
theorem dX12_claims_120 : decode mX12_claims.2.1 120 = .ok (.ireturn, 1) := by decide +kernel
theorem dX12_claims_121 : decode mX12_claims.2.1 121 = .ok (.aload_n 0, 1) := by decide +kernel
theorem dX12_claims_122 : decode mX12_claims.2.1 122 = .ok (.iconst (-1), 1) := by decide +kernel
theorem dX12_claims_123 : decode mX12_claims.2.1 123 = .ok (.putfield 436, 3) := by decide +kernel
theorem dX12_claims_126 : decode mX12_claims.2.1 126 = .ok (.aload_n 0, 1) := by decide +kernel
theorem dX12_claims_127 : decode mX12_claims.2.1 127 = .ok (.iconst 0, 1) := by decide +kernel
theorem dX12_claims_128 : decode mX12_claims.2.1 128 = .ok (.iload_n 2, 1) := by decide +kernel
theorem dX12_claims_129 : decode mX12_claims.2.1 129 = .ok (.iconst 0, 1) := by decide +kernel
theorem dX12_claims_130 : decode mX12_claims.2.1 130 = .ok (.iconst 0, 1) := by decide +kernel
theorem dX12_claims_131 : decode mX12_claims.2.1 131 = .ok (.invokevirtual 439, 3) := by decide +kernel
theorem dX12_claims_134 : decode mX12_claims.2.1 134 = .ok (.aload_n 0, 1) := by decide +kernel
theorem dX12_claims_135 : decode mX12_claims.2.1 135 = .ok (.iconst 0, 1) := by decide +kernel
theorem dX12_claims_136 : decode mX12_claims.2.1 136 = .ok (.putfield 15, 3) := by decide +kernel
theorem dX12_claims_139 : decode mX12_claims.2.1 139 = .ok (.iconst 0, 1) := by decide +kernel
theorem dX12_claims_140 : decode mX12_claims.2.1 140 = .ok (.istore 5, 2) := by decide +kernel
theorem dX12_claims_142 : decode mX12_claims.2.1 142 = .ok (.iload 5, 2) := by decide +kernel
theorem dX12_claims_144 : decode mX12_claims.2.1 144 = .ok (.iload_n 2, 1) := by decide +kernel
theorem dX12_claims_145 : decode mX12_claims.2.1 145 = .ok (.if_icmp .ge 21, 3) := by decide +kernel
theorem dX12_claims_148 : decode mX12_claims.2.1 148 = .ok (.aload_n 0, 1) := by decide +kernel
theorem dX12_claims_149 : decode mX12_claims.2.1 149 = .ok (.aload_n 0, 1) := by decide +kernel
theorem dX12_claims_150 : decode mX12_claims.2.1 150 = .ok (.getfield 125, 3) := by decide +kernel
theorem dX12_claims_153 : decode mX12_claims.2.1 153 = .ok (.iload 5, 2) := by decide +kernel
theorem dX12_claims_155 : decode mX12_claims.2.1 155 = .ok (.iaload, 1) := by decide +kernel
theorem dX12_claims_156 : decode mX12_claims.2.1 156 = .ok (.i2l, 1) := by decide +kernel
theorem dX12_claims_157 : decode mX12_claims.2.1 157 = .ok (.invokevirtual 387, 3) := by decide +kernel
theorem dX12_claims_160 : decode mX12_claims.2.1 160 = .ok (.iinc 5 1, 3) := by decide +kernel
theorem dX12_claims_163 : decode mX12_claims.2.1 163 = .ok (.goto (-21), 3) := by decide +kernel
theorem dX12_claims_166 : decode mX12_claims.2.1 166 = .ok (.aload_n 0, 1) := by decide +kernel
theorem dX12_claims_167 : decode mX12_claims.2.1 167 = .ok (.getfield 436, 3) := by decide +kernel
theorem dX12_claims_170 : decode mX12_claims.2.1 170 = .ok (.ireturn, 1) := by decide +kernel
theorem dX12_balls_0 : decode mX12_balls.2.1 0 = .ok (.aload_n 0, 1) := by decide +kernel
theorem dX12_balls_1 : decode mX12_balls.2.1 1 = .ok (.iconst 0, 1) := by decide +kernel
theorem dX12_balls_2 : decode mX12_balls.2.1 2 = .ok (.putfield 3, 3) := by decide +kernel
theorem dX12_balls_5 : decode mX12_balls.2.1 5 = .ok (.aload_n 0, 1) := by decide +kernel
theorem dX12_balls_6 : decode mX12_balls.2.1 6 = .ok (.iload_n 1, 1) := by decide +kernel
theorem dX12_balls_7 : decode mX12_balls.2.1 7 = .ok (.invokevirtual 346, 3) := by decide +kernel
theorem dX12_balls_10 : decode mX12_balls.2.1 10 = .ok (.ifCond .eq 23, 3) := by decide +kernel
theorem dX12_balls_13 : decode mX12_balls.2.1 13 = .ok (.aload_n 0, 1) := by decide +kernel
theorem dX12_balls_14 : decode mX12_balls.2.1 14 = .ok (.iload_n 2, 1) := by decide +kernel
theorem dX12_balls_15 : decode mX12_balls.2.1 15 = .ok (.invokevirtual 332, 3) := by decide +kernel
theorem dX12_balls_18 : decode mX12_balls.2.1 18 = .ok (.ifCond .eq 15, 3) := by decide +kernel
theorem dX12_balls_21 : decode mX12_balls.2.1 21 = .ok (.iload_n 3, 1) := by decide +kernel
theorem dX12_balls_22 : decode mX12_balls.2.1 22 = .ok (.i2l, 1) := by decide +kernel
theorem dX12_balls_23 : decode mX12_balls.2.1 23 = .ok (.lconst 0, 1) := by decide +kernel
theorem dX12_balls_24 : decode mX12_balls.2.1 24 = .ok (.ldc2_w 443, 3) := by decide +kernel
theorem dX12_balls_27 : decode mX12_balls.2.1 27 = .ok (.invokestatic 143, 3) := by decide +kernel
theorem dX12_balls_30 : decode mX12_balls.2.1 30 = .ok (.ifCond .ne 5, 3) := by decide +kernel
theorem dX12_balls_33 : decode mX12_balls.2.1 33 = .ok (.iconst (-1), 1) := by decide +kernel
theorem dX12_balls_34 : decode mX12_balls.2.1 34 = .ok (.ireturn, 1) := by decide +kernel
theorem dX12_balls_35 : decode mX12_balls.2.1 35 = .ok (.lconst 1, 1) := by decide +kernel
theorem dX12_balls_36 : decode mX12_balls.2.1 36 = .ok (.lstore 4, 2) := by decide +kernel
theorem dX12_balls_38 : decode mX12_balls.2.1 38 = .ok (.lconst 1, 1) := by decide +kernel
theorem dX12_balls_39 : decode mX12_balls.2.1 39 = .ok (.lstore 6, 2) := by decide +kernel
theorem dX12_balls_41 : decode mX12_balls.2.1 41 = .ok (.aload_n 0, 1) := by decide +kernel
theorem dX12_balls_42 : decode mX12_balls.2.1 42 = .ok (.aload_n 0, 1) := by decide +kernel
theorem dX12_balls_43 : decode mX12_balls.2.1 43 = .ok (.getfield 49, 3) := by decide +kernel
theorem dX12_balls_46 : decode mX12_balls.2.1 46 = .ok (.iload_n 1, 1) := by decide +kernel
theorem dX12_balls_47 : decode mX12_balls.2.1 47 = .ok (.invokevirtual 325, 3) := by decide +kernel
theorem dX12_balls_50 : decode mX12_balls.2.1 50 = .ok (.aload_n 0, 1) := by decide +kernel
theorem dX12_balls_51 : decode mX12_balls.2.1 51 = .ok (.getfield 49, 3) := by decide +kernel
theorem dX12_balls_54 : decode mX12_balls.2.1 54 = .ok (.bipush 24, 2) := by decide +kernel
theorem dX12_balls_56 : decode mX12_balls.2.1 56 = .ok (.iaload, 1) := by decide +kernel
theorem dX12_balls_57 : decode mX12_balls.2.1 57 = .ok (.iconst (-1), 1) := by decide +kernel
theorem dX12_balls_58 : decode mX12_balls.2.1 58 = .ok (.ixor, 1) := by decide +kernel
theorem dX12_balls_59 : decode mX12_balls.2.1 59 = .ok (.iand, 1) := by decide +kernel
theorem dX12_balls_60 : decode mX12_balls.2.1 60 = .ok (.invokestatic 300, 3) := by decide +kernel
theorem dX12_balls_63 : decode mX12_balls.2.1 63 = .ok (.istore 8, 2) := by decide +kernel
theorem dX12_balls_65 : decode mX12_balls.2.1 65 = .ok (.iload 8, 2) := by decide +kernel
theorem dX12_balls_67 : decode mX12_balls.2.1 67 = .ok (.ifCond .le 27, 3) := by decide +kernel
theorem dX12_balls_70 : decode mX12_balls.2.1 70 = .ok (.lload 4, 2) := by decide +kernel
theorem dX12_balls_72 : decode mX12_balls.2.1 72 = .ok (.bipush 10, 2) := by decide +kernel
theorem dX12_balls_74 : decode mX12_balls.2.1 74 = .ok (.iload_n 3, 1) := by decide +kernel
theorem dX12_balls_75 : decode mX12_balls.2.1 75 = .ok (.isub, 1) := by decide +kernel
theorem dX12_balls_76 : decode mX12_balls.2.1 76 = .ok (.i2l, 1) := by decide +kernel
theorem dX12_balls_77 : decode mX12_balls.2.1 77 = .ok (.lmul, 1) := by decide +kernel
theorem dX12_balls_78 : decode mX12_balls.2.1 78 = .ok (.lstore 4, 2) := by decide +kernel
theorem dX12_balls_80 : decode mX12_balls.2.1 80 = .ok (.lload 6, 2) := by decide +kernel
theorem dX12_balls_82 : decode mX12_balls.2.1 82 = .ok (.ldc2_w 443, 3) := by decide +kernel
theorem dX12_balls_85 : decode mX12_balls.2.1 85 = .ok (.lmul, 1) := by decide +kernel
theorem dX12_balls_86 : decode mX12_balls.2.1 86 = .ok (.lstore 6, 2) := by decide +kernel
theorem dX12_balls_88 : decode mX12_balls.2.1 88 = .ok (.iinc 8 (-1), 3) := by decide +kernel
theorem dX12_balls_91 : decode mX12_balls.2.1 91 = .ok (.goto (-26), 3) := by decide +kernel
theorem dX12_balls_94 : decode mX12_balls.2.1 94 = .ok (.aload_n 0, 1) := by decide +kernel
theorem dX12_balls_95 : decode mX12_balls.2.1 95 = .ok (.aload_n 0, 1) := by decide +kernel
theorem dX12_balls_96 : decode mX12_balls.2.1 96 = .ok (.getfield 49, 3) := by decide +kernel
theorem dX12_balls_99 : decode mX12_balls.2.1 99 = .ok (.iload_n 1, 1) := by decide +kernel
theorem dX12_balls_100 : decode mX12_balls.2.1 100 = .ok (.invokevirtual 340, 3) := by decide +kernel
theorem dX12_balls_103 : decode mX12_balls.2.1 103 = .ok (.iload_n 2, 1) := by decide +kernel
theorem dX12_balls_104 : decode mX12_balls.2.1 104 = .ok (.invokestatic 296, 3) := by decide +kernel
theorem dX12_balls_107 : decode mX12_balls.2.1 107 = .ok (.istore 8, 2) := by decide +kernel
theorem dX12_balls_109 : decode mX12_balls.2.1 109 = .ok (.aload_n 0, 1) := by decide +kernel
theorem dX12_balls_110 : decode mX12_balls.2.1 110 = .ok (.iload_n 1, 1) := by decide +kernel
theorem dX12_balls_111 : decode mX12_balls.2.1 111 = .ok (.aload_n 0, 1) := by decide +kernel
theorem dX12_balls_112 : decode mX12_balls.2.1 112 = .ok (.getfield 49, 3) := by decide +kernel
theorem dX12_balls_115 : decode mX12_balls.2.1 115 = .ok (.iload_n 2, 1) := by decide +kernel
theorem dX12_balls_116 : decode mX12_balls.2.1 116 = .ok (.iaload, 1) := by decide +kernel
theorem dX12_balls_117 : decode mX12_balls.2.1 117 = .ok (.invokevirtual 315, 3) := by decide +kernel
theorem dX12_balls_120 : decode mX12_balls.2.1 120 = .ok (.ifCond .ne 7, 3) := by decide +kernel
theorem dX12_balls_123 : decode mX12_balls.2.1 123 = .ok (.lconst 0, 1) := by decide +kernel
theorem dX12_balls_124 : decode mX12_balls.2.1 124 = .ok (.goto 18, 3) := by decide +kernel
theorem dX12_balls_127 : decode mX12_balls.2.1 127 = .ok (.iload 8, 2) := by decide +kernel
theorem dX12_balls_129 : decode mX12_balls.2.1 129 = .ok (.ifCond .eq 8, 3) := by decide +kernel
theorem dX12_balls_132 : decode mX12_balls.2.1 132 = .ok (.lload 6, 2) := by decide +kernel
theorem dX12_balls_134 : decode mX12_balls.2.1 134 = .ok (.goto 8, 3) := by decide +kernel
theorem dX12_balls_137 : decode mX12_balls.2.1 137 = .ok (.lload 6, 2) := by decide +kernel
theorem dX12_balls_139 : decode mX12_balls.2.1 139 = .ok (.lload 4, 2) := by decide +kernel
theorem dX12_balls_141 : decode mX12_balls.2.1 141 = .ok (.lsub, 1) := by decide +kernel
theorem dX12_balls_142 : decode mX12_balls.2.1 142 = .ok (.lstore 9, 2) := by decide +kernel
theorem dX12_balls_144 : decode mX12_balls.2.1 144 = .ok (.lload 9, 2) := by decide +kernel
theorem dX12_balls_146 : decode mX12_balls.2.1 146 = .ok (.lload 6, 2) := by decide +kernel
theorem dX12_balls_148 : decode mX12_balls.2.1 148 = .ok (.invokestatic 7, 3) := by decide +kernel
theorem dX12_balls_151 : decode mX12_balls.2.1 151 = .ok (.lstore 11, 2) := by decide +kernel
theorem dX12_balls_153 : decode mX12_balls.2.1 153 = .ok (.aload_n 0, 1) := by decide +kernel
theorem dX12_balls_154 : decode mX12_balls.2.1 154 = .ok (.iconst 0, 1) := by decide +kernel
theorem dX12_balls_155 : decode mX12_balls.2.1 155 = .ok (.putfield 15, 3) := by decide +kernel
theorem dX12_balls_158 : decode mX12_balls.2.1 158 = .ok (.aload_n 0, 1) := by decide +kernel
theorem dX12_balls_159 : decode mX12_balls.2.1 159 = .ok (.lload 9, 2) := by decide +kernel
theorem dX12_balls_161 : decode mX12_balls.2.1 161 = .ok (.lload 11, 2) := by decide +kernel
theorem dX12_balls_163 : decode mX12_balls.2.1 163 = .ok (.ldiv, 1) := by decide +kernel
theorem dX12_balls_164 : decode mX12_balls.2.1 164 = .ok (.invokevirtual 387, 3) := by decide +kernel
theorem dX12_balls_167 : decode mX12_balls.2.1 167 = .ok (.aload_n 0, 1) := by decide +kernel
theorem dX12_balls_168 : decode mX12_balls.2.1 168 = .ok (.lload 6, 2) := by decide +kernel
theorem dX12_balls_170 : decode mX12_balls.2.1 170 = .ok (.lload 11, 2) := by decide +kernel
theorem dX12_balls_172 : decode mX12_balls.2.1 172 = .ok (.ldiv, 1) := by decide +kernel
theorem dX12_balls_173 : decode mX12_balls.2.1 173 = .ok (.invokevirtual 387, 3) := by decide +kernel
theorem dX12_balls_176 : decode mX12_balls.2.1 176 = .ok (.iconst 0, 1) := by decide +kernel
theorem dX12_balls_177 : decode mX12_balls.2.1 177 = .ok (.ireturn, 1) := by decide +kernel
theorem dX12_pairsLet_0 : decode mX12_pairsLet.2.1 0 = .ok (.iconst 0, 1) := by decide +kernel
theorem dX12_pairsLet_1 : decode mX12_pairsLet.2.1 1 = .ok (.istore_n 1, 1) := by decide +kernel
theorem dX12_pairsLet_2 : decode mX12_pairsLet.2.1 2 = .ok (.iconst 0, 1) := by decide +kernel
theorem dX12_pairsLet_3 : decode mX12_pairsLet.2.1 3 = .ok (.istore_n 2, 1) := by decide +kernel
theorem dX12_pairsLet_4 : decode mX12_pairsLet.2.1 4 = .ok (.iload_n 2, 1) := by decide +kernel
theorem dX12_pairsLet_5 : decode mX12_pairsLet.2.1 5 = .ok (.aload_n 0, 1) := by decide +kernel
theorem dX12_pairsLet_6 : decode mX12_pairsLet.2.1 6 = .ok (.getfield 147, 3) := by decide +kernel
theorem dX12_pairsLet_9 : decode mX12_pairsLet.2.1 9 = .ok (.if_icmp .ge 52, 3) := by decide +kernel
theorem dX12_pairsLet_12 : decode mX12_pairsLet.2.1 12 = .ok (.iconst 0, 1) := by decide +kernel
theorem dX12_pairsLet_13 : decode mX12_pairsLet.2.1 13 = .ok (.istore_n 3, 1) := by decide +kernel
theorem dX12_pairsLet_14 : decode mX12_pairsLet.2.1 14 = .ok (.iload_n 3, 1) := by decide +kernel
theorem dX12_pairsLet_15 : decode mX12_pairsLet.2.1 15 = .ok (.aload_n 0, 1) := by decide +kernel
theorem dX12_pairsLet_16 : decode mX12_pairsLet.2.1 16 = .ok (.getfield 140, 3) := by decide +kernel
theorem dX12_pairsLet_19 : decode mX12_pairsLet.2.1 19 = .ok (.if_icmp .ge 36, 3) := by decide +kernel
theorem dX12_pairsLet_22 : decode mX12_pairsLet.2.1 22 = .ok (.iload_n 1, 1) := by decide +kernel
theorem dX12_pairsLet_23 : decode mX12_pairsLet.2.1 23 = .ok (.aload_n 0, 1) := by decide +kernel
theorem dX12_pairsLet_24 : decode mX12_pairsLet.2.1 24 = .ok (.aload_n 0, 1) := by decide +kernel
theorem dX12_pairsLet_25 : decode mX12_pairsLet.2.1 25 = .ok (.getfield 49, 3) := by decide +kernel
theorem dX12_pairsLet_28 : decode mX12_pairsLet.2.1 28 = .ok (.iload_n 2, 1) := by decide +kernel
theorem dX12_pairsLet_29 : decode mX12_pairsLet.2.1 29 = .ok (.aload_n 0, 1) := by decide +kernel
theorem dX12_pairsLet_30 : decode mX12_pairsLet.2.1 30 = .ok (.getfield 30, 3) := by decide +kernel
theorem dX12_pairsLet_33 : decode mX12_pairsLet.2.1 33 = .ok (.iload_n 3, 1) := by decide +kernel
theorem dX12_pairsLet_34 : decode mX12_pairsLet.2.1 34 = .ok (.iaload, 1) := by decide +kernel
theorem dX12_pairsLet_35 : decode mX12_pairsLet.2.1 35 = .ok (.aload_n 0, 1) := by decide +kernel
theorem dX12_pairsLet_36 : decode mX12_pairsLet.2.1 36 = .ok (.getfield 34, 3) := by decide +kernel
theorem dX12_pairsLet_39 : decode mX12_pairsLet.2.1 39 = .ok (.iload_n 3, 1) := by decide +kernel
theorem dX12_pairsLet_40 : decode mX12_pairsLet.2.1 40 = .ok (.iaload, 1) := by decide +kernel
theorem dX12_pairsLet_41 : decode mX12_pairsLet.2.1 41 = .ok (.invokevirtual 308, 3) := by decide +kernel
theorem dX12_pairsLet_44 : decode mX12_pairsLet.2.1 44 = .ok (.invokestatic 175, 3) := by decide +kernel
theorem dX12_pairsLet_47 : decode mX12_pairsLet.2.1 47 = .ok (.iadd, 1) := by decide +kernel
theorem dX12_pairsLet_48 : decode mX12_pairsLet.2.1 48 = .ok (.istore_n 1, 1) := by decide +kernel
theorem dX12_pairsLet_49 : decode mX12_pairsLet.2.1 49 = .ok (.iinc 3 1, 3) := by decide +kernel
theorem dX12_pairsLet_52 : decode mX12_pairsLet.2.1 52 = .ok (.goto (-38), 3) := by decide +kernel
theorem dX12_pairsLet_55 : decode mX12_pairsLet.2.1 55 = .ok (.iinc 2 1, 3) := by decide +kernel
theorem dX12_pairsLet_58 : decode mX12_pairsLet.2.1 58 = .ok (.goto (-54), 3) := by decide +kernel
theorem dX12_pairsLet_61 : decode mX12_pairsLet.2.1 61 = .ok (.iload_n 1, 1) := by decide +kernel
theorem dX12_pairsLet_62 : decode mX12_pairsLet.2.1 62 = .ok (.ireturn, 1) := by decide +kernel
theorem dX12_law_0 : decode mX12_law.2.1 0 = .ok (.aload_n 0, 1) := by decide +kernel
theorem dX12_law_1 : decode mX12_law.2.1 1 = .ok (.iconst 0, 1) := by decide +kernel
theorem dX12_law_2 : decode mX12_law.2.1 2 = .ok (.putfield 3, 3) := by decide +kernel
theorem dX12_law_5 : decode mX12_law.2.1 5 = .ok (.aload_n 0, 1) := by decide +kernel
theorem dX12_law_6 : decode mX12_law.2.1 6 = .ok (.invokevirtual 285, 3) := by decide +kernel
theorem dX12_law_9 : decode mX12_law.2.1 9 = .ok (.istore_n 1, 1) := by decide +kernel
theorem dX12_law_10 : decode mX12_law.2.1 10 = .ok (.iload_n 1, 1) := by decide +kernel
theorem dX12_law_11 : decode mX12_law.2.1 11 = .ok (.ifCond .ge 11, 3) := by decide +kernel
theorem dX12_law_14 : decode mX12_law.2.1 14 = .ok (.iload_n 1, 1) := by decide +kernel
theorem dX12_law_15 : decode mX12_law.2.1 15 = .ok (.iconst 1, 1) := by decide +kernel
theorem dX12_law_16 : decode mX12_law.2.1 16 = .ok (.iadd, 1) := by decide +kernel
theorem dX12_law_17 : decode mX12_law.2.1 17 = .ok (.sipush 10000, 3) := by decide +kernel
theorem dX12_law_20 : decode mX12_law.2.1 20 = .ok (.isub, 1) := by decide +kernel
theorem dX12_law_21 : decode mX12_law.2.1 21 = .ok (.ireturn, 1) := by decide +kernel
theorem dX12_law_22 : decode mX12_law.2.1 22 = .ok (.aload_n 0, 1) := by decide +kernel
theorem dX12_law_23 : decode mX12_law.2.1 23 = .ok (.invokevirtual 445, 3) := by decide +kernel
theorem dX12_law_26 : decode mX12_law.2.1 26 = .ok (.istore_n 2, 1) := by decide +kernel
theorem dX12_law_27 : decode mX12_law.2.1 27 = .ok (.aload_n 0, 1) := by decide +kernel
theorem dX12_law_28 : decode mX12_law.2.1 28 = .ok (.getfield 282, 3) := by decide +kernel
theorem dX12_law_31 : decode mX12_law.2.1 31 = .ok (.istore_n 3, 1) := by decide +kernel
theorem dX12_law_32 : decode mX12_law.2.1 32 = .ok (.iconst 0, 1) := by decide +kernel
theorem dX12_law_33 : decode mX12_law.2.1 33 = .ok (.istore 4, 2) := by decide +kernel
theorem dX12_law_35 : decode mX12_law.2.1 35 = .ok (.iload 4, 2) := by decide +kernel
theorem dX12_law_37 : decode mX12_law.2.1 37 = .ok (.aload_n 0, 1) := by decide +kernel
theorem dX12_law_38 : decode mX12_law.2.1 38 = .ok (.getfield 282, 3) := by decide +kernel
theorem dX12_law_41 : decode mX12_law.2.1 41 = .ok (.if_icmp .ge 23, 3) := by decide +kernel
theorem dX12_law_44 : decode mX12_law.2.1 44 = .ok (.aload_n 0, 1) := by decide +kernel
theorem dX12_law_45 : decode mX12_law.2.1 45 = .ok (.getfield 128, 3) := by decide +kernel
theorem dX12_law_48 : decode mX12_law.2.1 48 = .ok (.iload 4, 2) := by decide +kernel
theorem dX12_law_50 : decode mX12_law.2.1 50 = .ok (.aload_n 0, 1) := by decide +kernel
theorem dX12_law_51 : decode mX12_law.2.1 51 = .ok (.getfield 61, 3) := by decide +kernel
theorem dX12_law_54 : decode mX12_law.2.1 54 = .ok (.iload 4, 2) := by decide +kernel
theorem dX12_law_56 : decode mX12_law.2.1 56 = .ok (.iaload, 1) := by decide +kernel
theorem dX12_law_57 : decode mX12_law.2.1 57 = .ok (.iastore, 1) := by decide +kernel
theorem dX12_law_58 : decode mX12_law.2.1 58 = .ok (.iinc 4 1, 3) := by decide +kernel
theorem dX12_law_61 : decode mX12_law.2.1 61 = .ok (.goto (-26), 3) := by decide +kernel
theorem dX12_law_64 : decode mX12_law.2.1 64 = .ok (.aload_n 0, 1) := by decide +kernel
theorem dX12_law_65 : decode mX12_law.2.1 65 = .ok (.aload_n 0, 1) := by decide +kernel
theorem dX12_law_66 : decode mX12_law.2.1 66 = .ok (.getfield 64, 3) := by decide +kernel
theorem dX12_law_69 : decode mX12_law.2.1 69 = .ok (.aload_n 0, 1) := by decide +kernel
theorem dX12_law_70 : decode mX12_law.2.1 70 = .ok (.getfield 261, 3) := by decide +kernel
theorem dX12_law_73 : decode mX12_law.2.1 73 = .ok (.invokevirtual 288, 3) := by decide +kernel
theorem dX12_law_76 : decode mX12_law.2.1 76 = .ok (.aload_n 0, 1) := by decide +kernel
theorem dX12_law_77 : decode mX12_law.2.1 77 = .ok (.invokevirtual 445, 3) := by decide +kernel
theorem dX12_law_80 : decode mX12_law.2.1 80 = .ok (.istore 4, 2) := by decide +kernel
theorem dX12_law_82 : decode mX12_law.2.1 82 = .ok (.aload_n 0, 1) := by decide +kernel
theorem dX12_law_83 : decode mX12_law.2.1 83 = .ok (.aload_n 0, 1) := by decide +kernel
theorem dX12_law_84 : decode mX12_law.2.1 84 = .ok (.getfield 128, 3) := by decide +kernel
theorem dX12_law_87 : decode mX12_law.2.1 87 = .ok (.iload_n 3, 1) := by decide +kernel
theorem dX12_law_88 : decode mX12_law.2.1 88 = .ok (.invokevirtual 288, 3) := by decide +kernel
theorem dX12_law_91 : decode mX12_law.2.1 91 = .ok (.aload_n 0, 1) := by decide +kernel
theorem dX12_law_92 : decode mX12_law.2.1 92 = .ok (.iconst 0, 1) := by decide +kernel
theorem dX12_law_93 : decode mX12_law.2.1 93 = .ok (.putfield 15, 3) := by decide +kernel
theorem dX12_law_96 : decode mX12_law.2.1 96 = .ok (.aload_n 0, 1) := by decide +kernel
theorem dX12_law_97 : decode mX12_law.2.1 97 = .ok (.iload 4, 2) := by decide +kernel
theorem dX12_law_99 : decode mX12_law.2.1 99 = .ok (.i2l, 1) := by decide +kernel
theorem dX12_law_100 : decode mX12_law.2.1 100 = .ok (.invokevirtual 387, 3) := by decide +kernel
theorem dX12_law_103 : decode mX12_law.2.1 103 = .ok (.aload_n 0, 1) := by decide +kernel
theorem dX12_law_104 : decode mX12_law.2.1 104 = .ok (.iload_n 2, 1) := by decide +kernel
theorem dX12_law_105 : decode mX12_law.2.1 105 = .ok (.i2l, 1) := by decide +kernel
theorem dX12_law_106 : decode mX12_law.2.1 106 = .ok (.invokevirtual 387, 3) := by decide +kernel
theorem dX12_law_109 : decode mX12_law.2.1 109 = .ok (.iload 4, 2) := by decide +kernel
theorem dX12_law_111 : decode mX12_law.2.1 111 = .ok (.iload_n 2, 1) := by decide +kernel
theorem dX12_law_112 : decode mX12_law.2.1 112 = .ok (.isub, 1) := by decide +kernel
theorem dX12_law_113 : decode mX12_law.2.1 113 = .ok (.ireturn, 1) := by decide +kernel
theorem dX12_isRest_0 : decode mX12_isRest.2.1 0 = .ok (.iconst 1, 1) := by decide +kernel
theorem dX12_isRest_1 : decode mX12_isRest.2.1 1 = .ok (.istore_n 3, 1) := by decide +kernel
theorem dX12_isRest_2 : decode mX12_isRest.2.1 2 = .ok (.iconst 0, 1) := by decide +kernel
theorem dX12_isRest_3 : decode mX12_isRest.2.1 3 = .ok (.istore 4, 2) := by decide +kernel
theorem dX12_isRest_5 : decode mX12_isRest.2.1 5 = .ok (.iload 4, 2) := by decide +kernel
theorem dX12_isRest_7 : decode mX12_isRest.2.1 7 = .ok (.bipush 9, 2) := by decide +kernel
theorem dX12_isRest_9 : decode mX12_isRest.2.1 9 = .ok (.if_icmp .gt 65, 3) := by decide +kernel
theorem dX12_isRest_12 : decode mX12_isRest.2.1 12 = .ok (.iload_n 3, 1) := by decide +kernel
theorem dX12_isRest_13 : decode mX12_isRest.2.1 13 = .ok (.ifCond .eq 53, 3) := by decide +kernel
theorem dX12_isRest_16 : decode mX12_isRest.2.1 16 = .ok (.iload_n 2, 1) := by decide +kernel
theorem dX12_isRest_17 : decode mX12_isRest.2.1 17 = .ok (.iload 4, 2) := by decide +kernel
theorem dX12_isRest_19 : decode mX12_isRest.2.1 19 = .ok (.imul, 1) := by decide +kernel
theorem dX12_isRest_20 : decode mX12_isRest.2.1 20 = .ok (.iload 4, 2) := by decide +kernel
theorem dX12_isRest_22 : decode mX12_isRest.2.1 22 = .ok (.iload_n 1, 1) := by decide +kernel
theorem dX12_isRest_23 : decode mX12_isRest.2.1 23 = .ok (.imul, 1) := by decide +kernel
theorem dX12_isRest_24 : decode mX12_isRest.2.1 24 = .ok (.iconst 3, 1) := by decide +kernel
theorem dX12_isRest_25 : decode mX12_isRest.2.1 25 = .ok (.idiv, 1) := by decide +kernel
theorem dX12_isRest_26 : decode mX12_isRest.2.1 26 = .ok (.isub, 1) := by decide +kernel
theorem dX12_isRest_27 : decode mX12_isRest.2.1 27 = .ok (.iload_n 2, 1) := by decide +kernel
theorem dX12_isRest_28 : decode mX12_isRest.2.1 28 = .ok (.iload_n 0, 1) := by decide +kernel
theorem dX12_isRest_29 : decode mX12_isRest.2.1 29 = .ok (.imul, 1) := by decide +kernel
theorem dX12_isRest_30 : decode mX12_isRest.2.1 30 = .ok (.iload_n 0, 1) := by decide +kernel
theorem dX12_isRest_31 : decode mX12_isRest.2.1 31 = .ok (.iload_n 1, 1) := by decide +kernel
theorem dX12_isRest_32 : decode mX12_isRest.2.1 32 = .ok (.imul, 1) := by decide +kernel
theorem dX12_isRest_33 : decode mX12_isRest.2.1 33 = .ok (.iconst 3, 1) := by decide +kernel
theorem dX12_isRest_34 : decode mX12_isRest.2.1 34 = .ok (.idiv, 1) := by decide +kernel
theorem dX12_isRest_35 : decode mX12_isRest.2.1 35 = .ok (.isub, 1) := by decide +kernel
theorem dX12_isRest_36 : decode mX12_isRest.2.1 36 = .ok (.if_icmp .gt 30, 3) := by decide +kernel
theorem dX12_isRest_39 : decode mX12_isRest.2.1 39 = .ok (.iload_n 2, 1) := by decide +kernel
theorem dX12_isRest_40 : decode mX12_isRest.2.1 40 = .ok (.iload 4, 2) := by decide +kernel
theorem dX12_isRest_42 : decode mX12_isRest.2.1 42 = .ok (.imul, 1) := by decide +kernel
theorem dX12_isRest_43 : decode mX12_isRest.2.1 43 = .ok (.iload 4, 2) := by decide +kernel
theorem dX12_isRest_45 : decode mX12_isRest.2.1 45 = .ok (.iload_n 0, 1) := by decide +kernel
theorem dX12_isRest_46 : decode mX12_isRest.2.1 46 = .ok (.imul, 1) := by decide +kernel
theorem dX12_isRest_47 : decode mX12_isRest.2.1 47 = .ok (.iconst 3, 1) := by decide +kernel
theorem dX12_isRest_48 : decode mX12_isRest.2.1 48 = .ok (.idiv, 1) := by decide +kernel
theorem dX12_isRest_49 : decode mX12_isRest.2.1 49 = .ok (.isub, 1) := by decide +kernel
theorem dX12_isRest_50 : decode mX12_isRest.2.1 50 = .ok (.iload_n 2, 1) := by decide +kernel
theorem dX12_isRest_51 : decode mX12_isRest.2.1 51 = .ok (.iload_n 1, 1) := by decide +kernel
theorem dX12_isRest_52 : decode mX12_isRest.2.1 52 = .ok (.imul, 1) := by decide +kernel
theorem dX12_isRest_53 : decode mX12_isRest.2.1 53 = .ok (.iload_n 0, 1) := by decide +kernel
theorem dX12_isRest_54 : decode mX12_isRest.2.1 54 = .ok (.iload_n 1, 1) := by decide +kernel
theorem dX12_isRest_55 : decode mX12_isRest.2.1 55 = .ok (.imul, 1) := by decide +kernel
theorem dX12_isRest_56 : decode mX12_isRest.2.1 56 = .ok (.iconst 3, 1) := by decide +kernel
theorem dX12_isRest_57 : decode mX12_isRest.2.1 57 = .ok (.idiv, 1) := by decide +kernel
theorem dX12_isRest_58 : decode mX12_isRest.2.1 58 = .ok (.isub, 1) := by decide +kernel
theorem dX12_isRest_59 : decode mX12_isRest.2.1 59 = .ok (.if_icmp .gt 7, 3) := by decide +kernel
theorem dX12_isRest_62 : decode mX12_isRest.2.1 62 = .ok (.iconst 1, 1) := by decide +kernel
theorem dX12_isRest_63 : decode mX12_isRest.2.1 63 = .ok (.goto 4, 3) := by decide +kernel
theorem dX12_isRest_66 : decode mX12_isRest.2.1 66 = .ok (.iconst 0, 1) := by decide +kernel
theorem dX12_isRest_67 : decode mX12_isRest.2.1 67 = .ok (.istore_n 3, 1) := by decide +kernel
theorem dX12_isRest_68 : decode mX12_isRest.2.1 68 = .ok (.iinc 4 1, 3) := by decide +kernel
theorem dX12_isRest_71 : decode mX12_isRest.2.1 71 = .ok (.goto (-66), 3) := by decide +kernel
theorem dX12_isRest_74 : decode mX12_isRest.2.1 74 = .ok (.iload_n 3, 1) := by decide +kernel
theorem dX12_isRest_75 : decode mX12_isRest.2.1 75 = .ok (.ireturn, 1) := by decide +kernel
theorem dX12_rests_0 : decode mX12_rests.2.1 0 = .ok (.aload_n 0, 1) := by decide +kernel
theorem dX12_rests_1 : decode mX12_rests.2.1 1 = .ok (.iconst 0, 1) := by decide +kernel
theorem dX12_rests_2 : decode mX12_rests.2.1 2 = .ok (.putfield 3, 3) := by decide +kernel
theorem dX12_rests_5 : decode mX12_rests.2.1 5 = .ok (.iload_n 1, 1) := by decide +kernel
theorem dX12_rests_6 : decode mX12_rests.2.1 6 = .ok (.i2l, 1) := by decide +kernel
theorem dX12_rests_7 : decode mX12_rests.2.1 7 = .ok (.lconst 0, 1) := by decide +kernel
theorem dX12_rests_8 : decode mX12_rests.2.1 8 = .ok (.ldc2_w 416, 3) := by decide +kernel
theorem dX12_rests_11 : decode mX12_rests.2.1 11 = .ok (.invokestatic 143, 3) := by decide +kernel
theorem dX12_rests_14 : decode mX12_rests.2.1 14 = .ok (.ifCond .ne 5, 3) := by decide +kernel
theorem dX12_rests_17 : decode mX12_rests.2.1 17 = .ok (.iconst (-1), 1) := by decide +kernel
theorem dX12_rests_18 : decode mX12_rests.2.1 18 = .ok (.ireturn, 1) := by decide +kernel
theorem dX12_rests_19 : decode mX12_rests.2.1 19 = .ok (.iconst 0, 1) := by decide +kernel
theorem dX12_rests_20 : decode mX12_rests.2.1 20 = .ok (.istore_n 2, 1) := by decide +kernel
theorem dX12_rests_21 : decode mX12_rests.2.1 21 = .ok (.aload_n 0, 1) := by decide +kernel
theorem dX12_rests_22 : decode mX12_rests.2.1 22 = .ok (.iconst 0, 1) := by decide +kernel
theorem dX12_rests_23 : decode mX12_rests.2.1 23 = .ok (.putfield 15, 3) := by decide +kernel
theorem dX12_rests_26 : decode mX12_rests.2.1 26 = .ok (.iconst 0, 1) := by decide +kernel
theorem dX12_rests_27 : decode mX12_rests.2.1 27 = .ok (.istore_n 3, 1) := by decide +kernel
theorem dX12_rests_28 : decode mX12_rests.2.1 28 = .ok (.iload_n 3, 1) := by decide +kernel
theorem dX12_rests_29 : decode mX12_rests.2.1 29 = .ok (.bipush 9, 2) := by decide +kernel
theorem dX12_rests_31 : decode mX12_rests.2.1 31 = .ok (.if_icmp .gt 55, 3) := by decide +kernel
theorem dX12_rests_34 : decode mX12_rests.2.1 34 = .ok (.iconst 0, 1) := by decide +kernel
theorem dX12_rests_35 : decode mX12_rests.2.1 35 = .ok (.istore 4, 2) := by decide +kernel
theorem dX12_rests_37 : decode mX12_rests.2.1 37 = .ok (.iload 4, 2) := by decide +kernel
theorem dX12_rests_39 : decode mX12_rests.2.1 39 = .ok (.bipush 9, 2) := by decide +kernel
theorem dX12_rests_41 : decode mX12_rests.2.1 41 = .ok (.if_icmp .gt 39, 3) := by decide +kernel
theorem dX12_rests_44 : decode mX12_rests.2.1 44 = .ok (.iload_n 3, 1) := by decide +kernel
theorem dX12_rests_45 : decode mX12_rests.2.1 45 = .ok (.iload 4, 2) := by decide +kernel
theorem dX12_rests_47 : decode mX12_rests.2.1 47 = .ok (.iload_n 1, 1) := by decide +kernel
theorem dX12_rests_48 : decode mX12_rests.2.1 48 = .ok (.invokestatic 448, 3) := by decide +kernel
theorem dX12_rests_51 : decode mX12_rests.2.1 51 = .ok (.ifCond .eq 23, 3) := by decide +kernel
theorem dX12_rests_54 : decode mX12_rests.2.1 54 = .ok (.iload_n 2, 1) := by decide +kernel
theorem dX12_rests_55 : decode mX12_rests.2.1 55 = .ok (.ifCond .ne 16, 3) := by decide +kernel
theorem dX12_rests_58 : decode mX12_rests.2.1 58 = .ok (.aload_n 0, 1) := by decide +kernel
theorem dX12_rests_59 : decode mX12_rests.2.1 59 = .ok (.iload_n 3, 1) := by decide +kernel
theorem dX12_rests_60 : decode mX12_rests.2.1 60 = .ok (.i2l, 1) := by decide +kernel
theorem dX12_rests_61 : decode mX12_rests.2.1 61 = .ok (.invokevirtual 387, 3) := by decide +kernel
theorem dX12_rests_64 : decode mX12_rests.2.1 64 = .ok (.aload_n 0, 1) := by decide +kernel
theorem dX12_rests_65 : decode mX12_rests.2.1 65 = .ok (.iload 4, 2) := by decide +kernel
theorem dX12_rests_67 : decode mX12_rests.2.1 67 = .ok (.i2l, 1) := by decide +kernel
theorem dX12_rests_68 : decode mX12_rests.2.1 68 = .ok (.invokevirtual 387, 3) := by decide +kernel
theorem dX12_rests_71 : decode mX12_rests.2.1 71 = .ok (.iinc 2 1, 3) := by decide +kernel
theorem dX12_rests_74 : decode mX12_rests.2.1 74 = .ok (.iinc 4 1, 3) := by decide +kernel
theorem dX12_rests_77 : decode mX12_rests.2.1 77 = .ok (.goto (-40), 3) := by decide +kernel
theorem dX12_rests_80 : decode mX12_rests.2.1 80 = .ok (.iinc 3 1, 3) := by decide +kernel
theorem dX12_rests_83 : decode mX12_rests.2.1 83 = .ok (.goto (-55), 3) := by decide +kernel
theorem dX12_rests_86 : decode mX12_rests.2.1 86 = .ok (.iload_n 2, 1) := by decide +kernel
theorem dX12_rests_87 : decode mX12_rests.2.1 87 = .ok (.ireturn, 1) := by decide +kernel
theorem dX12_draws_0 : decode mX12_draws.2.1 0 = .ok (.aload_n 0, 1) := by decide +kernel
theorem dX12_draws_1 : decode mX12_draws.2.1 1 = .ok (.aload_n 0, 1) := by decide +kernel
theorem dX12_draws_2 : decode mX12_draws.2.1 2 = .ok (.getfield 452, 3) := by decide +kernel
theorem dX12_draws_5 : decode mX12_draws.2.1 5 = .ok (.ldc_w 455, 3) := by decide +kernel
theorem dX12_draws_8 : decode mX12_draws.2.1 8 = .ok (.imul, 1) := by decide +kernel
theorem dX12_draws_9 : decode mX12_draws.2.1 9 = .ok (.sipush 12345, 3) := by decide +kernel
theorem dX12_draws_12 : decode mX12_draws.2.1 12 = .ok (.iadd, 1) := by decide +kernel
theorem dX12_draws_13 : decode mX12_draws.2.1 13 = .ok (.putfield 452, 3) := by decide +kernel
theorem dX12_draws_16 : decode mX12_draws.2.1 16 = .ok (.aload_n 0, 1) := by decide +kernel
theorem dX12_draws_17 : decode mX12_draws.2.1 17 = .ok (.getfield 452, 3) := by decide +kernel
theorem dX12_draws_20 : decode mX12_draws.2.1 20 = .ok (.bipush 16, 2) := by decide +kernel
theorem dX12_draws_22 : decode mX12_draws.2.1 22 = .ok (.iushr, 1) := by decide +kernel
theorem dX12_draws_23 : decode mX12_draws.2.1 23 = .ok (.iload_n 1, 1) := by decide +kernel
theorem dX12_draws_24 : decode mX12_draws.2.1 24 = .ok (.irem, 1) := by decide +kernel
theorem dX12_draws_25 : decode mX12_draws.2.1 25 = .ok (.ireturn, 1) := by decide +kernel
theorem dX12_years_0 : decode mX12_years.2.1 0 = .ok (.aload_n 0, 1) := by decide +kernel
theorem dX12_years_1 : decode mX12_years.2.1 1 = .ok (.iconst 0, 1) := by decide +kernel
theorem dX12_years_2 : decode mX12_years.2.1 2 = .ok (.putfield 3, 3) := by decide +kernel
theorem dX12_years_5 : decode mX12_years.2.1 5 = .ok (.iload_n 2, 1) := by decide +kernel
theorem dX12_years_6 : decode mX12_years.2.1 6 = .ok (.i2l, 1) := by decide +kernel
theorem dX12_years_7 : decode mX12_years.2.1 7 = .ok (.lconst 1, 1) := by decide +kernel
theorem dX12_years_8 : decode mX12_years.2.1 8 = .ok (.ldc2_w 385, 3) := by decide +kernel
theorem dX12_years_11 : decode mX12_years.2.1 11 = .ok (.invokestatic 143, 3) := by decide +kernel
theorem dX12_years_14 : decode mX12_years.2.1 14 = .ok (.ifCond .ne 5, 3) := by decide +kernel
theorem dX12_years_17 : decode mX12_years.2.1 17 = .ok (.iconst (-1), 1) := by decide +kernel
theorem dX12_years_18 : decode mX12_years.2.1 18 = .ok (.ireturn, 1) := by decide +kernel
theorem dX12_years_19 : decode mX12_years.2.1 19 = .ok (.aload_n 0, 1) := by decide +kernel
theorem dX12_years_20 : decode mX12_years.2.1 20 = .ok (.iload_n 1, 1) := by decide +kernel
theorem dX12_years_21 : decode mX12_years.2.1 21 = .ok (.putfield 452, 3) := by decide +kernel
theorem dX12_years_24 : decode mX12_years.2.1 24 = .ok (.aload_n 0, 1) := by decide +kernel
theorem dX12_years_25 : decode mX12_years.2.1 25 = .ok (.invokevirtual 407, 3) := by decide +kernel
theorem dX12_years_28 : decode mX12_years.2.1 28 = .ok (.iconst 0, 1) := by decide +kernel
theorem dX12_years_29 : decode mX12_years.2.1 29 = .ok (.istore_n 3, 1) := by decide +kernel
theorem dX12_years_30 : decode mX12_years.2.1 30 = .ok (.iconst 0, 1) := by decide +kernel
theorem dX12_years_31 : decode mX12_years.2.1 31 = .ok (.istore 4, 2) := by decide +kernel
theorem dX12_years_33 : decode mX12_years.2.1 33 = .ok (.iload 4, 2) := by decide +kernel
theorem dX12_years_35 : decode mX12_years.2.1 35 = .ok (.iload_n 2, 1) := by decide +kernel
theorem dX12_years_36 : decode mX12_years.2.1 36 = .ok (.if_icmp .ge 151, 3) := by decide +kernel
theorem dX12_years_39 : decode mX12_years.2.1 39 = .ok (.aload_n 0, 1) := by decide +kernel
theorem dX12_years_40 : decode mX12_years.2.1 40 = .ok (.iconst 4, 1) := by decide +kernel
theorem dX12_years_41 : decode mX12_years.2.1 41 = .ok (.invokevirtual 456, 3) := by decide +kernel
theorem dX12_years_44 : decode mX12_years.2.1 44 = .ok (.istore 5, 2) := by decide +kernel
theorem dX12_years_46 : decode mX12_years.2.1 46 = .ok (.iload 5, 2) := by decide +kernel
theorem dX12_years_48 : decode mX12_years.2.1 48 = .ok (.iconst 2, 1) := by decide +kernel
theorem dX12_years_49 : decode mX12_years.2.1 49 = .ok (.if_icmp .ge 14, 3) := by decide +kernel
theorem dX12_years_52 : decode mX12_years.2.1 52 = .ok (.aload_n 0, 1) := by decide +kernel
theorem dX12_years_53 : decode mX12_years.2.1 53 = .ok (.aload_n 0, 1) := by decide +kernel
theorem dX12_years_54 : decode mX12_years.2.1 54 = .ok (.getfield 52, 3) := by decide +kernel
theorem dX12_years_57 : decode mX12_years.2.1 57 = .ok (.invokevirtual 360, 3) := by decide +kernel
theorem dX12_years_60 : decode mX12_years.2.1 60 = .ok (.goto 87, 3) := by decide +kernel
theorem dX12_years_63 : decode mX12_years.2.1 63 = .ok (.iload 5, 2) := by decide +kernel
theorem dX12_years_65 : decode mX12_years.2.1 65 = .ok (.iconst 2, 1) := by decide +kernel
theorem dX12_years_66 : decode mX12_years.2.1 66 = .ok (.if_icmp .ne 48, 3) := by decide +kernel
theorem dX12_years_69 : decode mX12_years.2.1 69 = .ok (.aload_n 0, 1) := by decide +kernel
theorem dX12_years_70 : decode mX12_years.2.1 70 = .ok (.getfield 147, 3) := by decide +kernel
theorem dX12_years_73 : decode mX12_years.2.1 73 = .ok (.ifCond .le 41, 3) := by decide +kernel
theorem dX12_years_76 : decode mX12_years.2.1 76 = .ok (.aload_n 0, 1) := by decide +kernel
theorem dX12_years_77 : decode mX12_years.2.1 77 = .ok (.getfield 150, 3) := by decide +kernel
theorem dX12_years_80 : decode mX12_years.2.1 80 = .ok (.ifCond .le 34, 3) := by decide +kernel
theorem dX12_years_83 : decode mX12_years.2.1 83 = .ok (.aload_n 0, 1) := by decide +kernel
theorem dX12_years_84 : decode mX12_years.2.1 84 = .ok (.aload_n 0, 1) := by decide +kernel
theorem dX12_years_85 : decode mX12_years.2.1 85 = .ok (.getfield 147, 3) := by decide +kernel
theorem dX12_years_88 : decode mX12_years.2.1 88 = .ok (.invokevirtual 456, 3) := by decide +kernel
theorem dX12_years_91 : decode mX12_years.2.1 91 = .ok (.istore 6, 2) := by decide +kernel
theorem dX12_years_93 : decode mX12_years.2.1 93 = .ok (.aload_n 0, 1) := by decide +kernel
theorem dX12_years_94 : decode mX12_years.2.1 94 = .ok (.getfield 52, 3) := by decide +kernel
theorem dX12_years_97 : decode mX12_years.2.1 97 = .ok (.bipush 16, 2) := by decide +kernel
theorem dX12_years_99 : decode mX12_years.2.1 99 = .ok (.iload 6, 2) := by decide +kernel
theorem dX12_years_101 : decode mX12_years.2.1 101 = .ok (.iadd, 1) := by decide +kernel
theorem dX12_years_102 : decode mX12_years.2.1 102 = .ok (.aload_n 0, 1) := by decide +kernel
theorem dX12_years_103 : decode mX12_years.2.1 103 = .ok (.aload_n 0, 1) := by decide +kernel
theorem dX12_years_104 : decode mX12_years.2.1 104 = .ok (.getfield 150, 3) := by decide +kernel
theorem dX12_years_107 : decode mX12_years.2.1 107 = .ok (.invokevirtual 456, 3) := by decide +kernel
theorem dX12_years_110 : decode mX12_years.2.1 110 = .ok (.iastore, 1) := by decide +kernel
theorem dX12_years_111 : decode mX12_years.2.1 111 = .ok (.goto 36, 3) := by decide +kernel
theorem dX12_years_114 : decode mX12_years.2.1 114 = .ok (.iload 5, 2) := by decide +kernel
theorem dX12_years_116 : decode mX12_years.2.1 116 = .ok (.iconst 3, 1) := by decide +kernel
theorem dX12_years_117 : decode mX12_years.2.1 117 = .ok (.if_icmp .ne 30, 3) := by decide +kernel
theorem dX12_years_120 : decode mX12_years.2.1 120 = .ok (.aload_n 0, 1) := by decide +kernel
theorem dX12_years_121 : decode mX12_years.2.1 121 = .ok (.getfield 147, 3) := by decide +kernel
theorem dX12_years_124 : decode mX12_years.2.1 124 = .ok (.ifCond .le 23, 3) := by decide +kernel
theorem dX12_years_127 : decode mX12_years.2.1 127 = .ok (.aload_n 0, 1) := by decide +kernel
theorem dX12_years_128 : decode mX12_years.2.1 128 = .ok (.getfield 52, 3) := by decide +kernel
theorem dX12_years_131 : decode mX12_years.2.1 131 = .ok (.bipush 24, 2) := by decide +kernel
theorem dX12_years_133 : decode mX12_years.2.1 133 = .ok (.dup2, 1) := by decide +kernel
theorem dX12_years_134 : decode mX12_years.2.1 134 = .ok (.iaload, 1) := by decide +kernel
theorem dX12_years_135 : decode mX12_years.2.1 135 = .ok (.iconst 1, 1) := by decide +kernel
theorem dX12_years_136 : decode mX12_years.2.1 136 = .ok (.aload_n 0, 1) := by decide +kernel
theorem dX12_years_137 : decode mX12_years.2.1 137 = .ok (.aload_n 0, 1) := by decide +kernel
theorem dX12_years_138 : decode mX12_years.2.1 138 = .ok (.getfield 147, 3) := by decide +kernel
theorem dX12_years_141 : decode mX12_years.2.1 141 = .ok (.invokevirtual 456, 3) := by decide +kernel
theorem dX12_years_144 : decode mX12_years.2.1 144 = .ok (.ishl, 1) := by decide +kernel
theorem dX12_years_145 : decode mX12_years.2.1 145 = .ok (.ior, 1) := by decide +kernel
theorem dX12_years_146 : decode mX12_years.2.1 146 = .ok (.iastore, 1) := by decide +kernel
theorem dX12_years_147 : decode mX12_years.2.1 147 = .ok (.iconst 0, 1) := by decide +kernel
theorem dX12_years_148 : decode mX12_years.2.1 148 = .ok (.istore 6, 2) := by decide +kernel
theorem dX12_years_150 : decode mX12_years.2.1 150 = .ok (.iload 6, 2) := by decide +kernel
theorem dX12_years_152 : decode mX12_years.2.1 152 = .ok (.aload_n 0, 1) := by decide +kernel
theorem dX12_years_153 : decode mX12_years.2.1 153 = .ok (.getfield 150, 3) := by decide +kernel
theorem dX12_years_156 : decode mX12_years.2.1 156 = .ok (.if_icmp .ge 25, 3) := by decide +kernel
theorem dX12_years_159 : decode mX12_years.2.1 159 = .ok (.iload_n 3, 1) := by decide +kernel
theorem dX12_years_160 : decode mX12_years.2.1 160 = .ok (.aload_n 0, 1) := by decide +kernel
theorem dX12_years_161 : decode mX12_years.2.1 161 = .ok (.aload_n 0, 1) := by decide +kernel
theorem dX12_years_162 : decode mX12_years.2.1 162 = .ok (.getfield 52, 3) := by decide +kernel
theorem dX12_years_165 : decode mX12_years.2.1 165 = .ok (.iload 6, 2) := by decide +kernel
theorem dX12_years_167 : decode mX12_years.2.1 167 = .ok (.invokevirtual 340, 3) := by decide +kernel
theorem dX12_years_170 : decode mX12_years.2.1 170 = .ok (.invokestatic 300, 3) := by decide +kernel
theorem dX12_years_173 : decode mX12_years.2.1 173 = .ok (.iadd, 1) := by decide +kernel
theorem dX12_years_174 : decode mX12_years.2.1 174 = .ok (.istore_n 3, 1) := by decide +kernel
theorem dX12_years_175 : decode mX12_years.2.1 175 = .ok (.iinc 6 1, 3) := by decide +kernel
theorem dX12_years_178 : decode mX12_years.2.1 178 = .ok (.goto (-28), 3) := by decide +kernel
theorem dX12_years_181 : decode mX12_years.2.1 181 = .ok (.iinc 4 1, 3) := by decide +kernel
theorem dX12_years_184 : decode mX12_years.2.1 184 = .ok (.goto (-151), 3) := by decide +kernel
theorem dX12_years_187 : decode mX12_years.2.1 187 = .ok (.aload_n 0, 1) := by decide +kernel
theorem dX12_years_188 : decode mX12_years.2.1 188 = .ok (.iconst 0, 1) := by decide +kernel
theorem dX12_years_189 : decode mX12_years.2.1 189 = .ok (.putfield 15, 3) := by decide +kernel
theorem dX12_years_192 : decode mX12_years.2.1 192 = .ok (.aload_n 0, 1) := by decide +kernel
theorem dX12_years_193 : decode mX12_years.2.1 193 = .ok (.aload_n 0, 1) := by decide +kernel
theorem dX12_years_194 : decode mX12_years.2.1 194 = .ok (.getfield 52, 3) := by decide +kernel
theorem dX12_years_197 : decode mX12_years.2.1 197 = .ok (.bipush 25, 2) := by decide +kernel
theorem dX12_years_199 : decode mX12_years.2.1 199 = .ok (.iaload, 1) := by decide +kernel
theorem dX12_years_200 : decode mX12_years.2.1 200 = .ok (.i2l, 1) := by decide +kernel
theorem dX12_years_201 : decode mX12_years.2.1 201 = .ok (.invokevirtual 387, 3) := by decide +kernel
theorem dX12_years_204 : decode mX12_years.2.1 204 = .ok (.aload_n 0, 1) := by decide +kernel
theorem dX12_years_205 : decode mX12_years.2.1 205 = .ok (.aload_n 0, 1) := by decide +kernel
theorem dX12_years_206 : decode mX12_years.2.1 206 = .ok (.getfield 52, 3) := by decide +kernel
theorem dX12_years_209 : decode mX12_years.2.1 209 = .ok (.bipush 24, 2) := by decide +kernel
theorem dX12_years_211 : decode mX12_years.2.1 211 = .ok (.iaload, 1) := by decide +kernel
theorem dX12_years_212 : decode mX12_years.2.1 212 = .ok (.invokestatic 300, 3) := by decide +kernel
theorem dX12_years_215 : decode mX12_years.2.1 215 = .ok (.i2l, 1) := by decide +kernel
theorem dX12_years_216 : decode mX12_years.2.1 216 = .ok (.invokevirtual 387, 3) := by decide +kernel
theorem dX12_years_219 : decode mX12_years.2.1 219 = .ok (.iload_n 3, 1) := by decide +kernel
theorem dX12_years_220 : decode mX12_years.2.1 220 = .ok (.ireturn, 1) := by decide +kernel
theorem dX12_keep_0 : decode mX12_keep.2.1 0 = .ok (.aload_n 0, 1) := by decide +kernel
theorem dX12_keep_1 : decode mX12_keep.2.1 1 = .ok (.iconst 0, 1) := by decide +kernel
theorem dX12_keep_2 : decode mX12_keep.2.1 2 = .ok (.putfield 3, 3) := by decide +kernel
theorem dX12_keep_5 : decode mX12_keep.2.1 5 = .ok (.iload_n 1, 1) := by decide +kernel
theorem dX12_keep_6 : decode mX12_keep.2.1 6 = .ok (.i2l, 1) := by decide +kernel
theorem dX12_keep_7 : decode mX12_keep.2.1 7 = .ok (.lconst 0, 1) := by decide +kernel
theorem dX12_keep_8 : decode mX12_keep.2.1 8 = .ok (.ldc2_w 459, 3) := by decide +kernel
theorem dX12_keep_11 : decode mX12_keep.2.1 11 = .ok (.invokestatic 143, 3) := by decide +kernel
theorem dX12_keep_14 : decode mX12_keep.2.1 14 = .ok (.ifCond .ne 5, 3) := by decide +kernel
theorem dX12_keep_17 : decode mX12_keep.2.1 17 = .ok (.iconst 0, 1) := by decide +kernel
theorem dX12_keep_18 : decode mX12_keep.2.1 18 = .ok (.ireturn, 1) := by decide +kernel
theorem dX12_keep_19 : decode mX12_keep.2.1 19 = .ok (.aload_n 0, 1) := by decide +kernel
theorem dX12_keep_20 : decode mX12_keep.2.1 20 = .ok (.getfield 131, 3) := by decide +kernel
theorem dX12_keep_23 : decode mX12_keep.2.1 23 = .ok (.iload_n 1, 1) := by decide +kernel
theorem dX12_keep_24 : decode mX12_keep.2.1 24 = .ok (.iconst 1, 1) := by decide +kernel
theorem dX12_keep_25 : decode mX12_keep.2.1 25 = .ok (.bastore, 1) := by decide +kernel
theorem dX12_keep_26 : decode mX12_keep.2.1 26 = .ok (.aload_n 0, 1) := by decide +kernel
theorem dX12_keep_27 : decode mX12_keep.2.1 27 = .ok (.getfield 134, 3) := by decide +kernel
theorem dX12_keep_30 : decode mX12_keep.2.1 30 = .ok (.iload_n 1, 1) := by decide +kernel
theorem dX12_keep_31 : decode mX12_keep.2.1 31 = .ok (.aload_n 0, 1) := by decide +kernel
theorem dX12_keep_32 : decode mX12_keep.2.1 32 = .ok (.getfield 252, 3) := by decide +kernel
theorem dX12_keep_35 : decode mX12_keep.2.1 35 = .ok (.iastore, 1) := by decide +kernel
theorem dX12_keep_36 : decode mX12_keep.2.1 36 = .ok (.iconst 0, 1) := by decide +kernel
theorem dX12_keep_37 : decode mX12_keep.2.1 37 = .ok (.istore_n 2, 1) := by decide +kernel
theorem dX12_keep_38 : decode mX12_keep.2.1 38 = .ok (.iload_n 2, 1) := by decide +kernel
theorem dX12_keep_39 : decode mX12_keep.2.1 39 = .ok (.bipush 26, 2) := by decide +kernel
theorem dX12_keep_41 : decode mX12_keep.2.1 41 = .ok (.if_icmp .ge 26, 3) := by decide +kernel
theorem dX12_keep_44 : decode mX12_keep.2.1 44 = .ok (.aload_n 0, 1) := by decide +kernel
theorem dX12_keep_45 : decode mX12_keep.2.1 45 = .ok (.getfield 137, 3) := by decide +kernel
theorem dX12_keep_48 : decode mX12_keep.2.1 48 = .ok (.bipush 26, 2) := by decide +kernel
theorem dX12_keep_50 : decode mX12_keep.2.1 50 = .ok (.iload_n 1, 1) := by decide +kernel
theorem dX12_keep_51 : decode mX12_keep.2.1 51 = .ok (.imul, 1) := by decide +kernel
theorem dX12_keep_52 : decode mX12_keep.2.1 52 = .ok (.iload_n 2, 1) := by decide +kernel
theorem dX12_keep_53 : decode mX12_keep.2.1 53 = .ok (.iadd, 1) := by decide +kernel
theorem dX12_keep_54 : decode mX12_keep.2.1 54 = .ok (.aload_n 0, 1) := by decide +kernel
theorem dX12_keep_55 : decode mX12_keep.2.1 55 = .ok (.getfield 49, 3) := by decide +kernel
theorem dX12_keep_58 : decode mX12_keep.2.1 58 = .ok (.iload_n 2, 1) := by decide +kernel
theorem dX12_keep_59 : decode mX12_keep.2.1 59 = .ok (.iaload, 1) := by decide +kernel
theorem dX12_keep_60 : decode mX12_keep.2.1 60 = .ok (.iastore, 1) := by decide +kernel
theorem dX12_keep_61 : decode mX12_keep.2.1 61 = .ok (.iinc 2 1, 3) := by decide +kernel
theorem dX12_keep_64 : decode mX12_keep.2.1 64 = .ok (.goto (-26), 3) := by decide +kernel
theorem dX12_keep_67 : decode mX12_keep.2.1 67 = .ok (.iconst 1, 1) := by decide +kernel
theorem dX12_keep_68 : decode mX12_keep.2.1 68 = .ok (.ireturn, 1) := by decide +kernel
theorem dX12_again_0 : decode mX12_again.2.1 0 = .ok (.aload_n 0, 1) := by decide +kernel
theorem dX12_again_1 : decode mX12_again.2.1 1 = .ok (.iconst 0, 1) := by decide +kernel
theorem dX12_again_2 : decode mX12_again.2.1 2 = .ok (.putfield 3, 3) := by decide +kernel
theorem dX12_again_5 : decode mX12_again.2.1 5 = .ok (.iload_n 1, 1) := by decide +kernel
theorem dX12_again_6 : decode mX12_again.2.1 6 = .ok (.i2l, 1) := by decide +kernel
theorem dX12_again_7 : decode mX12_again.2.1 7 = .ok (.lconst 0, 1) := by decide +kernel
theorem dX12_again_8 : decode mX12_again.2.1 8 = .ok (.ldc2_w 459, 3) := by decide +kernel
theorem dX12_again_11 : decode mX12_again.2.1 11 = .ok (.invokestatic 143, 3) := by decide +kernel
theorem dX12_again_14 : decode mX12_again.2.1 14 = .ok (.ifCond .eq 25, 3) := by decide +kernel
theorem dX12_again_17 : decode mX12_again.2.1 17 = .ok (.aload_n 0, 1) := by decide +kernel
theorem dX12_again_18 : decode mX12_again.2.1 18 = .ok (.getfield 131, 3) := by decide +kernel
theorem dX12_again_21 : decode mX12_again.2.1 21 = .ok (.iload_n 1, 1) := by decide +kernel
theorem dX12_again_22 : decode mX12_again.2.1 22 = .ok (.baload, 1) := by decide +kernel
theorem dX12_again_23 : decode mX12_again.2.1 23 = .ok (.ifCond .eq 16, 3) := by decide +kernel
theorem dX12_again_26 : decode mX12_again.2.1 26 = .ok (.aload_n 0, 1) := by decide +kernel
theorem dX12_again_27 : decode mX12_again.2.1 27 = .ok (.getfield 134, 3) := by decide +kernel
theorem dX12_again_30 : decode mX12_again.2.1 30 = .ok (.iload_n 1, 1) := by decide +kernel
theorem dX12_again_31 : decode mX12_again.2.1 31 = .ok (.iaload, 1) := by decide +kernel
theorem dX12_again_32 : decode mX12_again.2.1 32 = .ok (.aload_n 0, 1) := by decide +kernel
theorem dX12_again_33 : decode mX12_again.2.1 33 = .ok (.getfield 252, 3) := by decide +kernel
theorem dX12_again_36 : decode mX12_again.2.1 36 = .ok (.if_icmp .eq 5, 3) := by decide +kernel
theorem dX12_again_39 : decode mX12_again.2.1 39 = .ok (.iconst 0, 1) := by decide +kernel
theorem dX12_again_40 : decode mX12_again.2.1 40 = .ok (.ireturn, 1) := by decide +kernel
theorem dX12_again_41 : decode mX12_again.2.1 41 = .ok (.iconst 0, 1) := by decide +kernel
theorem dX12_again_42 : decode mX12_again.2.1 42 = .ok (.istore_n 2, 1) := by decide +kernel
theorem dX12_again_43 : decode mX12_again.2.1 43 = .ok (.iload_n 2, 1) := by decide +kernel
theorem dX12_again_44 : decode mX12_again.2.1 44 = .ok (.bipush 26, 2) := by decide +kernel
theorem dX12_again_46 : decode mX12_again.2.1 46 = .ok (.if_icmp .ge 26, 3) := by decide +kernel
theorem dX12_again_49 : decode mX12_again.2.1 49 = .ok (.aload_n 0, 1) := by decide +kernel
theorem dX12_again_50 : decode mX12_again.2.1 50 = .ok (.getfield 49, 3) := by decide +kernel
theorem dX12_again_53 : decode mX12_again.2.1 53 = .ok (.iload_n 2, 1) := by decide +kernel
theorem dX12_again_54 : decode mX12_again.2.1 54 = .ok (.aload_n 0, 1) := by decide +kernel
theorem dX12_again_55 : decode mX12_again.2.1 55 = .ok (.getfield 137, 3) := by decide +kernel
theorem dX12_again_58 : decode mX12_again.2.1 58 = .ok (.bipush 26, 2) := by decide +kernel
theorem dX12_again_60 : decode mX12_again.2.1 60 = .ok (.iload_n 1, 1) := by decide +kernel
theorem dX12_again_61 : decode mX12_again.2.1 61 = .ok (.imul, 1) := by decide +kernel
theorem dX12_again_62 : decode mX12_again.2.1 62 = .ok (.iload_n 2, 1) := by decide +kernel
theorem dX12_again_63 : decode mX12_again.2.1 63 = .ok (.iadd, 1) := by decide +kernel
theorem dX12_again_64 : decode mX12_again.2.1 64 = .ok (.iaload, 1) := by decide +kernel
theorem dX12_again_65 : decode mX12_again.2.1 65 = .ok (.iastore, 1) := by decide +kernel
theorem dX12_again_66 : decode mX12_again.2.1 66 = .ok (.iinc 2 1, 3) := by decide +kernel
theorem dX12_again_69 : decode mX12_again.2.1 69 = .ok (.goto (-26), 3) := by decide +kernel
theorem dX12_again_72 : decode mX12_again.2.1 72 = .ok (.aload_n 0, 1) := by decide +kernel
theorem dX12_again_73 : decode mX12_again.2.1 73 = .ok (.iconst 0, 1) := by decide +kernel
theorem dX12_again_74 : decode mX12_again.2.1 74 = .ok (.putfield 215, 3) := by decide +kernel
theorem dX12_again_77 : decode mX12_again.2.1 77 = .ok (.iconst 1, 1) := by decide +kernel
theorem dX12_again_78 : decode mX12_again.2.1 78 = .ok (.ireturn, 1) := by decide +kernel
theorem dX12_count_0 : decode mX12_count.2.1 0 = .ok (.aload_n 0, 1) := by decide +kernel
theorem dX12_count_1 : decode mX12_count.2.1 1 = .ok (.iconst 0, 1) := by decide +kernel
theorem dX12_count_2 : decode mX12_count.2.1 2 = .ok (.putfield 3, 3) := by decide +kernel
theorem dX12_count_5 : decode mX12_count.2.1 5 = .ok (.iconst 0, 1) := by decide +kernel
theorem dX12_count_6 : decode mX12_count.2.1 6 = .ok (.istore_n 2, 1) := by decide +kernel
theorem dX12_count_7 : decode mX12_count.2.1 7 = .ok (.iconst 0, 1) := by decide +kernel
theorem dX12_count_8 : decode mX12_count.2.1 8 = .ok (.istore_n 3, 1) := by decide +kernel
theorem dX12_count_9 : decode mX12_count.2.1 9 = .ok (.iload_n 3, 1) := by decide +kernel
theorem dX12_count_10 : decode mX12_count.2.1 10 = .ok (.aload_n 0, 1) := by decide +kernel
theorem dX12_count_11 : decode mX12_count.2.1 11 = .ok (.getfield 147, 3) := by decide +kernel
theorem dX12_count_14 : decode mX12_count.2.1 14 = .ok (.if_icmp .ge 31, 3) := by decide +kernel
theorem dX12_count_17 : decode mX12_count.2.1 17 = .ok (.iload_n 2, 1) := by decide +kernel
theorem dX12_count_18 : decode mX12_count.2.1 18 = .ok (.aload_n 0, 1) := by decide +kernel
theorem dX12_count_19 : decode mX12_count.2.1 19 = .ok (.getfield 49, 3) := by decide +kernel
theorem dX12_count_22 : decode mX12_count.2.1 22 = .ok (.bipush 16, 2) := by decide +kernel
theorem dX12_count_24 : decode mX12_count.2.1 24 = .ok (.iload_n 3, 1) := by decide +kernel
theorem dX12_count_25 : decode mX12_count.2.1 25 = .ok (.iadd, 1) := by decide +kernel
theorem dX12_count_26 : decode mX12_count.2.1 26 = .ok (.iaload, 1) := by decide +kernel
theorem dX12_count_27 : decode mX12_count.2.1 27 = .ok (.ifCond .lt 9, 3) := by decide +kernel
theorem dX12_count_30 : decode mX12_count.2.1 30 = .ok (.iconst 1, 1) := by decide +kernel
theorem dX12_count_31 : decode mX12_count.2.1 31 = .ok (.iload_n 3, 1) := by decide +kernel
theorem dX12_count_32 : decode mX12_count.2.1 32 = .ok (.ishl, 1) := by decide +kernel
theorem dX12_count_33 : decode mX12_count.2.1 33 = .ok (.goto 4, 3) := by decide +kernel
theorem dX12_count_36 : decode mX12_count.2.1 36 = .ok (.iconst 0, 1) := by decide +kernel
theorem dX12_count_37 : decode mX12_count.2.1 37 = .ok (.ior, 1) := by decide +kernel
theorem dX12_count_38 : decode mX12_count.2.1 38 = .ok (.istore_n 2, 1) := by decide +kernel
theorem dX12_count_39 : decode mX12_count.2.1 39 = .ok (.iinc 3 1, 3) := by decide +kernel
theorem dX12_count_42 : decode mX12_count.2.1 42 = .ok (.goto (-33), 3) := by decide +kernel
theorem dX12_count_45 : decode mX12_count.2.1 45 = .ok (.iload_n 1, 1) := by decide +kernel
theorem dX12_count_46 : decode mX12_count.2.1 46 = .ok (.tableswitch 125 0 11 #[62, 67, 72, 77, 82, 87, 95, 103, 105, 110, 115, 120], 62) := by decide +kernel
theorem dX12_count_108 : decode mX12_count.2.1 108 = .ok (.aload_n 0, 1) := by decide +kernel
theorem dX12_count_109 : decode mX12_count.2.1 109 = .ok (.getfield 24, 3) := by decide +kernel
theorem dX12_count_112 : decode mX12_count.2.1 112 = .ok (.ireturn, 1) := by decide +kernel
theorem dX12_count_113 : decode mX12_count.2.1 113 = .ok (.aload_n 0, 1) := by decide +kernel
theorem dX12_count_114 : decode mX12_count.2.1 114 = .ok (.getfield 27, 3) := by decide +kernel
theorem dX12_count_117 : decode mX12_count.2.1 117 = .ok (.ireturn, 1) := by decide +kernel
theorem dX12_count_118 : decode mX12_count.2.1 118 = .ok (.aload_n 0, 1) := by decide +kernel
theorem dX12_count_119 : decode mX12_count.2.1 119 = .ok (.getfield 140, 3) := by decide +kernel
theorem dX12_count_122 : decode mX12_count.2.1 122 = .ok (.ireturn, 1) := by decide +kernel
theorem dX12_count_123 : decode mX12_count.2.1 123 = .ok (.aload_n 0, 1) := by decide +kernel
theorem dX12_count_124 : decode mX12_count.2.1 124 = .ok (.getfield 147, 3) := by decide +kernel
theorem dX12_count_127 : decode mX12_count.2.1 127 = .ok (.ireturn, 1) := by decide +kernel
theorem dX12_count_128 : decode mX12_count.2.1 128 = .ok (.aload_n 0, 1) := by decide +kernel
theorem dX12_count_129 : decode mX12_count.2.1 129 = .ok (.getfield 150, 3) := by decide +kernel
theorem dX12_count_132 : decode mX12_count.2.1 132 = .ok (.ireturn, 1) := by decide +kernel
theorem dX12_count_133 : decode mX12_count.2.1 133 = .ok (.aload_n 0, 1) := by decide +kernel
theorem dX12_count_134 : decode mX12_count.2.1 134 = .ok (.getfield 49, 3) := by decide +kernel
theorem dX12_count_137 : decode mX12_count.2.1 137 = .ok (.bipush 25, 2) := by decide +kernel
theorem dX12_count_139 : decode mX12_count.2.1 139 = .ok (.iaload, 1) := by decide +kernel
theorem dX12_count_140 : decode mX12_count.2.1 140 = .ok (.ireturn, 1) := by decide +kernel
theorem dX12_count_141 : decode mX12_count.2.1 141 = .ok (.aload_n 0, 1) := by decide +kernel
theorem dX12_count_142 : decode mX12_count.2.1 142 = .ok (.getfield 49, 3) := by decide +kernel
theorem dX12_count_145 : decode mX12_count.2.1 145 = .ok (.bipush 24, 2) := by decide +kernel
theorem dX12_count_147 : decode mX12_count.2.1 147 = .ok (.iaload, 1) := by decide +kernel
theorem dX12_count_148 : decode mX12_count.2.1 148 = .ok (.ireturn, 1) := by decide +kernel
theorem dX12_count_149 : decode mX12_count.2.1 149 = .ok (.iload_n 2, 1) := by decide +kernel
theorem dX12_count_150 : decode mX12_count.2.1 150 = .ok (.ireturn, 1) := by decide +kernel
theorem dX12_count_151 : decode mX12_count.2.1 151 = .ok (.aload_n 0, 1) := by decide +kernel
theorem dX12_count_152 : decode mX12_count.2.1 152 = .ok (.getfield 212, 3) := by decide +kernel
theorem dX12_count_155 : decode mX12_count.2.1 155 = .ok (.ireturn, 1) := by decide +kernel
theorem dX12_count_156 : decode mX12_count.2.1 156 = .ok (.aload_n 0, 1) := by decide +kernel
theorem dX12_count_157 : decode mX12_count.2.1 157 = .ok (.getfield 215, 3) := by decide +kernel
theorem dX12_count_160 : decode mX12_count.2.1 160 = .ok (.ireturn, 1) := by decide +kernel
theorem dX12_count_161 : decode mX12_count.2.1 161 = .ok (.aload_n 0, 1) := by decide +kernel
theorem dX12_count_162 : decode mX12_count.2.1 162 = .ok (.getfield 15, 3) := by decide +kernel
theorem dX12_count_165 : decode mX12_count.2.1 165 = .ok (.ireturn, 1) := by decide +kernel
theorem dX12_count_166 : decode mX12_count.2.1 166 = .ok (.aload_n 0, 1) := by decide +kernel
theorem dX12_count_167 : decode mX12_count.2.1 167 = .ok (.getfield 159, 3) := by decide +kernel
theorem dX12_count_170 : decode mX12_count.2.1 170 = .ok (.ireturn, 1) := by decide +kernel
theorem dX12_count_171 : decode mX12_count.2.1 171 = .ok (.bipush (-100), 2) := by decide +kernel
theorem dX12_count_173 : decode mX12_count.2.1 173 = .ok (.ireturn, 1) := by decide +kernel
theorem dX12_row_0 : decode mX12_row.2.1 0 = .ok (.aload_n 0, 1) := by decide +kernel
theorem dX12_row_1 : decode mX12_row.2.1 1 = .ok (.iconst 0, 1) := by decide +kernel
theorem dX12_row_2 : decode mX12_row.2.1 2 = .ok (.putfield 3, 3) := by decide +kernel
theorem dX12_row_5 : decode mX12_row.2.1 5 = .ok (.iload_n 1, 1) := by decide +kernel
theorem dX12_row_6 : decode mX12_row.2.1 6 = .ok (.i2l, 1) := by decide +kernel
theorem dX12_row_7 : decode mX12_row.2.1 7 = .ok (.lconst 0, 1) := by decide +kernel
theorem dX12_row_8 : decode mX12_row.2.1 8 = .ok (.aload_n 0, 1) := by decide +kernel
theorem dX12_row_9 : decode mX12_row.2.1 9 = .ok (.getfield 15, 3) := by decide +kernel
theorem dX12_row_12 : decode mX12_row.2.1 12 = .ok (.iconst 1, 1) := by decide +kernel
theorem dX12_row_13 : decode mX12_row.2.1 13 = .ok (.isub, 1) := by decide +kernel
theorem dX12_row_14 : decode mX12_row.2.1 14 = .ok (.i2l, 1) := by decide +kernel
theorem dX12_row_15 : decode mX12_row.2.1 15 = .ok (.invokestatic 143, 3) := by decide +kernel
theorem dX12_row_18 : decode mX12_row.2.1 18 = .ok (.ifCond .ne 10, 3) := by decide +kernel
theorem dX12_row_21 : decode mX12_row.2.1 21 = .ok (.aload_n 0, 1) := by decide +kernel
theorem dX12_row_22 : decode mX12_row.2.1 22 = .ok (.iconst 1, 1) := by decide +kernel
theorem dX12_row_23 : decode mX12_row.2.1 23 = .ok (.putfield 3, 3) := by decide +kernel
theorem dX12_row_26 : decode mX12_row.2.1 26 = .ok (.lconst 0, 1) := by decide +kernel
theorem dX12_row_27 : decode mX12_row.2.1 27 = .ok (.lreturn, 1) := by decide +kernel
theorem dX12_row_28 : decode mX12_row.2.1 28 = .ok (.aload_n 0, 1) := by decide +kernel
theorem dX12_row_29 : decode mX12_row.2.1 29 = .ok (.getfield 11, 3) := by decide +kernel
theorem dX12_row_32 : decode mX12_row.2.1 32 = .ok (.iload_n 1, 1) := by decide +kernel
theorem dX12_row_33 : decode mX12_row.2.1 33 = .ok (.laload, 1) := by decide +kernel
theorem dX12_row_34 : decode mX12_row.2.1 34 = .ok (.lreturn, 1) := by decide +kernel
