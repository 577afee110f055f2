theorem dX8_init_0 : decode cX8_init 0 = .ok (.aload_n 0, 1) := by decide +kernel
theorem dX8_init_1 : decode cX8_init 1 = .ok (.invokespecial 1, 3) := by decide +kernel
theorem dX8_init_4 : decode cX8_init 4 = .ok (.aload_n 0, 1) := by decide +kernel
theorem dX8_init_5 : decode cX8_init 5 = .ok (.bipush 11, 2) := by decide +kernel
theorem dX8_init_7 : decode cX8_init 7 = .ok (.newarray .int, 2) := by decide +kernel
theorem dX8_init_9 : decode cX8_init 9 = .ok (.putfield 7, 3) := by decide +kernel
theorem dX8_init_12 : decode cX8_init 12 = .ok (.aload_n 0, 1) := by decide +kernel
theorem dX8_init_13 : decode cX8_init 13 = .ok (.bipush 11, 2) := by decide +kernel
theorem dX8_init_15 : decode cX8_init 15 = .ok (.newarray .int, 2) := by decide +kernel
theorem dX8_init_17 : decode cX8_init 17 = .ok (.putfield 13, 3) := by decide +kernel
theorem dX8_init_20 : decode cX8_init 20 = .ok (.aload_n 0, 1) := by decide +kernel
theorem dX8_init_21 : decode cX8_init 21 = .ok (.bipush 11, 2) := by decide +kernel
theorem dX8_init_23 : decode cX8_init 23 = .ok (.newarray .int, 2) := by decide +kernel
theorem dX8_init_25 : decode cX8_init 25 = .ok (.putfield 16, 3) := by decide +kernel
theorem dX8_init_28 : decode cX8_init 28 = .ok (.aload_n 0, 1) := by decide +kernel
theorem dX8_init_29 : decode cX8_init 29 = .ok (.bipush 11, 2) := by decide +kernel
theorem dX8_init_31 : decode cX8_init 31 = .ok (.newarray .int, 2) := by decide +kernel
theorem dX8_init_33 : decode cX8_init 33 = .ok (.putfield 19, 3) := by decide +kernel
theorem dX8_init_36 : decode cX8_init 36 = .ok (.aload_n 0, 1) := by decide +kernel
theorem dX8_init_37 : decode cX8_init 37 = .ok (.bipush 11, 2) := by decide +kernel
theorem dX8_init_39 : decode cX8_init 39 = .ok (.newarray .int, 2) := by decide +kernel
theorem dX8_init_41 : decode cX8_init 41 = .ok (.putfield 22, 3) := by decide +kernel
theorem dX8_init_44 : decode cX8_init 44 = .ok (.aload_n 0, 1) := by decide +kernel
theorem dX8_init_45 : decode cX8_init 45 = .ok (.bipush 11, 2) := by decide +kernel
theorem dX8_init_47 : decode cX8_init 47 = .ok (.newarray .int, 2) := by decide +kernel
theorem dX8_init_49 : decode cX8_init 49 = .ok (.putfield 25, 3) := by decide +kernel
theorem dX8_init_52 : decode cX8_init 52 = .ok (.aload_n 0, 1) := by decide +kernel
theorem dX8_init_53 : decode cX8_init 53 = .ok (.bipush 11, 2) := by decide +kernel
theorem dX8_init_55 : decode cX8_init 55 = .ok (.newarray .int, 2) := by decide +kernel
theorem dX8_init_57 : decode cX8_init 57 = .ok (.putfield 28, 3) := by decide +kernel
theorem dX8_init_60 : decode cX8_init 60 = .ok (.aload_n 0, 1) := by decide +kernel
theorem dX8_init_61 : decode cX8_init 61 = .ok (.bipush 11, 2) := by decide +kernel
theorem dX8_init_63 : decode cX8_init 63 = .ok (.newarray .int, 2) := by decide +kernel
theorem dX8_init_65 : decode cX8_init 65 = .ok (.putfield 31, 3) := by decide +kernel
theorem dX8_init_68 : decode cX8_init 68 = .ok (.aload_n 0, 1) := by decide +kernel
theorem dX8_init_69 : decode cX8_init 69 = .ok (.bipush 11, 2) := by decide +kernel
theorem dX8_init_71 : decode cX8_init 71 = .ok (.newarray .int, 2) := by decide +kernel
theorem dX8_init_73 : decode cX8_init 73 = .ok (.putfield 34, 3) := by decide +kernel
theorem dX8_init_76 : decode cX8_init 76 = .ok (.aload_n 0, 1) := by decide +kernel
theorem dX8_init_77 : decode cX8_init 77 = .ok (.bipush 11, 2) := by decide +kernel
theorem dX8_init_79 : decode cX8_init 79 = .ok (.newarray .boolean, 2) := by decide +kernel
theorem dX8_init_81 : decode cX8_init 81 = .ok (.putfield 37, 3) := by decide +kernel
theorem dX8_init_84 : decode cX8_init 84 = .ok (.aload_n 0, 1) := by decide +kernel
theorem dX8_init_85 : decode cX8_init 85 = .ok (.bipush 40, 2) := by decide +kernel
theorem dX8_init_87 : decode cX8_init 87 = .ok (.newarray .int, 2) := by decide +kernel
theorem dX8_init_89 : decode cX8_init 89 = .ok (.putfield 41, 3) := by decide +kernel
theorem dX8_init_92 : decode cX8_init 92 = .ok (.aload_n 0, 1) := by decide +kernel
theorem dX8_init_93 : decode cX8_init 93 = .ok (.bipush 40, 2) := by decide +kernel
theorem dX8_init_95 : decode cX8_init 95 = .ok (.newarray .int, 2) := by decide +kernel
theorem dX8_init_97 : decode cX8_init 97 = .ok (.putfield 44, 3) := by decide +kernel
theorem dX8_init_100 : decode cX8_init 100 = .ok (.aload_n 0, 1) := by decide +kernel
theorem dX8_init_101 : decode cX8_init 101 = .ok (.bipush 40, 2) := by decide +kernel
theorem dX8_init_103 : decode cX8_init 103 = .ok (.newarray .int, 2) := by decide +kernel
theorem dX8_init_105 : decode cX8_init 105 = .ok (.putfield 47, 3) := by decide +kernel
theorem dX8_init_108 : decode cX8_init 108 = .ok (.aload_n 0, 1) := by decide +kernel
theorem dX8_init_109 : decode cX8_init 109 = .ok (.bipush 40, 2) := by decide +kernel
theorem dX8_init_111 : decode cX8_init 111 = .ok (.newarray .int, 2) := by decide +kernel
theorem dX8_init_113 : decode cX8_init 113 = .ok (.putfield 50, 3) := by decide +kernel
theorem dX8_init_116 : decode cX8_init 116 = .ok (.aload_n 0, 1) := by decide +kernel
theorem dX8_init_117 : decode cX8_init 117 = .ok (.bipush 40, 2) := by decide +kernel
theorem dX8_init_119 : decode cX8_init 119 = .ok (.newarray .int, 2) := by decide +kernel
theorem dX8_init_121 : decode cX8_init 121 = .ok (.putfield 53, 3) := by decide +kernel
theorem dX8_init_124 : decode cX8_init 124 = .ok (.aload_n 0, 1) := by decide +kernel
theorem dX8_init_125 : decode cX8_init 125 = .ok (.bipush 40, 2) := by decide +kernel
theorem dX8_init_127 : decode cX8_init 127 = .ok (.newarray .int, 2) := by decide +kernel
theorem dX8_init_129 : decode cX8_init 129 = .ok (.putfield 56, 3) := by decide +kernel
theorem dX8_init_132 : decode cX8_init 132 = .ok (.aload_n 0, 1) := by decide +kernel
theorem dX8_init_133 : decode cX8_init 133 = .ok (.bipush 40, 2) := by decide +kernel
theorem dX8_init_135 : decode cX8_init 135 = .ok (.newarray .int, 2) := by decide +kernel
theorem dX8_init_137 : decode cX8_init 137 = .ok (.putfield 59, 3) := by decide +kernel
theorem dX8_init_140 : decode cX8_init 140 = .ok (.aload_n 0, 1) := by decide +kernel
theorem dX8_init_141 : decode cX8_init 141 = .ok (.bipush 40, 2) := by decide +kernel
theorem dX8_init_143 : decode cX8_init 143 = .ok (.newarray .boolean, 2) := by decide +kernel
theorem dX8_init_145 : decode cX8_init 145 = .ok (.putfield 62, 3) := by decide +kernel
theorem dX8_init_148 : decode cX8_init 148 = .ok (.aload_n 0, 1) := by decide +kernel
theorem dX8_init_149 : decode cX8_init 149 = .ok (.bipush 10, 2) := by decide +kernel
theorem dX8_init_151 : decode cX8_init 151 = .ok (.newarray .int, 2) := by decide +kernel
theorem dX8_init_153 : decode cX8_init 153 = .ok (.putfield 65, 3) := by decide +kernel
theorem dX8_init_156 : decode cX8_init 156 = .ok (.aload_n 0, 1) := by decide +kernel
theorem dX8_init_157 : decode cX8_init 157 = .ok (.iconst (-1), 1) := by decide +kernel
theorem dX8_init_158 : decode cX8_init 158 = .ok (.putfield 68, 3) := by decide +kernel
theorem dX8_init_161 : decode cX8_init 161 = .ok (.aload_n 0, 1) := by decide +kernel
theorem dX8_init_162 : decode cX8_init 162 = .ok (.iconst (-1), 1) := by decide +kernel
theorem dX8_init_163 : decode cX8_init 163 = .ok (.putfield 72, 3) := by decide +kernel
theorem dX8_init_166 : decode cX8_init 166 = .ok (.aload_n 0, 1) := by decide +kernel
theorem dX8_init_167 : decode cX8_init 167 = .ok (.iconst (-1), 1) := by decide +kernel
theorem dX8_init_168 : decode cX8_init 168 = .ok (.putfield 75, 3) := by decide +kernel
theorem dX8_init_171 : decode cX8_init 171 = .ok (.aload_n 0, 1) := by decide +kernel
theorem dX8_init_172 : decode cX8_init 172 = .ok (.sipush 300, 3) := by decide +kernel
theorem dX8_init_175 : decode cX8_init 175 = .ok (.newarray .byte, 2) := by decide +kernel
theorem dX8_init_177 : decode cX8_init 177 = .ok (.putfield 78, 3) := by decide +kernel
theorem dX8_init_180 : decode cX8_init 180 = .ok (.aload_n 0, 1) := by decide +kernel
theorem dX8_init_181 : decode cX8_init 181 = .ok (.sipush 300, 3) := by decide +kernel
theorem dX8_init_184 : decode cX8_init 184 = .ok (.newarray .byte, 2) := by decide +kernel
theorem dX8_init_186 : decode cX8_init 186 = .ok (.putfield 82, 3) := by decide +kernel
theorem dX8_init_189 : decode cX8_init 189 = .ok (.aload_n 0, 1) := by decide +kernel
theorem dX8_init_190 : decode cX8_init 190 = .ok (.iconst (-1), 1) := by decide +kernel
theorem dX8_init_191 : decode cX8_init 191 = .ok (.putfield 85, 3) := by decide +kernel
theorem dX8_init_194 : decode cX8_init 194 = .ok (.aload_n 0, 1) := by decide +kernel
theorem dX8_init_195 : decode cX8_init 195 = .ok (.bipush 28, 2) := by decide +kernel
theorem dX8_init_197 : decode cX8_init 197 = .ok (.newarray .int, 2) := by decide +kernel
theorem dX8_init_199 : decode cX8_init 199 = .ok (.putfield 88, 3) := by decide +kernel
theorem dX8_init_202 : decode cX8_init 202 = .ok (.aload_n 0, 1) := by decide +kernel
theorem dX8_init_203 : decode cX8_init 203 = .ok (.bipush 40, 2) := by decide +kernel
theorem dX8_init_205 : decode cX8_init 205 = .ok (.newarray .int, 2) := by decide +kernel
theorem dX8_init_207 : decode cX8_init 207 = .ok (.putfield 91, 3) := by decide +kernel
theorem dX8_init_210 : decode cX8_init 210 = .ok (.aload_n 0, 1) := by decide +kernel
theorem dX8_init_211 : decode cX8_init 211 = .ok (.bipush 40, 2) := by decide +kernel
theorem dX8_init_213 : decode cX8_init 213 = .ok (.newarray .int, 2) := by decide +kernel
theorem dX8_init_215 : decode cX8_init 215 = .ok (.putfield 94, 3) := by decide +kernel
theorem dX8_init_218 : decode cX8_init 218 = .ok (.aload_n 0, 1) := by decide +kernel
theorem dX8_init_219 : decode cX8_init 219 = .ok (.bipush 40, 2) := by decide +kernel
theorem dX8_init_221 : decode cX8_init 221 = .ok (.newarray .boolean, 2) := by decide +kernel
theorem dX8_init_223 : decode cX8_init 223 = .ok (.putfield 97, 3) := by decide +kernel
theorem dX8_init_226 : decode cX8_init 226 = .ok (.aload_n 0, 1) := by decide +kernel
theorem dX8_init_227 : decode cX8_init 227 = .ok (.bipush 11, 2) := by decide +kernel
theorem dX8_init_229 : decode cX8_init 229 = .ok (.newarray .int, 2) := by decide +kernel
theorem dX8_init_231 : decode cX8_init 231 = .ok (.putfield 100, 3) := by decide +kernel
theorem dX8_init_234 : decode cX8_init 234 = .ok (.aload_n 0, 1) := by decide +kernel
theorem dX8_init_235 : decode cX8_init 235 = .ok (.bipush 11, 2) := by decide +kernel
theorem dX8_init_237 : decode cX8_init 237 = .ok (.newarray .int, 2) := by decide +kernel
theorem dX8_init_239 : decode cX8_init 239 = .ok (.putfield 103, 3) := by decide +kernel
theorem dX8_init_242 : decode cX8_init 242 = .ok (.aload_n 0, 1) := by decide +kernel
theorem dX8_init_243 : decode cX8_init 243 = .ok (.bipush 11, 2) := by decide +kernel
theorem dX8_init_245 : decode cX8_init 245 = .ok (.newarray .boolean, 2) := by decide +kernel
theorem dX8_init_247 : decode cX8_init 247 = .ok (.putfield 106, 3) := by decide +kernel
theorem dX8_init_250 : decode cX8_init 250 = .ok (.aload_n 0, 1) := by decide +kernel
theorem dX8_init_251 : decode cX8_init 251 = .ok (.iconst 2, 1) := by decide +kernel
theorem dX8_init_252 : decode cX8_init 252 = .ok (.bipush 11, 2) := by decide +kernel
theorem dX8_init_254 : decode cX8_init 254 = .ok (.iload_n 1, 1) := by decide +kernel
theorem dX8_init_255 : decode cX8_init 255 = .ok (.invokestatic 109, 3) := by decide +kernel
theorem dX8_init_258 : decode cX8_init 258 = .ok (.invokestatic 115, 3) := by decide +kernel
theorem dX8_init_261 : decode cX8_init 261 = .ok (.putfield 118, 3) := by decide +kernel
theorem dX8_init_264 : decode cX8_init 264 = .ok (.iconst 0, 1) := by decide +kernel
theorem dX8_init_265 : decode cX8_init 265 = .ok (.istore_n 2, 1) := by decide +kernel
theorem dX8_init_266 : decode cX8_init 266 = .ok (.iload_n 2, 1) := by decide +kernel
theorem dX8_init_267 : decode cX8_init 267 = .ok (.bipush 11, 2) := by decide +kernel
theorem dX8_init_269 : decode cX8_init 269 = .ok (.if_icmp .ge 32, 3) := by decide +kernel
theorem dX8_init_272 : decode cX8_init 272 = .ok (.aload_n 0, 1) := by decide +kernel
theorem dX8_init_273 : decode cX8_init 273 = .ok (.getfield 13, 3) := by decide +kernel
theorem dX8_init_276 : decode cX8_init 276 = .ok (.iload_n 2, 1) := by decide +kernel
theorem dX8_init_277 : decode cX8_init 277 = .ok (.bipush 100, 2) := by decide +kernel
theorem dX8_init_279 : decode cX8_init 279 = .ok (.iastore, 1) := by decide +kernel
theorem dX8_init_280 : decode cX8_init 280 = .ok (.aload_n 0, 1) := by decide +kernel
theorem dX8_init_281 : decode cX8_init 281 = .ok (.getfield 16, 3) := by decide +kernel
theorem dX8_init_284 : decode cX8_init 284 = .ok (.iload_n 2, 1) := by decide +kernel
theorem dX8_init_285 : decode cX8_init 285 = .ok (.bipush 50, 2) := by decide +kernel
theorem dX8_init_287 : decode cX8_init 287 = .ok (.iastore, 1) := by decide +kernel
theorem dX8_init_288 : decode cX8_init 288 = .ok (.aload_n 0, 1) := by decide +kernel
theorem dX8_init_289 : decode cX8_init 289 = .ok (.getfield 34, 3) := by decide +kernel
theorem dX8_init_292 : decode cX8_init 292 = .ok (.iload_n 2, 1) := by decide +kernel
theorem dX8_init_293 : decode cX8_init 293 = .ok (.iconst (-1), 1) := by decide +kernel
theorem dX8_init_294 : decode cX8_init 294 = .ok (.iastore, 1) := by decide +kernel
theorem dX8_init_295 : decode cX8_init 295 = .ok (.iinc 2 1, 3) := by decide +kernel
theorem dX8_init_298 : decode cX8_init 298 = .ok (.goto (-32), 3) := by decide +kernel
theorem dX8_init_301 : decode cX8_init 301 = .ok (.return_, 1) := by decide +kernel
theorem dX8_isIn_0 : decode cX8_isIn 0 = .ok (.iload_n 0, 1) := by decide +kernel
theorem dX8_isIn_1 : decode cX8_isIn 1 = .ok (.iload_n 1, 1) := by decide +kernel
theorem dX8_isIn_2 : decode cX8_isIn 2 = .ok (.if_icmp .lt 12, 3) := by decide +kernel
theorem dX8_isIn_5 : decode cX8_isIn 5 = .ok (.iload_n 0, 1) := by decide +kernel
theorem dX8_isIn_6 : decode cX8_isIn 6 = .ok (.iload_n 2, 1) := by decide +kernel
theorem dX8_isIn_7 : decode cX8_isIn 7 = .ok (.if_icmp .gt 7, 3) := by decide +kernel
theorem dX8_isIn_10 : decode cX8_isIn 10 = .ok (.iconst 1, 1) := by decide +kernel
theorem dX8_isIn_11 : decode cX8_isIn 11 = .ok (.goto 4, 3) := by decide +kernel
theorem dX8_isIn_14 : decode cX8_isIn 14 = .ok (.iconst 0, 1) := by decide +kernel
theorem dX8_isIn_15 : decode cX8_isIn 15 = .ok (.ireturn, 1) := by decide +kernel
theorem dX8_one_0 : decode cX8_one 0 = .ok (.iload_n 0, 1) := by decide +kernel
theorem dX8_one_1 : decode cX8_one 1 = .ok (.ifCond .eq 7, 3) := by decide +kernel
theorem dX8_one_4 : decode cX8_one 4 = .ok (.iconst 1, 1) := by decide +kernel
theorem dX8_one_5 : decode cX8_one 5 = .ok (.goto 4, 3) := by decide +kernel
theorem dX8_one_8 : decode cX8_one 8 = .ok (.iconst 0, 1) := by decide +kernel
theorem dX8_one_9 : decode cX8_one 9 = .ok (.ireturn, 1) := by decide +kernel
theorem dX8_isTank_0 : decode cX8_isTank 0 = .ok (.iload_n 1, 1) := by decide +kernel
theorem dX8_isTank_1 : decode cX8_isTank 1 = .ok (.iconst 0, 1) := by decide +kernel
theorem dX8_isTank_2 : decode cX8_isTank 2 = .ok (.aload_n 0, 1) := by decide +kernel
theorem dX8_isTank_3 : decode cX8_isTank 3 = .ok (.getfield 118, 3) := by decide +kernel
theorem dX8_isTank_6 : decode cX8_isTank 6 = .ok (.iconst 1, 1) := by decide +kernel
theorem dX8_isTank_7 : decode cX8_isTank 7 = .ok (.isub, 1) := by decide +kernel
theorem dX8_isTank_8 : decode cX8_isTank 8 = .ok (.invokestatic 121, 3) := by decide +kernel
theorem dX8_isTank_11 : decode cX8_isTank 11 = .ok (.ireturn, 1) := by decide +kernel
theorem dX8_tank_0 : decode cX8_tank 0 = .ok (.aload_n 0, 1) := by decide +kernel
theorem dX8_tank_1 : decode cX8_tank 1 = .ok (.iload_n 1, 1) := by decide +kernel
theorem dX8_tank_2 : decode cX8_tank 2 = .ok (.invokevirtual 125, 3) := by decide +kernel
theorem dX8_tank_5 : decode cX8_tank 5 = .ok (.ifCond .eq 44, 3) := by decide +kernel
theorem dX8_tank_8 : decode cX8_tank 8 = .ok (.iload_n 2, 1) := by decide +kernel
theorem dX8_tank_9 : decode cX8_tank 9 = .ok (.iconst 0, 1) := by decide +kernel
theorem dX8_tank_10 : decode cX8_tank 10 = .ok (.bipush 20, 2) := by decide +kernel
theorem dX8_tank_12 : decode cX8_tank 12 = .ok (.invokestatic 121, 3) := by decide +kernel
theorem dX8_tank_15 : decode cX8_tank 15 = .ok (.ifCond .eq 34, 3) := by decide +kernel
theorem dX8_tank_18 : decode cX8_tank 18 = .ok (.iload_n 3, 1) := by decide +kernel
theorem dX8_tank_19 : decode cX8_tank 19 = .ok (.bipush 10, 2) := by decide +kernel
theorem dX8_tank_21 : decode cX8_tank 21 = .ok (.sipush 1000, 3) := by decide +kernel
theorem dX8_tank_24 : decode cX8_tank 24 = .ok (.invokestatic 121, 3) := by decide +kernel
theorem dX8_tank_27 : decode cX8_tank 27 = .ok (.ifCond .eq 22, 3) := by decide +kernel
theorem dX8_tank_30 : decode cX8_tank 30 = .ok (.iload 4, 2) := by decide +kernel
theorem dX8_tank_32 : decode cX8_tank 32 = .ok (.iconst 0, 1) := by decide +kernel
theorem dX8_tank_33 : decode cX8_tank 33 = .ok (.sipush 500, 3) := by decide +kernel
theorem dX8_tank_36 : decode cX8_tank 36 = .ok (.invokestatic 121, 3) := by decide +kernel
theorem dX8_tank_39 : decode cX8_tank 39 = .ok (.ifCond .eq 10, 3) := by decide +kernel
theorem dX8_tank_42 : decode cX8_tank 42 = .ok (.aload_n 0, 1) := by decide +kernel
theorem dX8_tank_43 : decode cX8_tank 43 = .ok (.getfield 129, 3) := by decide +kernel
theorem dX8_tank_46 : decode cX8_tank 46 = .ok (.ifCond .le 5, 3) := by decide +kernel
theorem dX8_tank_49 : decode cX8_tank 49 = .ok (.iconst 0, 1) := by decide +kernel
theorem dX8_tank_50 : decode cX8_tank 50 = .ok (.ireturn, 1) := by decide +kernel
theorem dX8_tank_51 : decode cX8_tank 51 = .ok (.aload_n 0, 1) := by decide +kernel
theorem dX8_tank_52 : decode cX8_tank 52 = .ok (.getfield 7, 3) := by decide +kernel
theorem dX8_tank_55 : decode cX8_tank 55 = .ok (.iload_n 1, 1) := by decide +kernel
theorem dX8_tank_56 : decode cX8_tank 56 = .ok (.iload_n 2, 1) := by decide +kernel
theorem dX8_tank_57 : decode cX8_tank 57 = .ok (.iastore, 1) := by decide +kernel
theorem dX8_tank_58 : decode cX8_tank 58 = .ok (.aload_n 0, 1) := by decide +kernel
theorem dX8_tank_59 : decode cX8_tank 59 = .ok (.getfield 13, 3) := by decide +kernel
theorem dX8_tank_62 : decode cX8_tank 62 = .ok (.iload_n 1, 1) := by decide +kernel
theorem dX8_tank_63 : decode cX8_tank 63 = .ok (.iload_n 3, 1) := by decide +kernel
theorem dX8_tank_64 : decode cX8_tank 64 = .ok (.iastore, 1) := by decide +kernel
theorem dX8_tank_65 : decode cX8_tank 65 = .ok (.aload_n 0, 1) := by decide +kernel
theorem dX8_tank_66 : decode cX8_tank 66 = .ok (.getfield 16, 3) := by decide +kernel
theorem dX8_tank_69 : decode cX8_tank 69 = .ok (.iload_n 1, 1) := by decide +kernel
theorem dX8_tank_70 : decode cX8_tank 70 = .ok (.iload 4, 2) := by decide +kernel
theorem dX8_tank_72 : decode cX8_tank 72 = .ok (.iastore, 1) := by decide +kernel
theorem dX8_tank_73 : decode cX8_tank 73 = .ok (.iconst 1, 1) := by decide +kernel
theorem dX8_tank_74 : decode cX8_tank 74 = .ok (.ireturn, 1) := by decide +kernel
theorem dX8_room_0 : decode cX8_room 0 = .ok (.iload_n 2, 1) := by decide +kernel
theorem dX8_room_1 : decode cX8_room 1 = .ok (.ifCond .eq 7, 3) := by decide +kernel
theorem dX8_room_4 : decode cX8_room 4 = .ok (.iconst 0, 1) := by decide +kernel
theorem dX8_room_5 : decode cX8_room 5 = .ok (.goto 16, 3) := by decide +kernel
theorem dX8_room_8 : decode cX8_room 8 = .ok (.aload_n 0, 1) := by decide +kernel
theorem dX8_room_9 : decode cX8_room 9 = .ok (.getfield 13, 3) := by decide +kernel
theorem dX8_room_12 : decode cX8_room 12 = .ok (.iload_n 1, 1) := by decide +kernel
theorem dX8_room_13 : decode cX8_room 13 = .ok (.iaload, 1) := by decide +kernel
theorem dX8_room_14 : decode cX8_room 14 = .ok (.aload_n 0, 1) := by decide +kernel
theorem dX8_room_15 : decode cX8_room 15 = .ok (.getfield 25, 3) := by decide +kernel
theorem dX8_room_18 : decode cX8_room 18 = .ok (.iload_n 1, 1) := by decide +kernel
theorem dX8_room_19 : decode cX8_room 19 = .ok (.iaload, 1) := by decide +kernel
theorem dX8_room_20 : decode cX8_room 20 = .ok (.isub, 1) := by decide +kernel
theorem dX8_room_21 : decode cX8_room 21 = .ok (.ireturn, 1) := by decide +kernel
theorem dX8_water_0 : decode cX8_water 0 = .ok (.aload_n 0, 1) := by decide +kernel
theorem dX8_water_1 : decode cX8_water 1 = .ok (.iload_n 1, 1) := by decide +kernel
theorem dX8_water_2 : decode cX8_water 2 = .ok (.invokevirtual 125, 3) := by decide +kernel
theorem dX8_water_5 : decode cX8_water 5 = .ok (.ifCond .eq 22, 3) := by decide +kernel
theorem dX8_water_8 : decode cX8_water 8 = .ok (.iload_n 2, 1) := by decide +kernel
theorem dX8_water_9 : decode cX8_water 9 = .ok (.iconst 0, 1) := by decide +kernel
theorem dX8_water_10 : decode cX8_water 10 = .ok (.aload_n 0, 1) := by decide +kernel
theorem dX8_water_11 : decode cX8_water 11 = .ok (.iload_n 1, 1) := by decide +kernel
theorem dX8_water_12 : decode cX8_water 12 = .ok (.aload_n 0, 1) := by decide +kernel
theorem dX8_water_13 : decode cX8_water 13 = .ok (.getfield 37, 3) := by decide +kernel
theorem dX8_water_16 : decode cX8_water 16 = .ok (.iload_n 1, 1) := by decide +kernel
theorem dX8_water_17 : decode cX8_water 17 = .ok (.baload, 1) := by decide +kernel
theorem dX8_water_18 : decode cX8_water 18 = .ok (.invokevirtual 132, 3) := by decide +kernel
theorem dX8_water_21 : decode cX8_water 21 = .ok (.invokestatic 121, 3) := by decide +kernel
theorem dX8_water_24 : decode cX8_water 24 = .ok (.ifCond .ne 5, 3) := by decide +kernel
theorem dX8_water_27 : decode cX8_water 27 = .ok (.iconst 0, 1) := by decide +kernel
theorem dX8_water_28 : decode cX8_water 28 = .ok (.ireturn, 1) := by decide +kernel
theorem dX8_water_29 : decode cX8_water 29 = .ok (.aload_n 0, 1) := by decide +kernel
theorem dX8_water_30 : decode cX8_water 30 = .ok (.dup, 1) := by decide +kernel
theorem dX8_water_31 : decode cX8_water 31 = .ok (.getfield 136, 3) := by decide +kernel
theorem dX8_water_34 : decode cX8_water 34 = .ok (.iload_n 2, 1) := by decide +kernel
theorem dX8_water_35 : decode cX8_water 35 = .ok (.aload_n 0, 1) := by decide +kernel
theorem dX8_water_36 : decode cX8_water 36 = .ok (.getfield 19, 3) := by decide +kernel
theorem dX8_water_39 : decode cX8_water 39 = .ok (.iload_n 1, 1) := by decide +kernel
theorem dX8_water_40 : decode cX8_water 40 = .ok (.iaload, 1) := by decide +kernel
theorem dX8_water_41 : decode cX8_water 41 = .ok (.isub, 1) := by decide +kernel
theorem dX8_water_42 : decode cX8_water 42 = .ok (.iadd, 1) := by decide +kernel
theorem dX8_water_43 : decode cX8_water 43 = .ok (.putfield 136, 3) := by decide +kernel
theorem dX8_water_46 : decode cX8_water 46 = .ok (.aload_n 0, 1) := by decide +kernel
theorem dX8_water_47 : decode cX8_water 47 = .ok (.getfield 19, 3) := by decide +kernel
theorem dX8_water_50 : decode cX8_water 50 = .ok (.iload_n 1, 1) := by decide +kernel
theorem dX8_water_51 : decode cX8_water 51 = .ok (.iload_n 2, 1) := by decide +kernel
theorem dX8_water_52 : decode cX8_water 52 = .ok (.iastore, 1) := by decide +kernel
theorem dX8_water_53 : decode cX8_water 53 = .ok (.iconst 1, 1) := by decide +kernel
theorem dX8_water_54 : decode cX8_water 54 = .ok (.ireturn, 1) := by decide +kernel
theorem dX8_field_0 : decode cX8_field 0 = .ok (.aload_n 0, 1) := by decide +kernel
theorem dX8_field_1 : decode cX8_field 1 = .ok (.iload_n 1, 1) := by decide +kernel
theorem dX8_field_2 : decode cX8_field 2 = .ok (.invokevirtual 125, 3) := by decide +kernel
theorem dX8_field_5 : decode cX8_field 5 = .ok (.ifCond .eq 43, 3) := by decide +kernel
theorem dX8_field_8 : decode cX8_field 8 = .ok (.iload_n 2, 1) := by decide +kernel
theorem dX8_field_9 : decode cX8_field 9 = .ok (.iconst 0, 1) := by decide +kernel
theorem dX8_field_10 : decode cX8_field 10 = .ok (.bipush 9, 2) := by decide +kernel
theorem dX8_field_12 : decode cX8_field 12 = .ok (.invokestatic 121, 3) := by decide +kernel
theorem dX8_field_15 : decode cX8_field 15 = .ok (.ifCond .eq 33, 3) := by decide +kernel
theorem dX8_field_18 : decode cX8_field 18 = .ok (.iload_n 3, 1) := by decide +kernel
theorem dX8_field_19 : decode cX8_field 19 = .ok (.iconst 1, 1) := by decide +kernel
theorem dX8_field_20 : decode cX8_field 20 = .ok (.bipush 20, 2) := by decide +kernel
theorem dX8_field_22 : decode cX8_field 22 = .ok (.invokestatic 121, 3) := by decide +kernel
theorem dX8_field_25 : decode cX8_field 25 = .ok (.ifCond .eq 23, 3) := by decide +kernel
theorem dX8_field_28 : decode cX8_field 28 = .ok (.iload 4, 2) := by decide +kernel
theorem dX8_field_30 : decode cX8_field 30 = .ok (.iconst 0, 1) := by decide +kernel
theorem dX8_field_31 : decode cX8_field 31 = .ok (.bipush 9, 2) := by decide +kernel
theorem dX8_field_33 : decode cX8_field 33 = .ok (.invokestatic 121, 3) := by decide +kernel
theorem dX8_field_36 : decode cX8_field 36 = .ok (.ifCond .eq 12, 3) := by decide +kernel
theorem dX8_field_39 : decode cX8_field 39 = .ok (.aload_n 0, 1) := by decide +kernel
theorem dX8_field_40 : decode cX8_field 40 = .ok (.getfield 139, 3) := by decide +kernel
theorem dX8_field_43 : decode cX8_field 43 = .ok (.bipush 40, 2) := by decide +kernel
theorem dX8_field_45 : decode cX8_field 45 = .ok (.if_icmp .ne 5, 3) := by decide +kernel
theorem dX8_field_48 : decode cX8_field 48 = .ok (.iconst (-1), 1) := by decide +kernel
theorem dX8_field_49 : decode cX8_field 49 = .ok (.ireturn, 1) := by decide +kernel
theorem dX8_field_50 : decode cX8_field 50 = .ok (.aload_n 0, 1) := by decide +kernel
theorem dX8_field_51 : decode cX8_field 51 = .ok (.getfield 41, 3) := by decide +kernel
theorem dX8_field_54 : decode cX8_field 54 = .ok (.aload_n 0, 1) := by decide +kernel
theorem dX8_field_55 : decode cX8_field 55 = .ok (.getfield 139, 3) := by decide +kernel
theorem dX8_field_58 : decode cX8_field 58 = .ok (.iload_n 1, 1) := by decide +kernel
theorem dX8_field_59 : decode cX8_field 59 = .ok (.iastore, 1) := by decide +kernel
theorem dX8_field_60 : decode cX8_field 60 = .ok (.aload_n 0, 1) := by decide +kernel
theorem dX8_field_61 : decode cX8_field 61 = .ok (.getfield 44, 3) := by decide +kernel
theorem dX8_field_64 : decode cX8_field 64 = .ok (.aload_n 0, 1) := by decide +kernel
theorem dX8_field_65 : decode cX8_field 65 = .ok (.getfield 139, 3) := by decide +kernel
theorem dX8_field_68 : decode cX8_field 68 = .ok (.iload_n 2, 1) := by decide +kernel
theorem dX8_field_69 : decode cX8_field 69 = .ok (.iastore, 1) := by decide +kernel
theorem dX8_field_70 : decode cX8_field 70 = .ok (.aload_n 0, 1) := by decide +kernel
theorem dX8_field_71 : decode cX8_field 71 = .ok (.getfield 47, 3) := by decide +kernel
theorem dX8_field_74 : decode cX8_field 74 = .ok (.aload_n 0, 1) := by decide +kernel
theorem dX8_field_75 : decode cX8_field 75 = .ok (.getfield 139, 3) := by decide +kernel
theorem dX8_field_78 : decode cX8_field 78 = .ok (.iload_n 3, 1) := by decide +kernel
theorem dX8_field_79 : decode cX8_field 79 = .ok (.iastore, 1) := by decide +kernel
theorem dX8_field_80 : decode cX8_field 80 = .ok (.aload_n 0, 1) := by decide +kernel
theorem dX8_field_81 : decode cX8_field 81 = .ok (.getfield 50, 3) := by decide +kernel
theorem dX8_field_84 : decode cX8_field 84 = .ok (.aload_n 0, 1) := by decide +kernel
theorem dX8_field_85 : decode cX8_field 85 = .ok (.getfield 139, 3) := by decide +kernel
theorem dX8_field_88 : decode cX8_field 88 = .ok (.iload 4, 2) := by decide +kernel
theorem dX8_field_90 : decode cX8_field 90 = .ok (.iastore, 1) := by decide +kernel
theorem dX8_field_91 : decode cX8_field 91 = .ok (.aload_n 0, 1) := by decide +kernel
theorem dX8_field_92 : decode cX8_field 92 = .ok (.getfield 62, 3) := by decide +kernel
theorem dX8_field_95 : decode cX8_field 95 = .ok (.aload_n 0, 1) := by decide +kernel
theorem dX8_field_96 : decode cX8_field 96 = .ok (.getfield 139, 3) := by decide +kernel
theorem dX8_field_99 : decode cX8_field 99 = .ok (.iload 5, 2) := by decide +kernel
theorem dX8_field_101 : decode cX8_field 101 = .ok (.bastore, 1) := by decide +kernel
theorem dX8_field_102 : decode cX8_field 102 = .ok (.aload_n 0, 1) := by decide +kernel
theorem dX8_field_103 : decode cX8_field 103 = .ok (.dup, 1) := by decide +kernel
theorem dX8_field_104 : decode cX8_field 104 = .ok (.getfield 139, 3) := by decide +kernel
theorem dX8_field_107 : decode cX8_field 107 = .ok (.iconst 1, 1) := by decide +kernel
theorem dX8_field_108 : decode cX8_field 108 = .ok (.iadd, 1) := by decide +kernel
theorem dX8_field_109 : decode cX8_field 109 = .ok (.putfield 139, 3) := by decide +kernel
theorem dX8_field_112 : decode cX8_field 112 = .ok (.aload_n 0, 1) := by decide +kernel
theorem dX8_field_113 : decode cX8_field 113 = .ok (.getfield 139, 3) := by decide +kernel
theorem dX8_field_116 : decode cX8_field 116 = .ok (.iconst 1, 1) := by decide +kernel
theorem dX8_field_117 : decode cX8_field 117 = .ok (.isub, 1) := by decide +kernel
theorem dX8_field_118 : decode cX8_field 118 = .ok (.ireturn, 1) := by decide +kernel
theorem dX8_open_0 : decode cX8_open 0 = .ok (.aload_n 0, 1) := by decide +kernel
theorem dX8_open_1 : decode cX8_open 1 = .ok (.iload_n 1, 1) := by decide +kernel
theorem dX8_open_2 : decode cX8_open 2 = .ok (.invokevirtual 125, 3) := by decide +kernel
theorem dX8_open_5 : decode cX8_open 5 = .ok (.ifCond .eq 13, 3) := by decide +kernel
theorem dX8_open_8 : decode cX8_open 8 = .ok (.iload_n 2, 1) := by decide +kernel
theorem dX8_open_9 : decode cX8_open 9 = .ok (.iconst 0, 1) := by decide +kernel
theorem dX8_open_10 : decode cX8_open 10 = .ok (.bipush 20, 2) := by decide +kernel
theorem dX8_open_12 : decode cX8_open 12 = .ok (.invokestatic 121, 3) := by decide +kernel
theorem dX8_open_15 : decode cX8_open 15 = .ok (.ifCond .ne 5, 3) := by decide +kernel
theorem dX8_open_18 : decode cX8_open 18 = .ok (.iconst 0, 1) := by decide +kernel
theorem dX8_open_19 : decode cX8_open 19 = .ok (.ireturn, 1) := by decide +kernel
theorem dX8_open_20 : decode cX8_open 20 = .ok (.aload_n 0, 1) := by decide +kernel
theorem dX8_open_21 : decode cX8_open 21 = .ok (.getfield 22, 3) := by decide +kernel
theorem dX8_open_24 : decode cX8_open 24 = .ok (.iload_n 1, 1) := by decide +kernel
theorem dX8_open_25 : decode cX8_open 25 = .ok (.iload_n 2, 1) := by decide +kernel
theorem dX8_open_26 : decode cX8_open 26 = .ok (.iastore, 1) := by decide +kernel
theorem dX8_open_27 : decode cX8_open 27 = .ok (.iconst 1, 1) := by decide +kernel
theorem dX8_open_28 : decode cX8_open 28 = .ok (.ireturn, 1) := by decide +kernel
theorem dX8_mend_0 : decode cX8_mend 0 = .ok (.aload_n 0, 1) := by decide +kernel
theorem dX8_mend_1 : decode cX8_mend 1 = .ok (.iload_n 1, 1) := by decide +kernel
theorem dX8_mend_2 : decode cX8_mend 2 = .ok (.invokevirtual 125, 3) := by decide +kernel
theorem dX8_mend_5 : decode cX8_mend 5 = .ok (.ifCond .eq 14, 3) := by decide +kernel
theorem dX8_mend_8 : decode cX8_mend 8 = .ok (.iload_n 2, 1) := by decide +kernel
theorem dX8_mend_9 : decode cX8_mend 9 = .ok (.iconst 0, 1) := by decide +kernel
theorem dX8_mend_10 : decode cX8_mend 10 = .ok (.sipush 500, 3) := by decide +kernel
theorem dX8_mend_13 : decode cX8_mend 13 = .ok (.invokestatic 121, 3) := by decide +kernel
theorem dX8_mend_16 : decode cX8_mend 16 = .ok (.ifCond .ne 5, 3) := by decide +kernel
theorem dX8_mend_19 : decode cX8_mend 19 = .ok (.iconst 0, 1) := by decide +kernel
theorem dX8_mend_20 : decode cX8_mend 20 = .ok (.ireturn, 1) := by decide +kernel
theorem dX8_mend_21 : decode cX8_mend 21 = .ok (.aload_n 0, 1) := by decide +kernel
theorem dX8_mend_22 : decode cX8_mend 22 = .ok (.getfield 16, 3) := by decide +kernel
theorem dX8_mend_25 : decode cX8_mend 25 = .ok (.iload_n 1, 1) := by decide +kernel
theorem dX8_mend_26 : decode cX8_mend 26 = .ok (.iload_n 2, 1) := by decide +kernel
theorem dX8_mend_27 : decode cX8_mend 27 = .ok (.iastore, 1) := by decide +kernel
theorem dX8_mend_28 : decode cX8_mend 28 = .ok (.aload_n 0, 1) := by decide +kernel
theorem dX8_mend_29 : decode cX8_mend 29 = .ok (.getfield 37, 3) := by decide +kernel
theorem dX8_mend_32 : decode cX8_mend 32 = .ok (.iload_n 1, 1) := by decide +kernel
theorem dX8_mend_33 : decode cX8_mend 33 = .ok (.iconst 0, 1) := by decide +kernel
theorem dX8_mend_34 : decode cX8_mend 34 = .ok (.bastore, 1) := by decide +kernel
theorem dX8_mend_35 : decode cX8_mend 35 = .ok (.iconst 1, 1) := by decide +kernel
theorem dX8_mend_36 : decode cX8_mend 36 = .ok (.ireturn, 1) := by decide +kernel
theorem dX8_dredge_0 : decode cX8_dredge 0 = .ok (.aload_n 0, 1) := by decide +kernel
theorem dX8_dredge_1 : decode cX8_dredge 1 = .ok (.iload_n 1, 1) := by decide +kernel
theorem dX8_dredge_2 : decode cX8_dredge 2 = .ok (.invokevirtual 125, 3) := by decide +kernel
theorem dX8_dredge_5 : decode cX8_dredge 5 = .ok (.ifCond .eq 17, 3) := by decide +kernel
theorem dX8_dredge_8 : decode cX8_dredge 8 = .ok (.iload_n 2, 1) := by decide +kernel
theorem dX8_dredge_9 : decode cX8_dredge 9 = .ok (.iconst 1, 1) := by decide +kernel
theorem dX8_dredge_10 : decode cX8_dredge 10 = .ok (.aload_n 0, 1) := by decide +kernel
theorem dX8_dredge_11 : decode cX8_dredge 11 = .ok (.getfield 25, 3) := by decide +kernel
theorem dX8_dredge_14 : decode cX8_dredge 14 = .ok (.iload_n 1, 1) := by decide +kernel
theorem dX8_dredge_15 : decode cX8_dredge 15 = .ok (.iaload, 1) := by decide +kernel
theorem dX8_dredge_16 : decode cX8_dredge 16 = .ok (.invokestatic 121, 3) := by decide +kernel
theorem dX8_dredge_19 : decode cX8_dredge 19 = .ok (.ifCond .ne 5, 3) := by decide +kernel
theorem dX8_dredge_22 : decode cX8_dredge 22 = .ok (.iconst (-1), 1) := by decide +kernel
theorem dX8_dredge_23 : decode cX8_dredge 23 = .ok (.ireturn, 1) := by decide +kernel
theorem dX8_dredge_24 : decode cX8_dredge 24 = .ok (.aload_n 0, 1) := by decide +kernel
theorem dX8_dredge_25 : decode cX8_dredge 25 = .ok (.getfield 25, 3) := by decide +kernel
theorem dX8_dredge_28 : decode cX8_dredge 28 = .ok (.iload_n 1, 1) := by decide +kernel
theorem dX8_dredge_29 : decode cX8_dredge 29 = .ok (.dup2, 1) := by decide +kernel
theorem dX8_dredge_30 : decode cX8_dredge 30 = .ok (.iaload, 1) := by decide +kernel
theorem dX8_dredge_31 : decode cX8_dredge 31 = .ok (.iload_n 2, 1) := by decide +kernel
theorem dX8_dredge_32 : decode cX8_dredge 32 = .ok (.isub, 1) := by decide +kernel
theorem dX8_dredge_33 : decode cX8_dredge 33 = .ok (.iastore, 1) := by decide +kernel
theorem dX8_dredge_34 : decode cX8_dredge 34 = .ok (.aload_n 0, 1) := by decide +kernel
theorem dX8_dredge_35 : decode cX8_dredge 35 = .ok (.getfield 25, 3) := by decide +kernel
theorem dX8_dredge_38 : decode cX8_dredge 38 = .ok (.iload_n 1, 1) := by decide +kernel
theorem dX8_dredge_39 : decode cX8_dredge 39 = .ok (.iaload, 1) := by decide +kernel
theorem dX8_dredge_40 : decode cX8_dredge 40 = .ok (.ireturn, 1) := by decide +kernel
theorem dX8_custom_0 : decode cX8_custom 0 = .ok (.aload_n 0, 1) := by decide +kernel
theorem dX8_custom_1 : decode cX8_custom 1 = .ok (.getfield 142, 3) := by decide +kernel
theorem dX8_custom_4 : decode cX8_custom 4 = .ok (.ifCond .eq 12, 3) := by decide +kernel
theorem dX8_custom_7 : decode cX8_custom 7 = .ok (.aload_n 0, 1) := by decide +kernel
theorem dX8_custom_8 : decode cX8_custom 8 = .ok (.getfield 88, 3) := by decide +kernel
theorem dX8_custom_11 : decode cX8_custom 11 = .ok (.iload_n 1, 1) := by decide +kernel
theorem dX8_custom_12 : decode cX8_custom 12 = .ok (.iaload, 1) := by decide +kernel
theorem dX8_custom_13 : decode cX8_custom 13 = .ok (.goto 4, 3) := by decide +kernel
theorem dX8_custom_16 : decode cX8_custom 16 = .ok (.iload_n 2, 1) := by decide +kernel
theorem dX8_custom_17 : decode cX8_custom 17 = .ok (.ireturn, 1) := by decide +kernel
theorem dX8_feed_0 : decode cX8_feed 0 = .ok (.aload_n 0, 1) := by decide +kernel
theorem dX8_feed_1 : decode cX8_feed 1 = .ok (.getfield 146, 3) := by decide +kernel
theorem dX8_feed_4 : decode cX8_feed 4 = .ok (.bipush 20, 2) := by decide +kernel
theorem dX8_feed_6 : decode cX8_feed 6 = .ok (.iadd, 1) := by decide +kernel
theorem dX8_feed_7 : decode cX8_feed 7 = .ok (.sipush 300, 3) := by decide +kernel
theorem dX8_feed_10 : decode cX8_feed 10 = .ok (.if_icmp .le 5, 3) := by decide +kernel
theorem dX8_feed_13 : decode cX8_feed 13 = .ok (.iconst (-1), 1) := by decide +kernel
theorem dX8_feed_14 : decode cX8_feed 14 = .ok (.ireturn, 1) := by decide +kernel
theorem dX8_feed_15 : decode cX8_feed 15 = .ok (.aload_n 0, 1) := by decide +kernel
theorem dX8_feed_16 : decode cX8_feed 16 = .ok (.iload_n 1, 1) := by decide +kernel
theorem dX8_feed_17 : decode cX8_feed 17 = .ok (.invokevirtual 149, 3) := by decide +kernel
theorem dX8_feed_20 : decode cX8_feed 20 = .ok (.aload_n 0, 1) := by decide +kernel
theorem dX8_feed_21 : decode cX8_feed 21 = .ok (.iload_n 2, 1) := by decide +kernel
theorem dX8_feed_22 : decode cX8_feed 22 = .ok (.invokevirtual 149, 3) := by decide +kernel
theorem dX8_feed_25 : decode cX8_feed 25 = .ok (.aload_n 0, 1) := by decide +kernel
theorem dX8_feed_26 : decode cX8_feed 26 = .ok (.iload_n 3, 1) := by decide +kernel
theorem dX8_feed_27 : decode cX8_feed 27 = .ok (.invokevirtual 149, 3) := by decide +kernel
theorem dX8_feed_30 : decode cX8_feed 30 = .ok (.aload_n 0, 1) := by decide +kernel
theorem dX8_feed_31 : decode cX8_feed 31 = .ok (.iload 4, 2) := by decide +kernel
theorem dX8_feed_33 : decode cX8_feed 33 = .ok (.invokevirtual 149, 3) := by decide +kernel
theorem dX8_feed_36 : decode cX8_feed 36 = .ok (.aload_n 0, 1) := by decide +kernel
theorem dX8_feed_37 : decode cX8_feed 37 = .ok (.iload 5, 2) := by decide +kernel
theorem dX8_feed_39 : decode cX8_feed 39 = .ok (.invokevirtual 149, 3) := by decide +kernel
theorem dX8_feed_42 : decode cX8_feed 42 = .ok (.aload_n 0, 1) := by decide +kernel
theorem dX8_feed_43 : decode cX8_feed 43 = .ok (.getfield 146, 3) := by decide +kernel
theorem dX8_feed_46 : decode cX8_feed 46 = .ok (.ireturn, 1) := by decide +kernel
theorem dX8_four_0 : decode cX8_four 0 = .ok (.bipush 24, 2) := by decide +kernel
theorem dX8_four_2 : decode cX8_four 2 = .ok (.istore_n 2, 1) := by decide +kernel
theorem dX8_four_3 : decode cX8_four 3 = .ok (.iload_n 2, 1) := by decide +kernel
theorem dX8_four_4 : decode cX8_four 4 = .ok (.ifCond .lt 32, 3) := by decide +kernel
theorem dX8_four_7 : decode cX8_four 7 = .ok (.aload_n 0, 1) := by decide +kernel
theorem dX8_four_8 : decode cX8_four 8 = .ok (.getfield 78, 3) := by decide +kernel
theorem dX8_four_11 : decode cX8_four 11 = .ok (.aload_n 0, 1) := by decide +kernel
theorem dX8_four_12 : decode cX8_four 12 = .ok (.getfield 146, 3) := by decide +kernel
theorem dX8_four_15 : decode cX8_four 15 = .ok (.iload_n 1, 1) := by decide +kernel
theorem dX8_four_16 : decode cX8_four 16 = .ok (.iload_n 2, 1) := by decide +kernel
theorem dX8_four_17 : decode cX8_four 17 = .ok (.ishr, 1) := by decide +kernel
theorem dX8_four_18 : decode cX8_four 18 = .ok (.i2b, 1) := by decide +kernel
theorem dX8_four_19 : decode cX8_four 19 = .ok (.bastore, 1) := by decide +kernel
theorem dX8_four_20 : decode cX8_four 20 = .ok (.aload_n 0, 1) := by decide +kernel
theorem dX8_four_21 : decode cX8_four 21 = .ok (.dup, 1) := by decide +kernel
theorem dX8_four_22 : decode cX8_four 22 = .ok (.getfield 146, 3) := by decide +kernel
theorem dX8_four_25 : decode cX8_four 25 = .ok (.iconst 1, 1) := by decide +kernel
theorem dX8_four_26 : decode cX8_four 26 = .ok (.iadd, 1) := by decide +kernel
theorem dX8_four_27 : decode cX8_four 27 = .ok (.putfield 146, 3) := by decide +kernel
theorem dX8_four_30 : decode cX8_four 30 = .ok (.iinc 2 (-8), 3) := by decide +kernel
theorem dX8_four_33 : decode cX8_four 33 = .ok (.goto (-30), 3) := by decide +kernel
theorem dX8_four_36 : decode cX8_four 36 = .ok (.return_, 1) := by decide +kernel
theorem dX8_blanks_0 : decode cX8_blanks 0 = .ok (.aload_n 0, 1) := by decide +kernel
theorem dX8_blanks_1 : decode cX8_blanks 1 = .ok (.getfield 153, 3) := by decide +kernel
theorem dX8_blanks_4 : decode cX8_blanks 4 = .ok (.aload_n 0, 1) := by decide +kernel
theorem dX8_blanks_5 : decode cX8_blanks 5 = .ok (.getfield 156, 3) := by decide +kernel
theorem dX8_blanks_8 : decode cX8_blanks 8 = .ok (.if_icmp .ge 44, 3) := by decide +kernel
theorem dX8_blanks_11 : decode cX8_blanks 11 = .ok (.aload_n 0, 1) := by decide +kernel
theorem dX8_blanks_12 : decode cX8_blanks 12 = .ok (.getfield 82, 3) := by decide +kernel
theorem dX8_blanks_15 : decode cX8_blanks 15 = .ok (.aload_n 0, 1) := by decide +kernel
theorem dX8_blanks_16 : decode cX8_blanks 16 = .ok (.getfield 153, 3) := by decide +kernel
theorem dX8_blanks_19 : decode cX8_blanks 19 = .ok (.baload, 1) := by decide +kernel
theorem dX8_blanks_20 : decode cX8_blanks 20 = .ok (.bipush 32, 2) := by decide +kernel
theorem dX8_blanks_22 : decode cX8_blanks 22 = .ok (.if_icmp .eq 17, 3) := by decide +kernel
theorem dX8_blanks_25 : decode cX8_blanks 25 = .ok (.aload_n 0, 1) := by decide +kernel
theorem dX8_blanks_26 : decode cX8_blanks 26 = .ok (.getfield 82, 3) := by decide +kernel
theorem dX8_blanks_29 : decode cX8_blanks 29 = .ok (.aload_n 0, 1) := by decide +kernel
theorem dX8_blanks_30 : decode cX8_blanks 30 = .ok (.getfield 153, 3) := by decide +kernel
theorem dX8_blanks_33 : decode cX8_blanks 33 = .ok (.baload, 1) := by decide +kernel
theorem dX8_blanks_34 : decode cX8_blanks 34 = .ok (.bipush 10, 2) := by decide +kernel
theorem dX8_blanks_36 : decode cX8_blanks 36 = .ok (.if_icmp .ne 16, 3) := by decide +kernel
theorem dX8_blanks_39 : decode cX8_blanks 39 = .ok (.aload_n 0, 1) := by decide +kernel
theorem dX8_blanks_40 : decode cX8_blanks 40 = .ok (.dup, 1) := by decide +kernel
theorem dX8_blanks_41 : decode cX8_blanks 41 = .ok (.getfield 153, 3) := by decide +kernel
theorem dX8_blanks_44 : decode cX8_blanks 44 = .ok (.iconst 1, 1) := by decide +kernel
theorem dX8_blanks_45 : decode cX8_blanks 45 = .ok (.iadd, 1) := by decide +kernel
theorem dX8_blanks_46 : decode cX8_blanks 46 = .ok (.putfield 153, 3) := by decide +kernel
theorem dX8_blanks_49 : decode cX8_blanks 49 = .ok (.goto (-49), 3) := by decide +kernel
theorem dX8_blanks_52 : decode cX8_blanks 52 = .ok (.return_, 1) := by decide +kernel
theorem dX8_word_0 : decode cX8_word 0 = .ok (.aload_n 0, 1) := by decide +kernel
theorem dX8_word_1 : decode cX8_word 1 = .ok (.invokevirtual 159, 3) := by decide +kernel
theorem dX8_word_4 : decode cX8_word 4 = .ok (.aload_n 0, 1) := by decide +kernel
theorem dX8_word_5 : decode cX8_word 5 = .ok (.aload_n 0, 1) := by decide +kernel
theorem dX8_word_6 : decode cX8_word 6 = .ok (.getfield 153, 3) := by decide +kernel
theorem dX8_word_9 : decode cX8_word 9 = .ok (.putfield 162, 3) := by decide +kernel
theorem dX8_word_12 : decode cX8_word 12 = .ok (.lconst 0, 1) := by decide +kernel
theorem dX8_word_13 : decode cX8_word 13 = .ok (.lstore_n 1, 1) := by decide +kernel
theorem dX8_word_14 : decode cX8_word 14 = .ok (.aload_n 0, 1) := by decide +kernel
theorem dX8_word_15 : decode cX8_word 15 = .ok (.getfield 162, 3) := by decide +kernel
theorem dX8_word_18 : decode cX8_word 18 = .ok (.aload_n 0, 1) := by decide +kernel
theorem dX8_word_19 : decode cX8_word 19 = .ok (.getfield 156, 3) := by decide +kernel
theorem dX8_word_22 : decode cX8_word 22 = .ok (.if_icmp .ge 78, 3) := by decide +kernel
theorem dX8_word_25 : decode cX8_word 25 = .ok (.aload_n 0, 1) := by decide +kernel
theorem dX8_word_26 : decode cX8_word 26 = .ok (.getfield 82, 3) := by decide +kernel
theorem dX8_word_29 : decode cX8_word 29 = .ok (.aload_n 0, 1) := by decide +kernel
theorem dX8_word_30 : decode cX8_word 30 = .ok (.getfield 162, 3) := by decide +kernel
theorem dX8_word_33 : decode cX8_word 33 = .ok (.baload, 1) := by decide +kernel
theorem dX8_word_34 : decode cX8_word 34 = .ok (.bipush 97, 2) := by decide +kernel
theorem dX8_word_36 : decode cX8_word 36 = .ok (.if_icmp .lt 64, 3) := by decide +kernel
theorem dX8_word_39 : decode cX8_word 39 = .ok (.aload_n 0, 1) := by decide +kernel
theorem dX8_word_40 : decode cX8_word 40 = .ok (.getfield 82, 3) := by decide +kernel
theorem dX8_word_43 : decode cX8_word 43 = .ok (.aload_n 0, 1) := by decide +kernel
theorem dX8_word_44 : decode cX8_word 44 = .ok (.getfield 162, 3) := by decide +kernel
theorem dX8_word_47 : decode cX8_word 47 = .ok (.baload, 1) := by decide +kernel
theorem dX8_word_48 : decode cX8_word 48 = .ok (.bipush 122, 2) := by decide +kernel
theorem dX8_word_50 : decode cX8_word 50 = .ok (.if_icmp .gt 50, 3) := by decide +kernel
theorem dX8_word_53 : decode cX8_word 53 = .ok (.aload_n 0, 1) := by decide +kernel
theorem dX8_word_54 : decode cX8_word 54 = .ok (.getfield 162, 3) := by decide +kernel
theorem dX8_word_57 : decode cX8_word 57 = .ok (.aload_n 0, 1) := by decide +kernel
theorem dX8_word_58 : decode cX8_word 58 = .ok (.getfield 153, 3) := by decide +kernel
theorem dX8_word_61 : decode cX8_word 61 = .ok (.isub, 1) := by decide +kernel
theorem dX8_word_62 : decode cX8_word 62 = .ok (.bipush 7, 2) := by decide +kernel
theorem dX8_word_64 : decode cX8_word 64 = .ok (.if_icmp .ge 21, 3) := by decide +kernel
theorem dX8_word_67 : decode cX8_word 67 = .ok (.lload_n 1, 1) := by decide +kernel
theorem dX8_word_68 : decode cX8_word 68 = .ok (.bipush 8, 2) := by decide +kernel
theorem dX8_word_70 : decode cX8_word 70 = .ok (.lshl, 1) := by decide +kernel
theorem dX8_word_71 : decode cX8_word 71 = .ok (.aload_n 0, 1) := by decide +kernel
theorem dX8_word_72 : decode cX8_word 72 = .ok (.getfield 82, 3) := by decide +kernel
theorem dX8_word_75 : decode cX8_word 75 = .ok (.aload_n 0, 1) := by decide +kernel
theorem dX8_word_76 : decode cX8_word 76 = .ok (.getfield 162, 3) := by decide +kernel
theorem dX8_word_79 : decode cX8_word 79 = .ok (.baload, 1) := by decide +kernel
theorem dX8_word_80 : decode cX8_word 80 = .ok (.i2l, 1) := by decide +kernel
theorem dX8_word_81 : decode cX8_word 81 = .ok (.lor, 1) := by decide +kernel
theorem dX8_word_82 : decode cX8_word 82 = .ok (.goto 4, 3) := by decide +kernel
theorem dX8_word_85 : decode cX8_word 85 = .ok (.lconst 0, 1) := by decide +kernel
theorem dX8_word_86 : decode cX8_word 86 = .ok (.lstore_n 1, 1) := by decide +kernel
theorem dX8_word_87 : decode cX8_word 87 = .ok (.aload_n 0, 1) := by decide +kernel
theorem dX8_word_88 : decode cX8_word 88 = .ok (.dup, 1) := by decide +kernel
theorem dX8_word_89 : decode cX8_word 89 = .ok (.getfield 162, 3) := by decide +kernel
theorem dX8_word_92 : decode cX8_word 92 = .ok (.iconst 1, 1) := by decide +kernel
theorem dX8_word_93 : decode cX8_word 93 = .ok (.iadd, 1) := by decide +kernel
theorem dX8_word_94 : decode cX8_word 94 = .ok (.putfield 162, 3) := by decide +kernel
theorem dX8_word_97 : decode cX8_word 97 = .ok (.goto (-83), 3) := by decide +kernel
theorem dX8_word_100 : decode cX8_word 100 = .ok (.aload_n 0, 1) := by decide +kernel
theorem dX8_word_101 : decode cX8_word 101 = .ok (.getfield 162, 3) := by decide +kernel
theorem dX8_word_104 : decode cX8_word 104 = .ok (.aload_n 0, 1) := by decide +kernel
theorem dX8_word_105 : decode cX8_word 105 = .ok (.getfield 153, 3) := by decide +kernel
theorem dX8_word_108 : decode cX8_word 108 = .ok (.isub, 1) := by decide +kernel
theorem dX8_word_109 : decode cX8_word 109 = .ok (.bipush 7, 2) := by decide +kernel
theorem dX8_word_111 : decode cX8_word 111 = .ok (.if_icmp .le 7, 3) := by decide +kernel
theorem dX8_word_114 : decode cX8_word 114 = .ok (.lconst 0, 1) := by decide +kernel
theorem dX8_word_115 : decode cX8_word 115 = .ok (.goto 4, 3) := by decide +kernel
theorem dX8_word_118 : decode cX8_word 118 = .ok (.lload_n 1, 1) := by decide +kernel
theorem dX8_word_119 : decode cX8_word 119 = .ok (.lreturn, 1) := by decide +kernel
theorem dX8_takes_0 : decode cX8_takes 0 = .ok (.aload_n 0, 1) := by decide +kernel
theorem dX8_takes_1 : decode cX8_takes 1 = .ok (.invokevirtual 165, 3) := by decide +kernel
theorem dX8_takes_4 : decode cX8_takes 4 = .ok (.lload_n 1, 1) := by decide +kernel
theorem dX8_takes_5 : decode cX8_takes 5 = .ok (.lcmp, 1) := by decide +kernel
theorem dX8_takes_6 : decode cX8_takes 6 = .ok (.ifCond .eq 5, 3) := by decide +kernel
theorem dX8_takes_9 : decode cX8_takes 9 = .ok (.iconst 0, 1) := by decide +kernel
theorem dX8_takes_10 : decode cX8_takes 10 = .ok (.ireturn, 1) := by decide +kernel
theorem dX8_takes_11 : decode cX8_takes 11 = .ok (.aload_n 0, 1) := by decide +kernel
theorem dX8_takes_12 : decode cX8_takes 12 = .ok (.aload_n 0, 1) := by decide +kernel
theorem dX8_takes_13 : decode cX8_takes 13 = .ok (.getfield 162, 3) := by decide +kernel
theorem dX8_takes_16 : decode cX8_takes 16 = .ok (.putfield 153, 3) := by decide +kernel
theorem dX8_takes_19 : decode cX8_takes 19 = .ok (.iconst 1, 1) := by decide +kernel
theorem dX8_takes_20 : decode cX8_takes 20 = .ok (.ireturn, 1) := by decide +kernel
theorem dX8_takesNumber_0 : decode cX8_takesNumber 0 = .ok (.aload_n 0, 1) := by decide +kernel
theorem dX8_takesNumber_1 : decode cX8_takesNumber 1 = .ok (.invokevirtual 159, 3) := by decide +kernel
theorem dX8_takesNumber_4 : decode cX8_takesNumber 4 = .ok (.aload_n 0, 1) := by decide +kernel
theorem dX8_takesNumber_5 : decode cX8_takesNumber 5 = .ok (.getfield 153, 3) := by decide +kernel
theorem dX8_takesNumber_8 : decode cX8_takesNumber 8 = .ok (.istore_n 1, 1) := by decide +kernel
theorem dX8_takesNumber_9 : decode cX8_takesNumber 9 = .ok (.aload_n 0, 1) := by decide +kernel
theorem dX8_takesNumber_10 : decode cX8_takesNumber 10 = .ok (.iconst 0, 1) := by decide +kernel
theorem dX8_takesNumber_11 : decode cX8_takesNumber 11 = .ok (.putfield 169, 3) := by decide +kernel
theorem dX8_takesNumber_14 : decode cX8_takesNumber 14 = .ok (.iload_n 1, 1) := by decide +kernel
theorem dX8_takesNumber_15 : decode cX8_takesNumber 15 = .ok (.aload_n 0, 1) := by decide +kernel
theorem dX8_takesNumber_16 : decode cX8_takesNumber 16 = .ok (.getfield 156, 3) := by decide +kernel
theorem dX8_takesNumber_19 : decode cX8_takesNumber 19 = .ok (.if_icmp .ge 62, 3) := by decide +kernel
theorem dX8_takesNumber_22 : decode cX8_takesNumber 22 = .ok (.aload_n 0, 1) := by decide +kernel
theorem dX8_takesNumber_23 : decode cX8_takesNumber 23 = .ok (.getfield 82, 3) := by decide +kernel
theorem dX8_takesNumber_26 : decode cX8_takesNumber 26 = .ok (.iload_n 1, 1) := by decide +kernel
theorem dX8_takesNumber_27 : decode cX8_takesNumber 27 = .ok (.baload, 1) := by decide +kernel
theorem dX8_takesNumber_28 : decode cX8_takesNumber 28 = .ok (.bipush 48, 2) := by decide +kernel
theorem dX8_takesNumber_30 : decode cX8_takesNumber 30 = .ok (.if_icmp .lt 51, 3) := by decide +kernel
theorem dX8_takesNumber_33 : decode cX8_takesNumber 33 = .ok (.aload_n 0, 1) := by decide +kernel
theorem dX8_takesNumber_34 : decode cX8_takesNumber 34 = .ok (.getfield 82, 3) := by decide +kernel
theorem dX8_takesNumber_37 : decode cX8_takesNumber 37 = .ok (.iload_n 1, 1) := by decide +kernel
theorem dX8_takesNumber_38 : decode cX8_takesNumber 38 = .ok (.baload, 1) := by decide +kernel
theorem dX8_takesNumber_39 : decode cX8_takesNumber 39 = .ok (.bipush 57, 2) := by decide +kernel
theorem dX8_takesNumber_41 : decode cX8_takesNumber 41 = .ok (.if_icmp .gt 40, 3) := by decide +kernel
theorem dX8_takesNumber_44 : decode cX8_takesNumber 44 = .ok (.iload_n 1, 1) := by decide +kernel
theorem dX8_takesNumber_45 : decode cX8_takesNumber 45 = .ok (.aload_n 0, 1) := by decide +kernel
theorem dX8_takesNumber_46 : decode cX8_takesNumber 46 = .ok (.getfield 153, 3) := by decide +kernel
theorem dX8_takesNumber_49 : decode cX8_takesNumber 49 = .ok (.isub, 1) := by decide +kernel
theorem dX8_takesNumber_50 : decode cX8_takesNumber 50 = .ok (.iconst 3, 1) := by decide +kernel
theorem dX8_takesNumber_51 : decode cX8_takesNumber 51 = .ok (.if_icmp .ge 24, 3) := by decide +kernel
theorem dX8_takesNumber_54 : decode cX8_takesNumber 54 = .ok (.aload_n 0, 1) := by decide +kernel
theorem dX8_takesNumber_55 : decode cX8_takesNumber 55 = .ok (.bipush 10, 2) := by decide +kernel
theorem dX8_takesNumber_57 : decode cX8_takesNumber 57 = .ok (.aload_n 0, 1) := by decide +kernel
theorem dX8_takesNumber_58 : decode cX8_takesNumber 58 = .ok (.getfield 169, 3) := by decide +kernel
theorem dX8_takesNumber_61 : decode cX8_takesNumber 61 = .ok (.imul, 1) := by decide +kernel
theorem dX8_takesNumber_62 : decode cX8_takesNumber 62 = .ok (.aload_n 0, 1) := by decide +kernel
theorem dX8_takesNumber_63 : decode cX8_takesNumber 63 = .ok (.getfield 82, 3) := by decide +kernel
theorem dX8_takesNumber_66 : decode cX8_takesNumber 66 = .ok (.iload_n 1, 1) := by decide +kernel
theorem dX8_takesNumber_67 : decode cX8_takesNumber 67 = .ok (.baload, 1) := by decide +kernel
theorem dX8_takesNumber_68 : decode cX8_takesNumber 68 = .ok (.iadd, 1) := by decide +kernel
theorem dX8_takesNumber_69 : decode cX8_takesNumber 69 = .ok (.bipush 48, 2) := by decide +kernel
theorem dX8_takesNumber_71 : decode cX8_takesNumber 71 = .ok (.isub, 1) := by decide +kernel
theorem dX8_takesNumber_72 : decode cX8_takesNumber 72 = .ok (.putfield 169, 3) := by decide +kernel
theorem dX8_takesNumber_75 : decode cX8_takesNumber 75 = .ok (.iinc 1 1, 3) := by decide +kernel
theorem dX8_takesNumber_78 : decode cX8_takesNumber 78 = .ok (.goto (-64), 3) := by decide +kernel
theorem dX8_takesNumber_81 : decode cX8_takesNumber 81 = .ok (.iload_n 1, 1) := by decide +kernel
theorem dX8_takesNumber_82 : decode cX8_takesNumber 82 = .ok (.aload_n 0, 1) := by decide +kernel
theorem dX8_takesNumber_83 : decode cX8_takesNumber 83 = .ok (.getfield 153, 3) := by decide +kernel
theorem dX8_takesNumber_86 : decode cX8_takesNumber 86 = .ok (.if_icmp .eq 13, 3) := by decide +kernel
theorem dX8_takesNumber_89 : decode cX8_takesNumber 89 = .ok (.iload_n 1, 1) := by decide +kernel
theorem dX8_takesNumber_90 : decode cX8_takesNumber 90 = .ok (.aload_n 0, 1) := by decide +kernel
theorem dX8_takesNumber_91 : decode cX8_takesNumber 91 = .ok (.getfield 153, 3) := by decide +kernel
theorem dX8_takesNumber_94 : decode cX8_takesNumber 94 = .ok (.isub, 1) := by decide +kernel
theorem dX8_takesNumber_95 : decode cX8_takesNumber 95 = .ok (.iconst 3, 1) := by decide +kernel
theorem dX8_takesNumber_96 : decode cX8_takesNumber 96 = .ok (.if_icmp .le 5, 3) := by decide +kernel
theorem dX8_takesNumber_99 : decode cX8_takesNumber 99 = .ok (.iconst 0, 1) := by decide +kernel
theorem dX8_takesNumber_100 : decode cX8_takesNumber 100 = .ok (.ireturn, 1) := by decide +kernel
theorem dX8_takesNumber_101 : decode cX8_takesNumber 101 = .ok (.aload_n 0, 1) := by decide +kernel
theorem dX8_takesNumber_102 : decode cX8_takesNumber 102 = .ok (.iload_n 1, 1) := by decide +kernel
theorem dX8_takesNumber_103 : decode cX8_takesNumber 103 = .ok (.putfield 153, 3) := by decide +kernel
theorem dX8_takesNumber_106 : decode cX8_takesNumber 106 = .ok (.iconst 1, 1) := by decide +kernel
theorem dX8_takesNumber_107 : decode cX8_takesNumber 107 = .ok (.ireturn, 1) := by decide +kernel
theorem dX8_statement_0 : decode cX8_statement 0 = .ok (.aload_n 0, 1) := by decide +kernel
theorem dX8_statement_1 : decode cX8_statement 1 = .ok (.ldc2_w 172, 3) := by decide +kernel
theorem dX8_statement_4 : decode cX8_statement 4 = .ok (.invokevirtual 174, 3) := by decide +kernel
theorem dX8_statement_7 : decode cX8_statement 7 = .ok (.ifCond .eq 84, 3) := by decide +kernel
theorem dX8_statement_10 : decode cX8_statement 10 = .ok (.aload_n 0, 1) := by decide +kernel
theorem dX8_statement_11 : decode cX8_statement 11 = .ok (.ldc2_w 178, 3) := by decide +kernel
theorem dX8_statement_14 : decode cX8_statement 14 = .ok (.invokevirtual 174, 3) := by decide +kernel
theorem dX8_statement_17 : decode cX8_statement 17 = .ok (.ifCond .eq 7, 3) := by decide +kernel
theorem dX8_statement_20 : decode cX8_statement 20 = .ok (.iconst 0, 1) := by decide +kernel
theorem dX8_statement_21 : decode cX8_statement 21 = .ok (.goto 32, 3) := by decide +kernel
theorem dX8_statement_24 : decode cX8_statement 24 = .ok (.aload_n 0, 1) := by decide +kernel
theorem dX8_statement_25 : decode cX8_statement 25 = .ok (.ldc2_w 180, 3) := by decide +kernel
theorem dX8_statement_28 : decode cX8_statement 28 = .ok (.invokevirtual 174, 3) := by decide +kernel
theorem dX8_statement_31 : decode cX8_statement 31 = .ok (.ifCond .eq 7, 3) := by decide +kernel
theorem dX8_statement_34 : decode cX8_statement 34 = .ok (.iconst 1, 1) := by decide +kernel
theorem dX8_statement_35 : decode cX8_statement 35 = .ok (.goto 18, 3) := by decide +kernel
theorem dX8_statement_38 : decode cX8_statement 38 = .ok (.aload_n 0, 1) := by decide +kernel
theorem dX8_statement_39 : decode cX8_statement 39 = .ok (.ldc2_w 182, 3) := by decide +kernel
theorem dX8_statement_42 : decode cX8_statement 42 = .ok (.invokevirtual 174, 3) := by decide +kernel
theorem dX8_statement_45 : decode cX8_statement 45 = .ok (.ifCond .eq 7, 3) := by decide +kernel
theorem dX8_statement_48 : decode cX8_statement 48 = .ok (.iconst 2, 1) := by decide +kernel
theorem dX8_statement_49 : decode cX8_statement 49 = .ok (.goto 4, 3) := by decide +kernel
theorem dX8_statement_52 : decode cX8_statement 52 = .ok (.iconst (-1), 1) := by decide +kernel
theorem dX8_statement_53 : decode cX8_statement 53 = .ok (.istore_n 1, 1) := by decide +kernel
theorem dX8_statement_54 : decode cX8_statement 54 = .ok (.iload_n 1, 1) := by decide +kernel
theorem dX8_statement_55 : decode cX8_statement 55 = .ok (.iconst (-1), 1) := by decide +kernel
theorem dX8_statement_56 : decode cX8_statement 56 = .ok (.if_icmp .ne 5, 3) := by decide +kernel
theorem dX8_statement_59 : decode cX8_statement 59 = .ok (.iconst 0, 1) := by decide +kernel
theorem dX8_statement_60 : decode cX8_statement 60 = .ok (.ireturn, 1) := by decide +kernel
theorem dX8_statement_61 : decode cX8_statement 61 = .ok (.aload_n 0, 1) := by decide +kernel
theorem dX8_statement_62 : decode cX8_statement 62 = .ok (.getfield 88, 3) := by decide +kernel
theorem dX8_statement_65 : decode cX8_statement 65 = .ok (.bipush 15, 2) := by decide +kernel
theorem dX8_statement_67 : decode cX8_statement 67 = .ok (.aload_n 0, 1) := by decide +kernel
theorem dX8_statement_68 : decode cX8_statement 68 = .ok (.getfield 88, 3) := by decide +kernel
theorem dX8_statement_71 : decode cX8_statement 71 = .ok (.bipush 14, 2) := by decide +kernel
theorem dX8_statement_73 : decode cX8_statement 73 = .ok (.iaload, 1) := by decide +kernel
theorem dX8_statement_74 : decode cX8_statement 74 = .ok (.iadd, 1) := by decide +kernel
theorem dX8_statement_75 : decode cX8_statement 75 = .ok (.iload_n 1, 1) := by decide +kernel
theorem dX8_statement_76 : decode cX8_statement 76 = .ok (.iastore, 1) := by decide +kernel
theorem dX8_statement_77 : decode cX8_statement 77 = .ok (.aload_n 0, 1) := by decide +kernel
theorem dX8_statement_78 : decode cX8_statement 78 = .ok (.getfield 88, 3) := by decide +kernel
theorem dX8_statement_81 : decode cX8_statement 81 = .ok (.bipush 14, 2) := by decide +kernel
theorem dX8_statement_83 : decode cX8_statement 83 = .ok (.dup2, 1) := by decide +kernel
theorem dX8_statement_84 : decode cX8_statement 84 = .ok (.iaload, 1) := by decide +kernel
theorem dX8_statement_85 : decode cX8_statement 85 = .ok (.iconst 1, 1) := by decide +kernel
theorem dX8_statement_86 : decode cX8_statement 86 = .ok (.iadd, 1) := by decide +kernel
theorem dX8_statement_87 : decode cX8_statement 87 = .ok (.iastore, 1) := by decide +kernel
theorem dX8_statement_88 : decode cX8_statement 88 = .ok (.goto 89, 3) := by decide +kernel
theorem dX8_statement_91 : decode cX8_statement 91 = .ok (.aload_n 0, 1) := by decide +kernel
theorem dX8_statement_92 : decode cX8_statement 92 = .ok (.ldc2_w 182, 3) := by decide +kernel
theorem dX8_statement_95 : decode cX8_statement 95 = .ok (.invokevirtual 174, 3) := by decide +kernel
theorem dX8_statement_98 : decode cX8_statement 98 = .ok (.ifCond .eq 26, 3) := by decide +kernel
theorem dX8_statement_101 : decode cX8_statement 101 = .ok (.aload_n 0, 1) := by decide +kernel
theorem dX8_statement_102 : decode cX8_statement 102 = .ok (.invokevirtual 184, 3) := by decide +kernel
theorem dX8_statement_105 : decode cX8_statement 105 = .ok (.ifCond .ne 5, 3) := by decide +kernel
theorem dX8_statement_108 : decode cX8_statement 108 = .ok (.iconst 0, 1) := by decide +kernel
theorem dX8_statement_109 : decode cX8_statement 109 = .ok (.ireturn, 1) := by decide +kernel
theorem dX8_statement_110 : decode cX8_statement 110 = .ok (.aload_n 0, 1) := by decide +kernel
theorem dX8_statement_111 : decode cX8_statement 111 = .ok (.getfield 88, 3) := by decide +kernel
theorem dX8_statement_114 : decode cX8_statement 114 = .ok (.bipush 25, 2) := by decide +kernel
theorem dX8_statement_116 : decode cX8_statement 116 = .ok (.aload_n 0, 1) := by decide +kernel
theorem dX8_statement_117 : decode cX8_statement 117 = .ok (.getfield 169, 3) := by decide +kernel
theorem dX8_statement_120 : decode cX8_statement 120 = .ok (.iastore, 1) := by decide +kernel
theorem dX8_statement_121 : decode cX8_statement 121 = .ok (.goto 56, 3) := by decide +kernel
theorem dX8_statement_124 : decode cX8_statement 124 = .ok (.aload_n 0, 1) := by decide +kernel
theorem dX8_statement_125 : decode cX8_statement 125 = .ok (.ldc2_w 188, 3) := by decide +kernel
theorem dX8_statement_128 : decode cX8_statement 128 = .ok (.invokevirtual 174, 3) := by decide +kernel
theorem dX8_statement_131 : decode cX8_statement 131 = .ok (.ifCond .eq 26, 3) := by decide +kernel
theorem dX8_statement_134 : decode cX8_statement 134 = .ok (.aload_n 0, 1) := by decide +kernel
theorem dX8_statement_135 : decode cX8_statement 135 = .ok (.invokevirtual 184, 3) := by decide +kernel
theorem dX8_statement_138 : decode cX8_statement 138 = .ok (.ifCond .ne 5, 3) := by decide +kernel
theorem dX8_statement_141 : decode cX8_statement 141 = .ok (.iconst 0, 1) := by decide +kernel
theorem dX8_statement_142 : decode cX8_statement 142 = .ok (.ireturn, 1) := by decide +kernel
theorem dX8_statement_143 : decode cX8_statement 143 = .ok (.aload_n 0, 1) := by decide +kernel
theorem dX8_statement_144 : decode cX8_statement 144 = .ok (.getfield 88, 3) := by decide +kernel
theorem dX8_statement_147 : decode cX8_statement 147 = .ok (.bipush 26, 2) := by decide +kernel
theorem dX8_statement_149 : decode cX8_statement 149 = .ok (.aload_n 0, 1) := by decide +kernel
theorem dX8_statement_150 : decode cX8_statement 150 = .ok (.getfield 169, 3) := by decide +kernel
theorem dX8_statement_153 : decode cX8_statement 153 = .ok (.iastore, 1) := by decide +kernel
theorem dX8_statement_154 : decode cX8_statement 154 = .ok (.goto 23, 3) := by decide +kernel
theorem dX8_statement_157 : decode cX8_statement 157 = .ok (.aload_n 0, 1) := by decide +kernel
theorem dX8_statement_158 : decode cX8_statement 158 = .ok (.ldc2_w 190, 3) := by decide +kernel
theorem dX8_statement_161 : decode cX8_statement 161 = .ok (.invokevirtual 174, 3) := by decide +kernel
theorem dX8_statement_164 : decode cX8_statement 164 = .ok (.ifCond .ne 5, 3) := by decide +kernel
theorem dX8_statement_167 : decode cX8_statement 167 = .ok (.iconst 0, 1) := by decide +kernel
theorem dX8_statement_168 : decode cX8_statement 168 = .ok (.ireturn, 1) := by decide +kernel
theorem dX8_statement_169 : decode cX8_statement 169 = .ok (.aload_n 0, 1) := by decide +kernel
theorem dX8_statement_170 : decode cX8_statement 170 = .ok (.getfield 88, 3) := by decide +kernel
theorem dX8_statement_173 : decode cX8_statement 173 = .ok (.bipush 27, 2) := by decide +kernel
theorem dX8_statement_175 : decode cX8_statement 175 = .ok (.iconst 1, 1) := by decide +kernel
theorem dX8_statement_176 : decode cX8_statement 176 = .ok (.iastore, 1) := by decide +kernel
theorem dX8_statement_177 : decode cX8_statement 177 = .ok (.aload_n 0, 1) := by decide +kernel
theorem dX8_statement_178 : decode cX8_statement 178 = .ok (.invokevirtual 159, 3) := by decide +kernel
theorem dX8_statement_181 : decode cX8_statement 181 = .ok (.aload_n 0, 1) := by decide +kernel
theorem dX8_statement_182 : decode cX8_statement 182 = .ok (.getfield 153, 3) := by decide +kernel
theorem dX8_statement_185 : decode cX8_statement 185 = .ok (.aload_n 0, 1) := by decide +kernel
theorem dX8_statement_186 : decode cX8_statement 186 = .ok (.getfield 156, 3) := by decide +kernel
theorem dX8_statement_189 : decode cX8_statement 189 = .ok (.if_icmp .eq 17, 3) := by decide +kernel
theorem dX8_statement_192 : decode cX8_statement 192 = .ok (.aload_n 0, 1) := by decide +kernel
theorem dX8_statement_193 : decode cX8_statement 193 = .ok (.getfield 82, 3) := by decide +kernel
theorem dX8_statement_196 : decode cX8_statement 196 = .ok (.aload_n 0, 1) := by decide +kernel
theorem dX8_statement_197 : decode cX8_statement 197 = .ok (.getfield 153, 3) := by decide +kernel
theorem dX8_statement_200 : decode cX8_statement 200 = .ok (.baload, 1) := by decide +kernel
theorem dX8_statement_201 : decode cX8_statement 201 = .ok (.bipush 59, 2) := by decide +kernel
theorem dX8_statement_203 : decode cX8_statement 203 = .ok (.if_icmp .eq 5, 3) := by decide +kernel
theorem dX8_statement_206 : decode cX8_statement 206 = .ok (.iconst 0, 1) := by decide +kernel
theorem dX8_statement_207 : decode cX8_statement 207 = .ok (.ireturn, 1) := by decide +kernel
theorem dX8_statement_208 : decode cX8_statement 208 = .ok (.aload_n 0, 1) := by decide +kernel
theorem dX8_statement_209 : decode cX8_statement 209 = .ok (.dup, 1) := by decide +kernel
theorem dX8_statement_210 : decode cX8_statement 210 = .ok (.getfield 153, 3) := by decide +kernel
theorem dX8_statement_213 : decode cX8_statement 213 = .ok (.iconst 1, 1) := by decide +kernel
theorem dX8_statement_214 : decode cX8_statement 214 = .ok (.iadd, 1) := by decide +kernel
theorem dX8_statement_215 : decode cX8_statement 215 = .ok (.putfield 153, 3) := by decide +kernel
theorem dX8_statement_218 : decode cX8_statement 218 = .ok (.iconst 1, 1) := by decide +kernel
theorem dX8_statement_219 : decode cX8_statement 219 = .ok (.ireturn, 1) := by decide +kernel
theorem dX8_custom__0 : decode cX8_custom_ 0 = .ok (.iload_n 1, 1) := by decide +kernel
theorem dX8_custom__1 : decode cX8_custom_ 1 = .ok (.iconst 0, 1) := by decide +kernel
theorem dX8_custom__2 : decode cX8_custom_ 2 = .ok (.aload_n 0, 1) := by decide +kernel
theorem dX8_custom__3 : decode cX8_custom_ 3 = .ok (.getfield 146, 3) := by decide +kernel
theorem dX8_custom__6 : decode cX8_custom_ 6 = .ok (.invokestatic 121, 3) := by decide +kernel
theorem dX8_custom__9 : decode cX8_custom_ 9 = .ok (.ifCond .ne 6, 3) := by decide +kernel
theorem dX8_custom__12 : decode cX8_custom_ 12 = .ok (.bipush (-2), 2) := by decide +kernel
theorem dX8_custom__14 : decode cX8_custom_ 14 = .ok (.ireturn, 1) := by decide +kernel
theorem dX8_custom__15 : decode cX8_custom_ 15 = .ok (.iconst 0, 1) := by decide +kernel
theorem dX8_custom__16 : decode cX8_custom_ 16 = .ok (.istore_n 2, 1) := by decide +kernel
theorem dX8_custom__17 : decode cX8_custom_ 17 = .ok (.iload_n 2, 1) := by decide +kernel
theorem dX8_custom__18 : decode cX8_custom_ 18 = .ok (.iload_n 1, 1) := by decide +kernel
theorem dX8_custom__19 : decode cX8_custom_ 19 = .ok (.if_icmp .ge 21, 3) := by decide +kernel
theorem dX8_custom__22 : decode cX8_custom_ 22 = .ok (.aload_n 0, 1) := by decide +kernel
theorem dX8_custom__23 : decode cX8_custom_ 23 = .ok (.getfield 82, 3) := by decide +kernel
theorem dX8_custom__26 : decode cX8_custom_ 26 = .ok (.iload_n 2, 1) := by decide +kernel
theorem dX8_custom__27 : decode cX8_custom_ 27 = .ok (.aload_n 0, 1) := by decide +kernel
theorem dX8_custom__28 : decode cX8_custom_ 28 = .ok (.getfield 78, 3) := by decide +kernel
theorem dX8_custom__31 : decode cX8_custom_ 31 = .ok (.iload_n 2, 1) := by decide +kernel
theorem dX8_custom__32 : decode cX8_custom_ 32 = .ok (.baload, 1) := by decide +kernel
theorem dX8_custom__33 : decode cX8_custom_ 33 = .ok (.bastore, 1) := by decide +kernel
theorem dX8_custom__34 : decode cX8_custom_ 34 = .ok (.iinc 2 1, 3) := by decide +kernel
theorem dX8_custom__37 : decode cX8_custom_ 37 = .ok (.goto (-20), 3) := by decide +kernel
theorem dX8_custom__40 : decode cX8_custom_ 40 = .ok (.aload_n 0, 1) := by decide +kernel
theorem dX8_custom__41 : decode cX8_custom_ 41 = .ok (.iload_n 1, 1) := by decide +kernel
theorem dX8_custom__42 : decode cX8_custom_ 42 = .ok (.putfield 156, 3) := by decide +kernel
theorem dX8_custom__45 : decode cX8_custom_ 45 = .ok (.aload_n 0, 1) := by decide +kernel
theorem dX8_custom__46 : decode cX8_custom_ 46 = .ok (.iconst 0, 1) := by decide +kernel
theorem dX8_custom__47 : decode cX8_custom_ 47 = .ok (.putfield 146, 3) := by decide +kernel
theorem dX8_custom__50 : decode cX8_custom_ 50 = .ok (.aload_n 0, 1) := by decide +kernel
theorem dX8_custom__51 : decode cX8_custom_ 51 = .ok (.iconst 0, 1) := by decide +kernel
theorem dX8_custom__52 : decode cX8_custom_ 52 = .ok (.putfield 153, 3) := by decide +kernel
theorem dX8_custom__55 : decode cX8_custom_ 55 = .ok (.iconst 0, 1) := by decide +kernel
theorem dX8_custom__56 : decode cX8_custom_ 56 = .ok (.istore_n 2, 1) := by decide +kernel
theorem dX8_custom__57 : decode cX8_custom_ 57 = .ok (.iload_n 2, 1) := by decide +kernel
theorem dX8_custom__58 : decode cX8_custom_ 58 = .ok (.bipush 14, 2) := by decide +kernel
theorem dX8_custom__60 : decode cX8_custom_ 60 = .ok (.if_icmp .ge 30, 3) := by decide +kernel
theorem dX8_custom__63 : decode cX8_custom_ 63 = .ok (.aload_n 0, 1) := by decide +kernel
theorem dX8_custom__64 : decode cX8_custom_ 64 = .ok (.getfield 88, 3) := by decide +kernel
theorem dX8_custom__67 : decode cX8_custom_ 67 = .ok (.bipush 14, 2) := by decide +kernel
theorem dX8_custom__69 : decode cX8_custom_ 69 = .ok (.iload_n 2, 1) := by decide +kernel
theorem dX8_custom__70 : decode cX8_custom_ 70 = .ok (.iadd, 1) := by decide +kernel
theorem dX8_custom__71 : decode cX8_custom_ 71 = .ok (.iload_n 2, 1) := by decide +kernel
theorem dX8_custom__72 : decode cX8_custom_ 72 = .ok (.bipush 11, 2) := by decide +kernel
theorem dX8_custom__74 : decode cX8_custom_ 74 = .ok (.if_icmp .ne 8, 3) := by decide +kernel
theorem dX8_custom__77 : decode cX8_custom_ 77 = .ok (.bipush 9, 2) := by decide +kernel
theorem dX8_custom__79 : decode cX8_custom_ 79 = .ok (.goto 4, 3) := by decide +kernel
theorem dX8_custom__82 : decode cX8_custom_ 82 = .ok (.iconst 0, 1) := by decide +kernel
theorem dX8_custom__83 : decode cX8_custom_ 83 = .ok (.iastore, 1) := by decide +kernel
theorem dX8_custom__84 : decode cX8_custom_ 84 = .ok (.iinc 2 1, 3) := by decide +kernel
theorem dX8_custom__87 : decode cX8_custom_ 87 = .ok (.goto (-30), 3) := by decide +kernel
theorem dX8_custom__90 : decode cX8_custom_ 90 = .ok (.iconst 0, 1) := by decide +kernel
theorem dX8_custom__91 : decode cX8_custom_ 91 = .ok (.istore_n 2, 1) := by decide +kernel
theorem dX8_custom__92 : decode cX8_custom_ 92 = .ok (.iconst 1, 1) := by decide +kernel
theorem dX8_custom__93 : decode cX8_custom_ 93 = .ok (.istore_n 3, 1) := by decide +kernel
theorem dX8_custom__94 : decode cX8_custom_ 94 = .ok (.aload_n 0, 1) := by decide +kernel
theorem dX8_custom__95 : decode cX8_custom_ 95 = .ok (.invokevirtual 159, 3) := by decide +kernel
theorem dX8_custom__98 : decode cX8_custom_ 98 = .ok (.iload_n 3, 1) := by decide +kernel
theorem dX8_custom__99 : decode cX8_custom_ 99 = .ok (.ifCond .eq 47, 3) := by decide +kernel
theorem dX8_custom__102 : decode cX8_custom_ 102 = .ok (.aload_n 0, 1) := by decide +kernel
theorem dX8_custom__103 : decode cX8_custom_ 103 = .ok (.getfield 153, 3) := by decide +kernel
theorem dX8_custom__106 : decode cX8_custom_ 106 = .ok (.aload_n 0, 1) := by decide +kernel
theorem dX8_custom__107 : decode cX8_custom_ 107 = .ok (.getfield 156, 3) := by decide +kernel
theorem dX8_custom__110 : decode cX8_custom_ 110 = .ok (.if_icmp .ge 36, 3) := by decide +kernel
theorem dX8_custom__113 : decode cX8_custom_ 113 = .ok (.iload_n 2, 1) := by decide +kernel
theorem dX8_custom__114 : decode cX8_custom_ 114 = .ok (.bipush 10, 2) := by decide +kernel
theorem dX8_custom__116 : decode cX8_custom_ 116 = .ok (.if_icmp .ge 14, 3) := by decide +kernel
theorem dX8_custom__119 : decode cX8_custom_ 119 = .ok (.aload_n 0, 1) := by decide +kernel
theorem dX8_custom__120 : decode cX8_custom_ 120 = .ok (.invokevirtual 192, 3) := by decide +kernel
theorem dX8_custom__123 : decode cX8_custom_ 123 = .ok (.ifCond .eq 7, 3) := by decide +kernel
theorem dX8_custom__126 : decode cX8_custom_ 126 = .ok (.iconst 1, 1) := by decide +kernel
theorem dX8_custom__127 : decode cX8_custom_ 127 = .ok (.goto 4, 3) := by decide +kernel
theorem dX8_custom__130 : decode cX8_custom_ 130 = .ok (.iconst 0, 1) := by decide +kernel
theorem dX8_custom__131 : decode cX8_custom_ 131 = .ok (.istore_n 3, 1) := by decide +kernel
theorem dX8_custom__132 : decode cX8_custom_ 132 = .ok (.iinc 2 1, 3) := by decide +kernel
theorem dX8_custom__135 : decode cX8_custom_ 135 = .ok (.iload_n 3, 1) := by decide +kernel
theorem dX8_custom__136 : decode cX8_custom_ 136 = .ok (.ifCond .eq (-38), 3) := by decide +kernel
theorem dX8_custom__139 : decode cX8_custom_ 139 = .ok (.aload_n 0, 1) := by decide +kernel
theorem dX8_custom__140 : decode cX8_custom_ 140 = .ok (.invokevirtual 159, 3) := by decide +kernel
theorem dX8_custom__143 : decode cX8_custom_ 143 = .ok (.goto (-45), 3) := by decide +kernel
theorem dX8_custom__146 : decode cX8_custom_ 146 = .ok (.aload_n 0, 1) := by decide +kernel
theorem dX8_custom__147 : decode cX8_custom_ 147 = .ok (.iload_n 3, 1) := by decide +kernel
theorem dX8_custom__148 : decode cX8_custom_ 148 = .ok (.ifCond .eq 7, 3) := by decide +kernel
theorem dX8_custom__151 : decode cX8_custom_ 151 = .ok (.iconst (-1), 1) := by decide +kernel
theorem dX8_custom__152 : decode cX8_custom_ 152 = .ok (.goto 7, 3) := by decide +kernel
theorem dX8_custom__155 : decode cX8_custom_ 155 = .ok (.aload_n 0, 1) := by decide +kernel
theorem dX8_custom__156 : decode cX8_custom_ 156 = .ok (.getfield 153, 3) := by decide +kernel
theorem dX8_custom__159 : decode cX8_custom_ 159 = .ok (.putfield 85, 3) := by decide +kernel
theorem dX8_custom__162 : decode cX8_custom_ 162 = .ok (.iload_n 3, 1) := by decide +kernel
theorem dX8_custom__163 : decode cX8_custom_ 163 = .ok (.ifCond .ne 5, 3) := by decide +kernel
theorem dX8_custom__166 : decode cX8_custom_ 166 = .ok (.iconst (-1), 1) := by decide +kernel
theorem dX8_custom__167 : decode cX8_custom_ 167 = .ok (.ireturn, 1) := by decide +kernel
theorem dX8_custom__168 : decode cX8_custom_ 168 = .ok (.iconst 0, 1) := by decide +kernel
theorem dX8_custom__169 : decode cX8_custom_ 169 = .ok (.istore 4, 2) := by decide +kernel
theorem dX8_custom__171 : decode cX8_custom_ 171 = .ok (.iload 4, 2) := by decide +kernel
theorem dX8_custom__173 : decode cX8_custom_ 173 = .ok (.bipush 14, 2) := by decide +kernel
theorem dX8_custom__175 : decode cX8_custom_ 175 = .ok (.if_icmp .ge 26, 3) := by decide +kernel
theorem dX8_custom__178 : decode cX8_custom_ 178 = .ok (.aload_n 0, 1) := by decide +kernel
theorem dX8_custom__179 : decode cX8_custom_ 179 = .ok (.getfield 88, 3) := by decide +kernel
theorem dX8_custom__182 : decode cX8_custom_ 182 = .ok (.iload 4, 2) := by decide +kernel
theorem dX8_custom__184 : decode cX8_custom_ 184 = .ok (.aload_n 0, 1) := by decide +kernel
theorem dX8_custom__185 : decode cX8_custom_ 185 = .ok (.getfield 88, 3) := by decide +kernel
theorem dX8_custom__188 : decode cX8_custom_ 188 = .ok (.bipush 14, 2) := by decide +kernel
theorem dX8_custom__190 : decode cX8_custom_ 190 = .ok (.iload 4, 2) := by decide +kernel
theorem dX8_custom__192 : decode cX8_custom_ 192 = .ok (.iadd, 1) := by decide +kernel
theorem dX8_custom__193 : decode cX8_custom_ 193 = .ok (.iaload, 1) := by decide +kernel
theorem dX8_custom__194 : decode cX8_custom_ 194 = .ok (.iastore, 1) := by decide +kernel
theorem dX8_custom__195 : decode cX8_custom_ 195 = .ok (.iinc 4 1, 3) := by decide +kernel
theorem dX8_custom__198 : decode cX8_custom_ 198 = .ok (.goto (-27), 3) := by decide +kernel
theorem dX8_custom__201 : decode cX8_custom_ 201 = .ok (.aload_n 0, 1) := by decide +kernel
theorem dX8_custom__202 : decode cX8_custom_ 202 = .ok (.iconst 1, 1) := by decide +kernel
theorem dX8_custom__203 : decode cX8_custom_ 203 = .ok (.putfield 142, 3) := by decide +kernel
theorem dX8_custom__206 : decode cX8_custom_ 206 = .ok (.iload_n 2, 1) := by decide +kernel
theorem dX8_custom__207 : decode cX8_custom_ 207 = .ok (.ireturn, 1) := by decide +kernel
theorem dX8_fault_0 : decode cX8_fault 0 = .ok (.aload_n 0, 1) := by decide +kernel
theorem dX8_fault_1 : decode cX8_fault 1 = .ok (.getfield 85, 3) := by decide +kernel
theorem dX8_fault_4 : decode cX8_fault 4 = .ok (.ireturn, 1) := by decide +kernel
theorem dX8_isAhead_0 : decode cX8_isAhead 0 = .ok (.iconst 1, 1) := by decide +kernel
theorem dX8_isAhead_1 : decode cX8_isAhead 1 = .ok (.istore_n 3, 1) := by decide +kernel
theorem dX8_isAhead_2 : decode cX8_isAhead 2 = .ok (.iload_n 3, 1) := by decide +kernel
theorem dX8_isAhead_3 : decode cX8_isAhead 3 = .ok (.aload_n 0, 1) := by decide +kernel
theorem dX8_isAhead_4 : decode cX8_isAhead 4 = .ok (.iconst 0, 1) := by decide +kernel
theorem dX8_isAhead_5 : decode cX8_isAhead 5 = .ok (.iconst 0, 1) := by decide +kernel
theorem dX8_isAhead_6 : decode cX8_isAhead 6 = .ok (.invokevirtual 195, 3) := by decide +kernel
theorem dX8_isAhead_9 : decode cX8_isAhead 9 = .ok (.if_icmp .gt 97, 3) := by decide +kernel
theorem dX8_isAhead_12 : decode cX8_isAhead 12 = .ok (.aload_n 0, 1) := by decide +kernel
theorem dX8_isAhead_13 : decode cX8_isAhead 13 = .ok (.getfield 88, 3) := by decide +kernel
theorem dX8_isAhead_16 : decode cX8_isAhead 16 = .ok (.iload_n 3, 1) := by decide +kernel
theorem dX8_isAhead_17 : decode cX8_isAhead 17 = .ok (.iaload, 1) := by decide +kernel
theorem dX8_isAhead_18 : decode cX8_isAhead 18 = .ok (.ifCond .ne 25, 3) := by decide +kernel
theorem dX8_isAhead_21 : decode cX8_isAhead 21 = .ok (.aload_n 0, 1) := by decide +kernel
theorem dX8_isAhead_22 : decode cX8_isAhead 22 = .ok (.getfield 62, 3) := by decide +kernel
theorem dX8_isAhead_25 : decode cX8_isAhead 25 = .ok (.iload_n 1, 1) := by decide +kernel
theorem dX8_isAhead_26 : decode cX8_isAhead 26 = .ok (.baload, 1) := by decide +kernel
theorem dX8_isAhead_27 : decode cX8_isAhead 27 = .ok (.invokestatic 198, 3) := by decide +kernel
theorem dX8_isAhead_30 : decode cX8_isAhead 30 = .ok (.aload_n 0, 1) := by decide +kernel
theorem dX8_isAhead_31 : decode cX8_isAhead 31 = .ok (.getfield 62, 3) := by decide +kernel
theorem dX8_isAhead_34 : decode cX8_isAhead 34 = .ok (.iload_n 2, 1) := by decide +kernel
theorem dX8_isAhead_35 : decode cX8_isAhead 35 = .ok (.baload, 1) := by decide +kernel
theorem dX8_isAhead_36 : decode cX8_isAhead 36 = .ok (.invokestatic 198, 3) := by decide +kernel
theorem dX8_isAhead_39 : decode cX8_isAhead 39 = .ok (.isub, 1) := by decide +kernel
theorem dX8_isAhead_40 : decode cX8_isAhead 40 = .ok (.goto 42, 3) := by decide +kernel
theorem dX8_isAhead_43 : decode cX8_isAhead 43 = .ok (.aload_n 0, 1) := by decide +kernel
theorem dX8_isAhead_44 : decode cX8_isAhead 44 = .ok (.getfield 88, 3) := by decide +kernel
theorem dX8_isAhead_47 : decode cX8_isAhead 47 = .ok (.iload_n 3, 1) := by decide +kernel
theorem dX8_isAhead_48 : decode cX8_isAhead 48 = .ok (.iaload, 1) := by decide +kernel
theorem dX8_isAhead_49 : decode cX8_isAhead 49 = .ok (.iconst 1, 1) := by decide +kernel
theorem dX8_isAhead_50 : decode cX8_isAhead 50 = .ok (.if_icmp .ne 19, 3) := by decide +kernel
theorem dX8_isAhead_53 : decode cX8_isAhead 53 = .ok (.aload_n 0, 1) := by decide +kernel
theorem dX8_isAhead_54 : decode cX8_isAhead 54 = .ok (.getfield 47, 3) := by decide +kernel
theorem dX8_isAhead_57 : decode cX8_isAhead 57 = .ok (.iload_n 2, 1) := by decide +kernel
theorem dX8_isAhead_58 : decode cX8_isAhead 58 = .ok (.iaload, 1) := by decide +kernel
theorem dX8_isAhead_59 : decode cX8_isAhead 59 = .ok (.aload_n 0, 1) := by decide +kernel
theorem dX8_isAhead_60 : decode cX8_isAhead 60 = .ok (.getfield 47, 3) := by decide +kernel
theorem dX8_isAhead_63 : decode cX8_isAhead 63 = .ok (.iload_n 1, 1) := by decide +kernel
theorem dX8_isAhead_64 : decode cX8_isAhead 64 = .ok (.iaload, 1) := by decide +kernel
theorem dX8_isAhead_65 : decode cX8_isAhead 65 = .ok (.isub, 1) := by decide +kernel
theorem dX8_isAhead_66 : decode cX8_isAhead 66 = .ok (.goto 16, 3) := by decide +kernel
theorem dX8_isAhead_69 : decode cX8_isAhead 69 = .ok (.aload_n 0, 1) := by decide +kernel
theorem dX8_isAhead_70 : decode cX8_isAhead 70 = .ok (.getfield 44, 3) := by decide +kernel
theorem dX8_isAhead_73 : decode cX8_isAhead 73 = .ok (.iload_n 2, 1) := by decide +kernel
theorem dX8_isAhead_74 : decode cX8_isAhead 74 = .ok (.iaload, 1) := by decide +kernel
theorem dX8_isAhead_75 : decode cX8_isAhead 75 = .ok (.aload_n 0, 1) := by decide +kernel
theorem dX8_isAhead_76 : decode cX8_isAhead 76 = .ok (.getfield 44, 3) := by decide +kernel
theorem dX8_isAhead_79 : decode cX8_isAhead 79 = .ok (.iload_n 1, 1) := by decide +kernel
theorem dX8_isAhead_80 : decode cX8_isAhead 80 = .ok (.iaload, 1) := by decide +kernel
theorem dX8_isAhead_81 : decode cX8_isAhead 81 = .ok (.isub, 1) := by decide +kernel
theorem dX8_isAhead_82 : decode cX8_isAhead 82 = .ok (.istore 4, 2) := by decide +kernel
theorem dX8_isAhead_84 : decode cX8_isAhead 84 = .ok (.iload 4, 2) := by decide +kernel
theorem dX8_isAhead_86 : decode cX8_isAhead 86 = .ok (.ifCond .eq 14, 3) := by decide +kernel
theorem dX8_isAhead_89 : decode cX8_isAhead 89 = .ok (.iload 4, 2) := by decide +kernel
theorem dX8_isAhead_91 : decode cX8_isAhead 91 = .ok (.ifCond .le 7, 3) := by decide +kernel
theorem dX8_isAhead_94 : decode cX8_isAhead 94 = .ok (.iconst 1, 1) := by decide +kernel
theorem dX8_isAhead_95 : decode cX8_isAhead 95 = .ok (.goto 4, 3) := by decide +kernel
theorem dX8_isAhead_98 : decode cX8_isAhead 98 = .ok (.iconst 0, 1) := by decide +kernel
theorem dX8_isAhead_99 : decode cX8_isAhead 99 = .ok (.ireturn, 1) := by decide +kernel
theorem dX8_isAhead_100 : decode cX8_isAhead 100 = .ok (.iinc 3 1, 3) := by decide +kernel
theorem dX8_isAhead_103 : decode cX8_isAhead 103 = .ok (.goto (-101), 3) := by decide +kernel
theorem dX8_isAhead_106 : decode cX8_isAhead 106 = .ok (.iload_n 1, 1) := by decide +kernel
theorem dX8_isAhead_107 : decode cX8_isAhead 107 = .ok (.iload_n 2, 1) := by decide +kernel
theorem dX8_isAhead_108 : decode cX8_isAhead 108 = .ok (.if_icmp .ge 7, 3) := by decide +kernel
theorem dX8_isAhead_111 : decode cX8_isAhead 111 = .ok (.iconst 1, 1) := by decide +kernel
theorem dX8_isAhead_112 : decode cX8_isAhead 112 = .ok (.goto 4, 3) := by decide +kernel
theorem dX8_isAhead_115 : decode cX8_isAhead 115 = .ok (.iconst 0, 1) := by decide +kernel
theorem dX8_isAhead_116 : decode cX8_isAhead 116 = .ok (.ireturn, 1) := by decide +kernel
theorem dX8_ordered_0 : decode cX8_ordered 0 = .ok (.iconst 0, 1) := by decide +kernel
theorem dX8_ordered_1 : decode cX8_ordered 1 = .ok (.istore_n 2, 1) := by decide +kernel
theorem dX8_ordered_2 : decode cX8_ordered 2 = .ok (.iconst 0, 1) := by decide +kernel
theorem dX8_ordered_3 : decode cX8_ordered 3 = .ok (.istore_n 3, 1) := by decide +kernel
theorem dX8_ordered_4 : decode cX8_ordered 4 = .ok (.iload_n 3, 1) := by decide +kernel
theorem dX8_ordered_5 : decode cX8_ordered 5 = .ok (.aload_n 0, 1) := by decide +kernel
theorem dX8_ordered_6 : decode cX8_ordered 6 = .ok (.getfield 139, 3) := by decide +kernel
theorem dX8_ordered_9 : decode cX8_ordered 9 = .ok (.if_icmp .ge 80, 3) := by decide +kernel
theorem dX8_ordered_12 : decode cX8_ordered 12 = .ok (.aload_n 0, 1) := by decide +kernel
theorem dX8_ordered_13 : decode cX8_ordered 13 = .ok (.getfield 41, 3) := by decide +kernel
theorem dX8_ordered_16 : decode cX8_ordered 16 = .ok (.iload_n 3, 1) := by decide +kernel
theorem dX8_ordered_17 : decode cX8_ordered 17 = .ok (.iaload, 1) := by decide +kernel
theorem dX8_ordered_18 : decode cX8_ordered 18 = .ok (.iload_n 1, 1) := by decide +kernel
theorem dX8_ordered_19 : decode cX8_ordered 19 = .ok (.if_icmp .eq 6, 3) := by decide +kernel
theorem dX8_ordered_22 : decode cX8_ordered 22 = .ok (.goto 61, 3) := by decide +kernel
theorem dX8_ordered_25 : decode cX8_ordered 25 = .ok (.iload_n 2, 1) := by decide +kernel
theorem dX8_ordered_26 : decode cX8_ordered 26 = .ok (.istore 4, 2) := by decide +kernel
theorem dX8_ordered_28 : decode cX8_ordered 28 = .ok (.iload 4, 2) := by decide +kernel
theorem dX8_ordered_30 : decode cX8_ordered 30 = .ok (.ifCond .le 42, 3) := by decide +kernel
theorem dX8_ordered_33 : decode cX8_ordered 33 = .ok (.aload_n 0, 1) := by decide +kernel
theorem dX8_ordered_34 : decode cX8_ordered 34 = .ok (.iload_n 3, 1) := by decide +kernel
theorem dX8_ordered_35 : decode cX8_ordered 35 = .ok (.aload_n 0, 1) := by decide +kernel
theorem dX8_ordered_36 : decode cX8_ordered 36 = .ok (.getfield 91, 3) := by decide +kernel
theorem dX8_ordered_39 : decode cX8_ordered 39 = .ok (.iload 4, 2) := by decide +kernel
theorem dX8_ordered_41 : decode cX8_ordered 41 = .ok (.iconst 1, 1) := by decide +kernel
theorem dX8_ordered_42 : decode cX8_ordered 42 = .ok (.isub, 1) := by decide +kernel
theorem dX8_ordered_43 : decode cX8_ordered 43 = .ok (.iaload, 1) := by decide +kernel
theorem dX8_ordered_44 : decode cX8_ordered 44 = .ok (.invokevirtual 202, 3) := by decide +kernel
theorem dX8_ordered_47 : decode cX8_ordered 47 = .ok (.ifCond .eq 25, 3) := by decide +kernel
theorem dX8_ordered_50 : decode cX8_ordered 50 = .ok (.aload_n 0, 1) := by decide +kernel
theorem dX8_ordered_51 : decode cX8_ordered 51 = .ok (.getfield 91, 3) := by decide +kernel
theorem dX8_ordered_54 : decode cX8_ordered 54 = .ok (.iload 4, 2) := by decide +kernel
theorem dX8_ordered_56 : decode cX8_ordered 56 = .ok (.aload_n 0, 1) := by decide +kernel
theorem dX8_ordered_57 : decode cX8_ordered 57 = .ok (.getfield 91, 3) := by decide +kernel
theorem dX8_ordered_60 : decode cX8_ordered 60 = .ok (.iload 4, 2) := by decide +kernel
theorem dX8_ordered_62 : decode cX8_ordered 62 = .ok (.iconst 1, 1) := by decide +kernel
theorem dX8_ordered_63 : decode cX8_ordered 63 = .ok (.isub, 1) := by decide +kernel
theorem dX8_ordered_64 : decode cX8_ordered 64 = .ok (.iaload, 1) := by decide +kernel
theorem dX8_ordered_65 : decode cX8_ordered 65 = .ok (.iastore, 1) := by decide +kernel
theorem dX8_ordered_66 : decode cX8_ordered 66 = .ok (.iinc 4 (-1), 3) := by decide +kernel
theorem dX8_ordered_69 : decode cX8_ordered 69 = .ok (.goto (-41), 3) := by decide +kernel
theorem dX8_ordered_72 : decode cX8_ordered 72 = .ok (.aload_n 0, 1) := by decide +kernel
theorem dX8_ordered_73 : decode cX8_ordered 73 = .ok (.getfield 91, 3) := by decide +kernel
theorem dX8_ordered_76 : decode cX8_ordered 76 = .ok (.iload 4, 2) := by decide +kernel
theorem dX8_ordered_78 : decode cX8_ordered 78 = .ok (.iload_n 3, 1) := by decide +kernel
theorem dX8_ordered_79 : decode cX8_ordered 79 = .ok (.iastore, 1) := by decide +kernel
theorem dX8_ordered_80 : decode cX8_ordered 80 = .ok (.iinc 2 1, 3) := by decide +kernel
theorem dX8_ordered_83 : decode cX8_ordered 83 = .ok (.iinc 3 1, 3) := by decide +kernel
theorem dX8_ordered_86 : decode cX8_ordered 86 = .ok (.goto (-82), 3) := by decide +kernel
theorem dX8_ordered_89 : decode cX8_ordered 89 = .ok (.iload_n 2, 1) := by decide +kernel
theorem dX8_ordered_90 : decode cX8_ordered 90 = .ok (.ireturn, 1) := by decide +kernel
theorem dX8_order_0 : decode cX8_order 0 = .ok (.aload_n 0, 1) := by decide +kernel
theorem dX8_order_1 : decode cX8_order 1 = .ok (.iload_n 1, 1) := by decide +kernel
theorem dX8_order_2 : decode cX8_order 2 = .ok (.invokevirtual 125, 3) := by decide +kernel
theorem dX8_order_5 : decode cX8_order 5 = .ok (.ifCond .ne 5, 3) := by decide +kernel
theorem dX8_order_8 : decode cX8_order 8 = .ok (.iconst (-1), 1) := by decide +kernel
theorem dX8_order_9 : decode cX8_order 9 = .ok (.ireturn, 1) := by decide +kernel
theorem dX8_order_10 : decode cX8_order 10 = .ok (.aload_n 0, 1) := by decide +kernel
theorem dX8_order_11 : decode cX8_order 11 = .ok (.iload_n 1, 1) := by decide +kernel
theorem dX8_order_12 : decode cX8_order 12 = .ok (.invokevirtual 206, 3) := by decide +kernel
theorem dX8_order_15 : decode cX8_order 15 = .ok (.istore_n 3, 1) := by decide +kernel
theorem dX8_order_16 : decode cX8_order 16 = .ok (.iload_n 2, 1) := by decide +kernel
theorem dX8_order_17 : decode cX8_order 17 = .ok (.iconst 0, 1) := by decide +kernel
theorem dX8_order_18 : decode cX8_order 18 = .ok (.iload_n 3, 1) := by decide +kernel
theorem dX8_order_19 : decode cX8_order 19 = .ok (.iconst 1, 1) := by decide +kernel
theorem dX8_order_20 : decode cX8_order 20 = .ok (.isub, 1) := by decide +kernel
theorem dX8_order_21 : decode cX8_order 21 = .ok (.invokestatic 121, 3) := by decide +kernel
theorem dX8_order_24 : decode cX8_order 24 = .ok (.ifCond .eq 12, 3) := by decide +kernel
theorem dX8_order_27 : decode cX8_order 27 = .ok (.aload_n 0, 1) := by decide +kernel
theorem dX8_order_28 : decode cX8_order 28 = .ok (.getfield 91, 3) := by decide +kernel
theorem dX8_order_31 : decode cX8_order 31 = .ok (.iload_n 2, 1) := by decide +kernel
theorem dX8_order_32 : decode cX8_order 32 = .ok (.iaload, 1) := by decide +kernel
theorem dX8_order_33 : decode cX8_order 33 = .ok (.goto 4, 3) := by decide +kernel
theorem dX8_order_36 : decode cX8_order 36 = .ok (.iconst (-1), 1) := by decide +kernel
theorem dX8_order_37 : decode cX8_order 37 = .ok (.ireturn, 1) := by decide +kernel
theorem dX8_isBad_0 : decode cX8_isBad 0 = .ok (.iload_n 2, 1) := by decide +kernel
theorem dX8_isBad_1 : decode cX8_isBad 1 = .ok (.aload_n 0, 1) := by decide +kernel
theorem dX8_isBad_2 : decode cX8_isBad 2 = .ok (.getfield 13, 3) := by decide +kernel
theorem dX8_isBad_5 : decode cX8_isBad 5 = .ok (.iload_n 1, 1) := by decide +kernel
theorem dX8_isBad_6 : decode cX8_isBad 6 = .ok (.iaload, 1) := by decide +kernel
theorem dX8_isBad_7 : decode cX8_isBad 7 = .ok (.iconst 2, 1) := by decide +kernel
theorem dX8_isBad_8 : decode cX8_isBad 8 = .ok (.idiv, 1) := by decide +kernel
theorem dX8_isBad_9 : decode cX8_isBad 9 = .ok (.if_icmp .ge 7, 3) := by decide +kernel
theorem dX8_isBad_12 : decode cX8_isBad 12 = .ok (.iconst 1, 1) := by decide +kernel
theorem dX8_isBad_13 : decode cX8_isBad 13 = .ok (.goto 4, 3) := by decide +kernel
theorem dX8_isBad_16 : decode cX8_isBad 16 = .ok (.iconst 0, 1) := by decide +kernel
theorem dX8_isBad_17 : decode cX8_isBad 17 = .ok (.ireturn, 1) := by decide +kernel
theorem dX8_gives_0 : decode cX8_gives 0 = .ok (.iload_n 3, 1) := by decide +kernel
theorem dX8_gives_1 : decode cX8_gives 1 = .ok (.iconst 0, 1) := by decide +kernel
theorem dX8_gives_2 : decode cX8_gives 2 = .ok (.iload_n 2, 1) := by decide +kernel
theorem dX8_gives_3 : decode cX8_gives 3 = .ok (.aload_n 0, 1) := by decide +kernel
theorem dX8_gives_4 : decode cX8_gives 4 = .ok (.bipush 12, 2) := by decide +kernel
theorem dX8_gives_6 : decode cX8_gives 6 = .ok (.iconst 0, 1) := by decide +kernel
theorem dX8_gives_7 : decode cX8_gives 7 = .ok (.invokevirtual 195, 3) := by decide +kernel
theorem dX8_gives_10 : decode cX8_gives 10 = .ok (.aload_n 0, 1) := by decide +kernel
theorem dX8_gives_11 : decode cX8_gives 11 = .ok (.getfield 13, 3) := by decide +kernel
theorem dX8_gives_14 : decode cX8_gives 14 = .ok (.iload_n 1, 1) := by decide +kernel
theorem dX8_gives_15 : decode cX8_gives 15 = .ok (.iaload, 1) := by decide +kernel
theorem dX8_gives_16 : decode cX8_gives 16 = .ok (.imul, 1) := by decide +kernel
theorem dX8_gives_17 : decode cX8_gives 17 = .ok (.bipush 100, 2) := by decide +kernel
theorem dX8_gives_19 : decode cX8_gives 19 = .ok (.idiv, 1) := by decide +kernel
theorem dX8_gives_20 : decode cX8_gives 20 = .ok (.isub, 1) := by decide +kernel
theorem dX8_gives_21 : decode cX8_gives 21 = .ok (.invokestatic 115, 3) := by decide +kernel
theorem dX8_gives_24 : decode cX8_gives 24 = .ok (.invokestatic 109, 3) := by decide +kernel
theorem dX8_gives_27 : decode cX8_gives 27 = .ok (.istore 4, 2) := by decide +kernel
theorem dX8_gives_29 : decode cX8_gives 29 = .ok (.aload_n 0, 1) := by decide +kernel
theorem dX8_gives_30 : decode cX8_gives 30 = .ok (.iload_n 1, 1) := by decide +kernel
theorem dX8_gives_31 : decode cX8_gives 31 = .ok (.invokevirtual 206, 3) := by decide +kernel
theorem dX8_gives_34 : decode cX8_gives 34 = .ok (.istore 5, 2) := by decide +kernel
theorem dX8_gives_36 : decode cX8_gives 36 = .ok (.iconst 0, 1) := by decide +kernel
theorem dX8_gives_37 : decode cX8_gives 37 = .ok (.istore 6, 2) := by decide +kernel
theorem dX8_gives_39 : decode cX8_gives 39 = .ok (.iconst 0, 1) := by decide +kernel
theorem dX8_gives_40 : decode cX8_gives 40 = .ok (.istore 7, 2) := by decide +kernel
theorem dX8_gives_42 : decode cX8_gives 42 = .ok (.iload 7, 2) := by decide +kernel
theorem dX8_gives_44 : decode cX8_gives 44 = .ok (.iload 5, 2) := by decide +kernel
theorem dX8_gives_46 : decode cX8_gives 46 = .ok (.if_icmp .ge 87, 3) := by decide +kernel
theorem dX8_gives_49 : decode cX8_gives 49 = .ok (.aload_n 0, 1) := by decide +kernel
theorem dX8_gives_50 : decode cX8_gives 50 = .ok (.getfield 91, 3) := by decide +kernel
theorem dX8_gives_53 : decode cX8_gives 53 = .ok (.iload 7, 2) := by decide +kernel
theorem dX8_gives_55 : decode cX8_gives 55 = .ok (.iaload, 1) := by decide +kernel
theorem dX8_gives_56 : decode cX8_gives 56 = .ok (.istore 8, 2) := by decide +kernel
theorem dX8_gives_58 : decode cX8_gives 58 = .ok (.aload_n 0, 1) := by decide +kernel
theorem dX8_gives_59 : decode cX8_gives 59 = .ok (.getfield 94, 3) := by decide +kernel
theorem dX8_gives_62 : decode cX8_gives 62 = .ok (.iload 8, 2) := by decide +kernel
theorem dX8_gives_64 : decode cX8_gives 64 = .ok (.iconst 0, 1) := by decide +kernel
theorem dX8_gives_65 : decode cX8_gives 65 = .ok (.iastore, 1) := by decide +kernel
theorem dX8_gives_66 : decode cX8_gives 66 = .ok (.aload_n 0, 1) := by decide +kernel
theorem dX8_gives_67 : decode cX8_gives 67 = .ok (.getfield 97, 3) := by decide +kernel
theorem dX8_gives_70 : decode cX8_gives 70 = .ok (.iload 8, 2) := by decide +kernel
theorem dX8_gives_72 : decode cX8_gives 72 = .ok (.aload_n 0, 1) := by decide +kernel
theorem dX8_gives_73 : decode cX8_gives 73 = .ok (.iload_n 1, 1) := by decide +kernel
theorem dX8_gives_74 : decode cX8_gives 74 = .ok (.iload_n 2, 1) := by decide +kernel
theorem dX8_gives_75 : decode cX8_gives 75 = .ok (.invokevirtual 210, 3) := by decide +kernel
theorem dX8_gives_78 : decode cX8_gives 78 = .ok (.ifCond .eq 25, 3) := by decide +kernel
theorem dX8_gives_81 : decode cX8_gives 81 = .ok (.aload_n 0, 1) := by decide +kernel
theorem dX8_gives_82 : decode cX8_gives 82 = .ok (.getfield 44, 3) := by decide +kernel
theorem dX8_gives_85 : decode cX8_gives 85 = .ok (.iload 8, 2) := by decide +kernel
theorem dX8_gives_87 : decode cX8_gives 87 = .ok (.iaload, 1) := by decide +kernel
theorem dX8_gives_88 : decode cX8_gives 88 = .ok (.aload_n 0, 1) := by decide +kernel
theorem dX8_gives_89 : decode cX8_gives 89 = .ok (.bipush 11, 2) := by decide +kernel
theorem dX8_gives_91 : decode cX8_gives 91 = .ok (.bipush 9, 2) := by decide +kernel
theorem dX8_gives_93 : decode cX8_gives 93 = .ok (.invokevirtual 195, 3) := by decide +kernel
theorem dX8_gives_96 : decode cX8_gives 96 = .ok (.if_icmp .le 7, 3) := by decide +kernel
theorem dX8_gives_99 : decode cX8_gives 99 = .ok (.iconst 1, 1) := by decide +kernel
theorem dX8_gives_100 : decode cX8_gives 100 = .ok (.goto 4, 3) := by decide +kernel
theorem dX8_gives_103 : decode cX8_gives 103 = .ok (.iconst 0, 1) := by decide +kernel
theorem dX8_gives_104 : decode cX8_gives 104 = .ok (.bastore, 1) := by decide +kernel
theorem dX8_gives_105 : decode cX8_gives 105 = .ok (.aload_n 0, 1) := by decide +kernel
theorem dX8_gives_106 : decode cX8_gives 106 = .ok (.getfield 97, 3) := by decide +kernel
theorem dX8_gives_109 : decode cX8_gives 109 = .ok (.iload 8, 2) := by decide +kernel
theorem dX8_gives_111 : decode cX8_gives 111 = .ok (.baload, 1) := by decide +kernel
theorem dX8_gives_112 : decode cX8_gives 112 = .ok (.ifCond .ne 15, 3) := by decide +kernel
theorem dX8_gives_115 : decode cX8_gives 115 = .ok (.iload 6, 2) := by decide +kernel
theorem dX8_gives_117 : decode cX8_gives 117 = .ok (.aload_n 0, 1) := by decide +kernel
theorem dX8_gives_118 : decode cX8_gives 118 = .ok (.getfield 47, 3) := by decide +kernel
theorem dX8_gives_121 : decode cX8_gives 121 = .ok (.iload 8, 2) := by decide +kernel
theorem dX8_gives_123 : decode cX8_gives 123 = .ok (.iaload, 1) := by decide +kernel
theorem dX8_gives_124 : decode cX8_gives 124 = .ok (.iadd, 1) := by decide +kernel
theorem dX8_gives_125 : decode cX8_gives 125 = .ok (.istore 6, 2) := by decide +kernel
theorem dX8_gives_127 : decode cX8_gives 127 = .ok (.iinc 7 1, 3) := by decide +kernel
theorem dX8_gives_130 : decode cX8_gives 130 = .ok (.goto (-88), 3) := by decide +kernel
theorem dX8_gives_133 : decode cX8_gives 133 = .ok (.aload_n 0, 1) := by decide +kernel
theorem dX8_gives_134 : decode cX8_gives 134 = .ok (.bipush 13, 2) := by decide +kernel
theorem dX8_gives_136 : decode cX8_gives 136 = .ok (.iconst 0, 1) := by decide +kernel
theorem dX8_gives_137 : decode cX8_gives 137 = .ok (.invokevirtual 195, 3) := by decide +kernel
theorem dX8_gives_140 : decode cX8_gives 140 = .ok (.iconst 1, 1) := by decide +kernel
theorem dX8_gives_141 : decode cX8_gives 141 = .ok (.if_icmp .ne 14, 3) := by decide +kernel
theorem dX8_gives_144 : decode cX8_gives 144 = .ok (.iload 4, 2) := by decide +kernel
theorem dX8_gives_146 : decode cX8_gives 146 = .ok (.iload 6, 2) := by decide +kernel
theorem dX8_gives_148 : decode cX8_gives 148 = .ok (.if_icmp .ge 7, 3) := by decide +kernel
theorem dX8_gives_151 : decode cX8_gives 151 = .ok (.iconst 1, 1) := by decide +kernel
theorem dX8_gives_152 : decode cX8_gives 152 = .ok (.goto 4, 3) := by decide +kernel
theorem dX8_gives_155 : decode cX8_gives 155 = .ok (.iconst 0, 1) := by decide +kernel
theorem dX8_gives_156 : decode cX8_gives 156 = .ok (.istore 7, 2) := by decide +kernel
theorem dX8_gives_158 : decode cX8_gives 158 = .ok (.iload 4, 2) := by decide +kernel
theorem dX8_gives_160 : decode cX8_gives 160 = .ok (.istore 8, 2) := by decide +kernel
theorem dX8_gives_162 : decode cX8_gives 162 = .ok (.iconst 0, 1) := by decide +kernel
theorem dX8_gives_163 : decode cX8_gives 163 = .ok (.istore 9, 2) := by decide +kernel
theorem dX8_gives_165 : decode cX8_gives 165 = .ok (.iload 9, 2) := by decide +kernel
theorem dX8_gives_167 : decode cX8_gives 167 = .ok (.iload 5, 2) := by decide +kernel
theorem dX8_gives_169 : decode cX8_gives 169 = .ok (.if_icmp .ge 94, 3) := by decide +kernel
theorem dX8_gives_172 : decode cX8_gives 172 = .ok (.aload_n 0, 1) := by decide +kernel
theorem dX8_gives_173 : decode cX8_gives 173 = .ok (.getfield 91, 3) := by decide +kernel
theorem dX8_gives_176 : decode cX8_gives 176 = .ok (.iload 9, 2) := by decide +kernel
theorem dX8_gives_178 : decode cX8_gives 178 = .ok (.iaload, 1) := by decide +kernel
theorem dX8_gives_179 : decode cX8_gives 179 = .ok (.istore 10, 2) := by decide +kernel
theorem dX8_gives_181 : decode cX8_gives 181 = .ok (.aload_n 0, 1) := by decide +kernel
theorem dX8_gives_182 : decode cX8_gives 182 = .ok (.getfield 97, 3) := by decide +kernel
theorem dX8_gives_185 : decode cX8_gives 185 = .ok (.iload 10, 2) := by decide +kernel
theorem dX8_gives_187 : decode cX8_gives 187 = .ok (.baload, 1) := by decide +kernel
theorem dX8_gives_188 : decode cX8_gives 188 = .ok (.ifCond .eq 6, 3) := by decide +kernel
theorem dX8_gives_191 : decode cX8_gives 191 = .ok (.goto 66, 3) := by decide +kernel
theorem dX8_gives_194 : decode cX8_gives 194 = .ok (.aload_n 0, 1) := by decide +kernel
theorem dX8_gives_195 : decode cX8_gives 195 = .ok (.getfield 94, 3) := by decide +kernel
theorem dX8_gives_198 : decode cX8_gives 198 = .ok (.iload 10, 2) := by decide +kernel
theorem dX8_gives_200 : decode cX8_gives 200 = .ok (.iload 7, 2) := by decide +kernel
theorem dX8_gives_202 : decode cX8_gives 202 = .ok (.ifCond .eq 19, 3) := by decide +kernel
theorem dX8_gives_205 : decode cX8_gives 205 = .ok (.iload 8, 2) := by decide +kernel
theorem dX8_gives_207 : decode cX8_gives 207 = .ok (.aload_n 0, 1) := by decide +kernel
theorem dX8_gives_208 : decode cX8_gives 208 = .ok (.getfield 47, 3) := by decide +kernel
theorem dX8_gives_211 : decode cX8_gives 211 = .ok (.iload 10, 2) := by decide +kernel
theorem dX8_gives_213 : decode cX8_gives 213 = .ok (.iaload, 1) := by decide +kernel
theorem dX8_gives_214 : decode cX8_gives 214 = .ok (.imul, 1) := by decide +kernel
theorem dX8_gives_215 : decode cX8_gives 215 = .ok (.iload 6, 2) := by decide +kernel
theorem dX8_gives_217 : decode cX8_gives 217 = .ok (.idiv, 1) := by decide +kernel
theorem dX8_gives_218 : decode cX8_gives 218 = .ok (.goto 26, 3) := by decide +kernel
theorem dX8_gives_221 : decode cX8_gives 221 = .ok (.aload_n 0, 1) := by decide +kernel
theorem dX8_gives_222 : decode cX8_gives 222 = .ok (.getfield 47, 3) := by decide +kernel
theorem dX8_gives_225 : decode cX8_gives 225 = .ok (.iload 10, 2) := by decide +kernel
theorem dX8_gives_227 : decode cX8_gives 227 = .ok (.iaload, 1) := by decide +kernel
theorem dX8_gives_228 : decode cX8_gives 228 = .ok (.iload 4, 2) := by decide +kernel
theorem dX8_gives_230 : decode cX8_gives 230 = .ok (.if_icmp .gt 13, 3) := by decide +kernel
theorem dX8_gives_233 : decode cX8_gives 233 = .ok (.aload_n 0, 1) := by decide +kernel
theorem dX8_gives_234 : decode cX8_gives 234 = .ok (.getfield 47, 3) := by decide +kernel
theorem dX8_gives_237 : decode cX8_gives 237 = .ok (.iload 10, 2) := by decide +kernel
theorem dX8_gives_239 : decode cX8_gives 239 = .ok (.iaload, 1) := by decide +kernel
theorem dX8_gives_240 : decode cX8_gives 240 = .ok (.goto 4, 3) := by decide +kernel
theorem dX8_gives_243 : decode cX8_gives 243 = .ok (.iconst 0, 1) := by decide +kernel
theorem dX8_gives_244 : decode cX8_gives 244 = .ok (.iastore, 1) := by decide +kernel
theorem dX8_gives_245 : decode cX8_gives 245 = .ok (.iload 4, 2) := by decide +kernel
theorem dX8_gives_247 : decode cX8_gives 247 = .ok (.aload_n 0, 1) := by decide +kernel
theorem dX8_gives_248 : decode cX8_gives 248 = .ok (.getfield 94, 3) := by decide +kernel
theorem dX8_gives_251 : decode cX8_gives 251 = .ok (.iload 10, 2) := by decide +kernel
theorem dX8_gives_253 : decode cX8_gives 253 = .ok (.iaload, 1) := by decide +kernel
theorem dX8_gives_254 : decode cX8_gives 254 = .ok (.isub, 1) := by decide +kernel
theorem dX8_gives_255 : decode cX8_gives 255 = .ok (.istore 4, 2) := by decide +kernel
theorem dX8_gives_257 : decode cX8_gives 257 = .ok (.iinc 9 1, 3) := by decide +kernel
theorem dX8_gives_260 : decode cX8_gives 260 = .ok (.goto (-95), 3) := by decide +kernel
theorem dX8_gives_263 : decode cX8_gives 263 = .ok (.iload 7, 2) := by decide +kernel
theorem dX8_gives_265 : decode cX8_gives 265 = .ok (.ifCond .eq 116, 3) := by decide +kernel
theorem dX8_gives_268 : decode cX8_gives 268 = .ok (.iload 4, 2) := by decide +kernel
theorem dX8_gives_270 : decode cX8_gives 270 = .ok (.ifCond .le 111, 3) := by decide +kernel
theorem dX8_gives_273 : decode cX8_gives 273 = .ok (.iconst (-1), 1) := by decide +kernel
theorem dX8_gives_274 : decode cX8_gives 274 = .ok (.istore 9, 2) := by decide +kernel
theorem dX8_gives_276 : decode cX8_gives 276 = .ok (.iconst 0, 1) := by decide +kernel
theorem dX8_gives_277 : decode cX8_gives 277 = .ok (.istore 10, 2) := by decide +kernel
theorem dX8_gives_279 : decode cX8_gives 279 = .ok (.iload 10, 2) := by decide +kernel
theorem dX8_gives_281 : decode cX8_gives 281 = .ok (.iload 5, 2) := by decide +kernel
theorem dX8_gives_283 : decode cX8_gives 283 = .ok (.if_icmp .ge 73, 3) := by decide +kernel
theorem dX8_gives_286 : decode cX8_gives 286 = .ok (.aload_n 0, 1) := by decide +kernel
theorem dX8_gives_287 : decode cX8_gives 287 = .ok (.getfield 97, 3) := by decide +kernel
theorem dX8_gives_290 : decode cX8_gives 290 = .ok (.aload_n 0, 1) := by decide +kernel
theorem dX8_gives_291 : decode cX8_gives 291 = .ok (.getfield 91, 3) := by decide +kernel
theorem dX8_gives_294 : decode cX8_gives 294 = .ok (.iload 10, 2) := by decide +kernel
theorem dX8_gives_296 : decode cX8_gives 296 = .ok (.iaload, 1) := by decide +kernel
theorem dX8_gives_297 : decode cX8_gives 297 = .ok (.baload, 1) := by decide +kernel
theorem dX8_gives_298 : decode cX8_gives 298 = .ok (.ifCond .ne 52, 3) := by decide +kernel
theorem dX8_gives_301 : decode cX8_gives 301 = .ok (.iload 9, 2) := by decide +kernel
theorem dX8_gives_303 : decode cX8_gives 303 = .ok (.iconst (-1), 1) := by decide +kernel
theorem dX8_gives_304 : decode cX8_gives 304 = .ok (.if_icmp .eq 37, 3) := by decide +kernel
theorem dX8_gives_307 : decode cX8_gives 307 = .ok (.iload 8, 2) := by decide +kernel
theorem dX8_gives_309 : decode cX8_gives 309 = .ok (.aload_n 0, 1) := by decide +kernel
theorem dX8_gives_310 : decode cX8_gives 310 = .ok (.getfield 47, 3) := by decide +kernel
theorem dX8_gives_313 : decode cX8_gives 313 = .ok (.aload_n 0, 1) := by decide +kernel
theorem dX8_gives_314 : decode cX8_gives 314 = .ok (.getfield 91, 3) := by decide +kernel
theorem dX8_gives_317 : decode cX8_gives 317 = .ok (.iload 10, 2) := by decide +kernel
theorem dX8_gives_319 : decode cX8_gives 319 = .ok (.iaload, 1) := by decide +kernel
theorem dX8_gives_320 : decode cX8_gives 320 = .ok (.iaload, 1) := by decide +kernel
theorem dX8_gives_321 : decode cX8_gives 321 = .ok (.imul, 1) := by decide +kernel
theorem dX8_gives_322 : decode cX8_gives 322 = .ok (.iload 6, 2) := by decide +kernel
theorem dX8_gives_324 : decode cX8_gives 324 = .ok (.irem, 1) := by decide +kernel
theorem dX8_gives_325 : decode cX8_gives 325 = .ok (.iload 8, 2) := by decide +kernel
theorem dX8_gives_327 : decode cX8_gives 327 = .ok (.aload_n 0, 1) := by decide +kernel
theorem dX8_gives_328 : decode cX8_gives 328 = .ok (.getfield 47, 3) := by decide +kernel
theorem dX8_gives_331 : decode cX8_gives 331 = .ok (.iload 9, 2) := by decide +kernel
theorem dX8_gives_333 : decode cX8_gives 333 = .ok (.iaload, 1) := by decide +kernel
theorem dX8_gives_334 : decode cX8_gives 334 = .ok (.imul, 1) := by decide +kernel
theorem dX8_gives_335 : decode cX8_gives 335 = .ok (.iload 6, 2) := by decide +kernel
theorem dX8_gives_337 : decode cX8_gives 337 = .ok (.irem, 1) := by decide +kernel
theorem dX8_gives_338 : decode cX8_gives 338 = .ok (.if_icmp .le 12, 3) := by decide +kernel
theorem dX8_gives_341 : decode cX8_gives 341 = .ok (.aload_n 0, 1) := by decide +kernel
theorem dX8_gives_342 : decode cX8_gives 342 = .ok (.getfield 91, 3) := by decide +kernel
theorem dX8_gives_345 : decode cX8_gives 345 = .ok (.iload 10, 2) := by decide +kernel
theorem dX8_gives_347 : decode cX8_gives 347 = .ok (.iaload, 1) := by decide +kernel
theorem dX8_gives_348 : decode cX8_gives 348 = .ok (.istore 9, 2) := by decide +kernel
theorem dX8_gives_350 : decode cX8_gives 350 = .ok (.iinc 10 1, 3) := by decide +kernel
theorem dX8_gives_353 : decode cX8_gives 353 = .ok (.goto (-74), 3) := by decide +kernel
theorem dX8_gives_356 : decode cX8_gives 356 = .ok (.aload_n 0, 1) := by decide +kernel
theorem dX8_gives_357 : decode cX8_gives 357 = .ok (.getfield 97, 3) := by decide +kernel
theorem dX8_gives_360 : decode cX8_gives 360 = .ok (.iload 9, 2) := by decide +kernel
theorem dX8_gives_362 : decode cX8_gives 362 = .ok (.iconst 1, 1) := by decide +kernel
theorem dX8_gives_363 : decode cX8_gives 363 = .ok (.bastore, 1) := by decide +kernel
theorem dX8_gives_364 : decode cX8_gives 364 = .ok (.aload_n 0, 1) := by decide +kernel
theorem dX8_gives_365 : decode cX8_gives 365 = .ok (.getfield 94, 3) := by decide +kernel
theorem dX8_gives_368 : decode cX8_gives 368 = .ok (.iload 9, 2) := by decide +kernel
theorem dX8_gives_370 : decode cX8_gives 370 = .ok (.dup2, 1) := by decide +kernel
theorem dX8_gives_371 : decode cX8_gives 371 = .ok (.iaload, 1) := by decide +kernel
theorem dX8_gives_372 : decode cX8_gives 372 = .ok (.iconst 1, 1) := by decide +kernel
theorem dX8_gives_373 : decode cX8_gives 373 = .ok (.iadd, 1) := by decide +kernel
theorem dX8_gives_374 : decode cX8_gives 374 = .ok (.iastore, 1) := by decide +kernel
theorem dX8_gives_375 : decode cX8_gives 375 = .ok (.iinc 4 (-1), 3) := by decide +kernel
theorem dX8_gives_378 : decode cX8_gives 378 = .ok (.goto (-115), 3) := by decide +kernel
theorem dX8_gives_381 : decode cX8_gives 381 = .ok (.iconst 0, 1) := by decide +kernel
theorem dX8_gives_382 : decode cX8_gives 382 = .ok (.istore 9, 2) := by decide +kernel
theorem dX8_gives_384 : decode cX8_gives 384 = .ok (.iconst 0, 1) := by decide +kernel
theorem dX8_gives_385 : decode cX8_gives 385 = .ok (.istore 10, 2) := by decide +kernel
theorem dX8_gives_387 : decode cX8_gives 387 = .ok (.iload 10, 2) := by decide +kernel
theorem dX8_gives_389 : decode cX8_gives 389 = .ok (.iload 5, 2) := by decide +kernel
theorem dX8_gives_391 : decode cX8_gives 391 = .ok (.if_icmp .ge 26, 3) := by decide +kernel
theorem dX8_gives_394 : decode cX8_gives 394 = .ok (.iload 9, 2) := by decide +kernel
theorem dX8_gives_396 : decode cX8_gives 396 = .ok (.aload_n 0, 1) := by decide +kernel
theorem dX8_gives_397 : decode cX8_gives 397 = .ok (.getfield 94, 3) := by decide +kernel
theorem dX8_gives_400 : decode cX8_gives 400 = .ok (.aload_n 0, 1) := by decide +kernel
theorem dX8_gives_401 : decode cX8_gives 401 = .ok (.getfield 91, 3) := by decide +kernel
theorem dX8_gives_404 : decode cX8_gives 404 = .ok (.iload 10, 2) := by decide +kernel
theorem dX8_gives_406 : decode cX8_gives 406 = .ok (.iaload, 1) := by decide +kernel
theorem dX8_gives_407 : decode cX8_gives 407 = .ok (.iaload, 1) := by decide +kernel
theorem dX8_gives_408 : decode cX8_gives 408 = .ok (.iadd, 1) := by decide +kernel
theorem dX8_gives_409 : decode cX8_gives 409 = .ok (.istore 9, 2) := by decide +kernel
theorem dX8_gives_411 : decode cX8_gives 411 = .ok (.iinc 10 1, 3) := by decide +kernel
theorem dX8_gives_414 : decode cX8_gives 414 = .ok (.goto (-27), 3) := by decide +kernel
theorem dX8_gives_417 : decode cX8_gives 417 = .ok (.iload 9, 2) := by decide +kernel
theorem dX8_gives_419 : decode cX8_gives 419 = .ok (.ireturn, 1) := by decide +kernel
theorem dX8_flows_0 : decode cX8_flows 0 = .ok (.iconst 0, 1) := by decide +kernel
theorem dX8_flows_1 : decode cX8_flows 1 = .ok (.istore 6, 2) := by decide +kernel
theorem dX8_flows_3 : decode cX8_flows 3 = .ok (.iconst 0, 1) := by decide +kernel
theorem dX8_flows_4 : decode cX8_flows 4 = .ok (.istore 7, 2) := by decide +kernel
theorem dX8_flows_6 : decode cX8_flows 6 = .ok (.iconst 0, 1) := by decide +kernel
theorem dX8_flows_7 : decode cX8_flows 7 = .ok (.istore 8, 2) := by decide +kernel
theorem dX8_flows_9 : decode cX8_flows 9 = .ok (.iconst 0, 1) := by decide +kernel
theorem dX8_flows_10 : decode cX8_flows 10 = .ok (.istore 9, 2) := by decide +kernel
theorem dX8_flows_12 : decode cX8_flows 12 = .ok (.iload 9, 2) := by decide +kernel
theorem dX8_flows_14 : decode cX8_flows 14 = .ok (.aload_n 0, 1) := by decide +kernel
theorem dX8_flows_15 : decode cX8_flows 15 = .ok (.getfield 118, 3) := by decide +kernel
theorem dX8_flows_18 : decode cX8_flows 18 = .ok (.if_icmp .ge 471, 3) := by decide +kernel
theorem dX8_flows_21 : decode cX8_flows 21 = .ok (.aload_n 1, 1) := by decide +kernel
theorem dX8_flows_22 : decode cX8_flows 22 = .ok (.iload 9, 2) := by decide +kernel
theorem dX8_flows_24 : decode cX8_flows 24 = .ok (.iaload, 1) := by decide +kernel
theorem dX8_flows_25 : decode cX8_flows 25 = .ok (.iload 4, 2) := by decide +kernel
theorem dX8_flows_27 : decode cX8_flows 27 = .ok (.aload_n 0, 1) := by decide +kernel
theorem dX8_flows_28 : decode cX8_flows 28 = .ok (.getfield 7, 3) := by decide +kernel
theorem dX8_flows_31 : decode cX8_flows 31 = .ok (.iload 9, 2) := by decide +kernel
theorem dX8_flows_33 : decode cX8_flows 33 = .ok (.iaload, 1) := by decide +kernel
theorem dX8_flows_34 : decode cX8_flows 34 = .ok (.imul, 1) := by decide +kernel
theorem dX8_flows_35 : decode cX8_flows 35 = .ok (.iadd, 1) := by decide +kernel
theorem dX8_flows_36 : decode cX8_flows 36 = .ok (.iload 6, 2) := by decide +kernel
theorem dX8_flows_38 : decode cX8_flows 38 = .ok (.iadd, 1) := by decide +kernel
theorem dX8_flows_39 : decode cX8_flows 39 = .ok (.istore 10, 2) := by decide +kernel
theorem dX8_flows_41 : decode cX8_flows 41 = .ok (.iload 10, 2) := by decide +kernel
theorem dX8_flows_43 : decode cX8_flows 43 = .ok (.bipush 50, 2) := by decide +kernel
theorem dX8_flows_45 : decode cX8_flows 45 = .ok (.idiv, 1) := by decide +kernel
theorem dX8_flows_46 : decode cX8_flows 46 = .ok (.istore 11, 2) := by decide +kernel
theorem dX8_flows_48 : decode cX8_flows 48 = .ok (.iload 10, 2) := by decide +kernel
theorem dX8_flows_50 : decode cX8_flows 50 = .ok (.iload 11, 2) := by decide +kernel
theorem dX8_flows_52 : decode cX8_flows 52 = .ok (.isub, 1) := by decide +kernel
theorem dX8_flows_53 : decode cX8_flows 53 = .ok (.istore 10, 2) := by decide +kernel
theorem dX8_flows_55 : decode cX8_flows 55 = .ok (.aload_n 0, 1) := by decide +kernel
theorem dX8_flows_56 : decode cX8_flows 56 = .ok (.iload 9, 2) := by decide +kernel
theorem dX8_flows_58 : decode cX8_flows 58 = .ok (.iload 10, 2) := by decide +kernel
theorem dX8_flows_60 : decode cX8_flows 60 = .ok (.aload_n 3, 1) := by decide +kernel
theorem dX8_flows_61 : decode cX8_flows 61 = .ok (.iload 9, 2) := by decide +kernel
theorem dX8_flows_63 : decode cX8_flows 63 = .ok (.iaload, 1) := by decide +kernel
theorem dX8_flows_64 : decode cX8_flows 64 = .ok (.invokevirtual 213, 3) := by decide +kernel
theorem dX8_flows_67 : decode cX8_flows 67 = .ok (.istore 12, 2) := by decide +kernel
theorem dX8_flows_69 : decode cX8_flows 69 = .ok (.iload 10, 2) := by decide +kernel
theorem dX8_flows_71 : decode cX8_flows 71 = .ok (.iload 12, 2) := by decide +kernel
theorem dX8_flows_73 : decode cX8_flows 73 = .ok (.isub, 1) := by decide +kernel
theorem dX8_flows_74 : decode cX8_flows 74 = .ok (.istore 10, 2) := by decide +kernel
theorem dX8_flows_76 : decode cX8_flows 76 = .ok (.iconst 0, 1) := by decide +kernel
theorem dX8_flows_77 : decode cX8_flows 77 = .ok (.iload 10, 2) := by decide +kernel
theorem dX8_flows_79 : decode cX8_flows 79 = .ok (.aload_n 0, 1) := by decide +kernel
theorem dX8_flows_80 : decode cX8_flows 80 = .ok (.iload 9, 2) := by decide +kernel
theorem dX8_flows_82 : decode cX8_flows 82 = .ok (.aload_n 2, 1) := by decide +kernel
theorem dX8_flows_83 : decode cX8_flows 83 = .ok (.iload 9, 2) := by decide +kernel
theorem dX8_flows_85 : decode cX8_flows 85 = .ok (.baload, 1) := by decide +kernel
theorem dX8_flows_86 : decode cX8_flows 86 = .ok (.invokevirtual 132, 3) := by decide +kernel
theorem dX8_flows_89 : decode cX8_flows 89 = .ok (.isub, 1) := by decide +kernel
theorem dX8_flows_90 : decode cX8_flows 90 = .ok (.invokestatic 115, 3) := by decide +kernel
theorem dX8_flows_93 : decode cX8_flows 93 = .ok (.istore 13, 2) := by decide +kernel
theorem dX8_flows_95 : decode cX8_flows 95 = .ok (.iload 10, 2) := by decide +kernel
theorem dX8_flows_97 : decode cX8_flows 97 = .ok (.iload 13, 2) := by decide +kernel
theorem dX8_flows_99 : decode cX8_flows 99 = .ok (.isub, 1) := by decide +kernel
theorem dX8_flows_100 : decode cX8_flows 100 = .ok (.istore 10, 2) := by decide +kernel
theorem dX8_flows_102 : decode cX8_flows 102 = .ok (.aload_n 2, 1) := by decide +kernel
theorem dX8_flows_103 : decode cX8_flows 103 = .ok (.iload 9, 2) := by decide +kernel
theorem dX8_flows_105 : decode cX8_flows 105 = .ok (.baload, 1) := by decide +kernel
theorem dX8_flows_106 : decode cX8_flows 106 = .ok (.ifCond .ne 19, 3) := by decide +kernel
theorem dX8_flows_109 : decode cX8_flows 109 = .ok (.iload 13, 2) := by decide +kernel
theorem dX8_flows_111 : decode cX8_flows 111 = .ok (.aload_n 0, 1) := by decide +kernel
theorem dX8_flows_112 : decode cX8_flows 112 = .ok (.getfield 16, 3) := by decide +kernel
theorem dX8_flows_115 : decode cX8_flows 115 = .ok (.iload 9, 2) := by decide +kernel
theorem dX8_flows_117 : decode cX8_flows 117 = .ok (.iaload, 1) := by decide +kernel
theorem dX8_flows_118 : decode cX8_flows 118 = .ok (.if_icmp .le 7, 3) := by decide +kernel
theorem dX8_flows_121 : decode cX8_flows 121 = .ok (.iconst 1, 1) := by decide +kernel
theorem dX8_flows_122 : decode cX8_flows 122 = .ok (.goto 4, 3) := by decide +kernel
theorem dX8_flows_125 : decode cX8_flows 125 = .ok (.iconst 0, 1) := by decide +kernel
theorem dX8_flows_126 : decode cX8_flows 126 = .ok (.istore 14, 2) := by decide +kernel
theorem dX8_flows_128 : decode cX8_flows 128 = .ok (.iload 14, 2) := by decide +kernel
theorem dX8_flows_130 : decode cX8_flows 130 = .ok (.ifCond .eq 18, 3) := by decide +kernel
theorem dX8_flows_133 : decode cX8_flows 133 = .ok (.aload_n 2, 1) := by decide +kernel
theorem dX8_flows_134 : decode cX8_flows 134 = .ok (.iload 9, 2) := by decide +kernel
theorem dX8_flows_136 : decode cX8_flows 136 = .ok (.iconst 1, 1) := by decide +kernel
theorem dX8_flows_137 : decode cX8_flows 137 = .ok (.bastore, 1) := by decide +kernel
theorem dX8_flows_138 : decode cX8_flows 138 = .ok (.iload 13, 2) := by decide +kernel
theorem dX8_flows_140 : decode cX8_flows 140 = .ok (.iload 10, 2) := by decide +kernel
theorem dX8_flows_142 : decode cX8_flows 142 = .ok (.iadd, 1) := by decide +kernel
theorem dX8_flows_143 : decode cX8_flows 143 = .ok (.istore 13, 2) := by decide +kernel
theorem dX8_flows_145 : decode cX8_flows 145 = .ok (.iconst 0, 1) := by decide +kernel
theorem dX8_flows_146 : decode cX8_flows 146 = .ok (.istore 10, 2) := by decide +kernel
theorem dX8_flows_148 : decode cX8_flows 148 = .ok (.aload_n 1, 1) := by decide +kernel
theorem dX8_flows_149 : decode cX8_flows 149 = .ok (.iload 9, 2) := by decide +kernel
theorem dX8_flows_151 : decode cX8_flows 151 = .ok (.iload 10, 2) := by decide +kernel
theorem dX8_flows_153 : decode cX8_flows 153 = .ok (.iastore, 1) := by decide +kernel
theorem dX8_flows_154 : decode cX8_flows 154 = .ok (.iload 12, 2) := by decide +kernel
theorem dX8_flows_156 : decode cX8_flows 156 = .ok (.iconst 2, 1) := by decide +kernel
theorem dX8_flows_157 : decode cX8_flows 157 = .ok (.idiv, 1) := by decide +kernel
theorem dX8_flows_158 : decode cX8_flows 158 = .ok (.iload 13, 2) := by decide +kernel
theorem dX8_flows_160 : decode cX8_flows 160 = .ok (.iadd, 1) := by decide +kernel
theorem dX8_flows_161 : decode cX8_flows 161 = .ok (.istore 6, 2) := by decide +kernel
theorem dX8_flows_163 : decode cX8_flows 163 = .ok (.iconst 0, 1) := by decide +kernel
theorem dX8_flows_164 : decode cX8_flows 164 = .ok (.istore 15, 2) := by decide +kernel
theorem dX8_flows_166 : decode cX8_flows 166 = .ok (.iload 15, 2) := by decide +kernel
theorem dX8_flows_168 : decode cX8_flows 168 = .ok (.aload_n 0, 1) := by decide +kernel
theorem dX8_flows_169 : decode cX8_flows 169 = .ok (.getfield 139, 3) := by decide +kernel
theorem dX8_flows_172 : decode cX8_flows 172 = .ok (.if_icmp .ge 50, 3) := by decide +kernel
theorem dX8_flows_175 : decode cX8_flows 175 = .ok (.aload_n 0, 1) := by decide +kernel
theorem dX8_flows_176 : decode cX8_flows 176 = .ok (.getfield 41, 3) := by decide +kernel
theorem dX8_flows_179 : decode cX8_flows 179 = .ok (.iload 15, 2) := by decide +kernel
theorem dX8_flows_181 : decode cX8_flows 181 = .ok (.iaload, 1) := by decide +kernel
theorem dX8_flows_182 : decode cX8_flows 182 = .ok (.iload 9, 2) := by decide +kernel
theorem dX8_flows_184 : decode cX8_flows 184 = .ok (.if_icmp .ne 32, 3) := by decide +kernel
theorem dX8_flows_187 : decode cX8_flows 187 = .ok (.aload_n 0, 1) := by decide +kernel
theorem dX8_flows_188 : decode cX8_flows 188 = .ok (.getfield 94, 3) := by decide +kernel
theorem dX8_flows_191 : decode cX8_flows 191 = .ok (.iload 15, 2) := by decide +kernel
theorem dX8_flows_193 : decode cX8_flows 193 = .ok (.iaload, 1) := by decide +kernel
theorem dX8_flows_194 : decode cX8_flows 194 = .ok (.aload_n 0, 1) := by decide +kernel
theorem dX8_flows_195 : decode cX8_flows 195 = .ok (.getfield 47, 3) := by decide +kernel
theorem dX8_flows_198 : decode cX8_flows 198 = .ok (.iload 15, 2) := by decide +kernel
theorem dX8_flows_200 : decode cX8_flows 200 = .ok (.iaload, 1) := by decide +kernel
theorem dX8_flows_201 : decode cX8_flows 201 = .ok (.if_icmp .ne 15, 3) := by decide +kernel
theorem dX8_flows_204 : decode cX8_flows 204 = .ok (.iload 7, 2) := by decide +kernel
theorem dX8_flows_206 : decode cX8_flows 206 = .ok (.aload_n 0, 1) := by decide +kernel
theorem dX8_flows_207 : decode cX8_flows 207 = .ok (.getfield 47, 3) := by decide +kernel
theorem dX8_flows_210 : decode cX8_flows 210 = .ok (.iload 15, 2) := by decide +kernel
theorem dX8_flows_212 : decode cX8_flows 212 = .ok (.iaload, 1) := by decide +kernel
theorem dX8_flows_213 : decode cX8_flows 213 = .ok (.iadd, 1) := by decide +kernel
theorem dX8_flows_214 : decode cX8_flows 214 = .ok (.istore 7, 2) := by decide +kernel
theorem dX8_flows_216 : decode cX8_flows 216 = .ok (.iinc 15 1, 3) := by decide +kernel
theorem dX8_flows_219 : decode cX8_flows 219 = .ok (.goto (-53), 3) := by decide +kernel
theorem dX8_flows_222 : decode cX8_flows 222 = .ok (.iload 5, 2) := by decide +kernel
theorem dX8_flows_224 : decode cX8_flows 224 = .ok (.ifCond .ne 6, 3) := by decide +kernel
theorem dX8_flows_227 : decode cX8_flows 227 = .ok (.goto 256, 3) := by decide +kernel
theorem dX8_flows_230 : decode cX8_flows 230 = .ok (.aload_n 0, 1) := by decide +kernel
theorem dX8_flows_231 : decode cX8_flows 231 = .ok (.getfield 28, 3) := by decide +kernel
theorem dX8_flows_234 : decode cX8_flows 234 = .ok (.iload 9, 2) := by decide +kernel
theorem dX8_flows_236 : decode cX8_flows 236 = .ok (.iload 12, 2) := by decide +kernel
theorem dX8_flows_238 : decode cX8_flows 238 = .ok (.iastore, 1) := by decide +kernel
theorem dX8_flows_239 : decode cX8_flows 239 = .ok (.aload_n 0, 1) := by decide +kernel
theorem dX8_flows_240 : decode cX8_flows 240 = .ok (.getfield 31, 3) := by decide +kernel
theorem dX8_flows_243 : decode cX8_flows 243 = .ok (.iload 9, 2) := by decide +kernel
theorem dX8_flows_245 : decode cX8_flows 245 = .ok (.iload 13, 2) := by decide +kernel
theorem dX8_flows_247 : decode cX8_flows 247 = .ok (.iastore, 1) := by decide +kernel
theorem dX8_flows_248 : decode cX8_flows 248 = .ok (.aload_n 0, 1) := by decide +kernel
theorem dX8_flows_249 : decode cX8_flows 249 = .ok (.dup, 1) := by decide +kernel
theorem dX8_flows_250 : decode cX8_flows 250 = .ok (.getfield 217, 3) := by decide +kernel
theorem dX8_flows_253 : decode cX8_flows 253 = .ok (.iload 11, 2) := by decide +kernel
theorem dX8_flows_255 : decode cX8_flows 255 = .ok (.iadd, 1) := by decide +kernel
theorem dX8_flows_256 : decode cX8_flows 256 = .ok (.putfield 217, 3) := by decide +kernel
theorem dX8_flows_259 : decode cX8_flows 259 = .ok (.aload_n 0, 1) := by decide +kernel
theorem dX8_flows_260 : decode cX8_flows 260 = .ok (.dup, 1) := by decide +kernel
theorem dX8_flows_261 : decode cX8_flows 261 = .ok (.getfield 220, 3) := by decide +kernel
theorem dX8_flows_264 : decode cX8_flows 264 = .ok (.iload 12, 2) := by decide +kernel
theorem dX8_flows_266 : decode cX8_flows 266 = .ok (.iload 12, 2) := by decide +kernel
theorem dX8_flows_268 : decode cX8_flows 268 = .ok (.iconst 2, 1) := by decide +kernel
theorem dX8_flows_269 : decode cX8_flows 269 = .ok (.idiv, 1) := by decide +kernel
theorem dX8_flows_270 : decode cX8_flows 270 = .ok (.isub, 1) := by decide +kernel
theorem dX8_flows_271 : decode cX8_flows 271 = .ok (.iadd, 1) := by decide +kernel
theorem dX8_flows_272 : decode cX8_flows 272 = .ok (.putfield 220, 3) := by decide +kernel
theorem dX8_flows_275 : decode cX8_flows 275 = .ok (.aload_n 0, 1) := by decide +kernel
theorem dX8_flows_276 : decode cX8_flows 276 = .ok (.dup, 1) := by decide +kernel
theorem dX8_flows_277 : decode cX8_flows 277 = .ok (.getfield 223, 3) := by decide +kernel
theorem dX8_flows_280 : decode cX8_flows 280 = .ok (.iload 4, 2) := by decide +kernel
theorem dX8_flows_282 : decode cX8_flows 282 = .ok (.aload_n 0, 1) := by decide +kernel
theorem dX8_flows_283 : decode cX8_flows 283 = .ok (.getfield 7, 3) := by decide +kernel
theorem dX8_flows_286 : decode cX8_flows 286 = .ok (.iload 9, 2) := by decide +kernel
theorem dX8_flows_288 : decode cX8_flows 288 = .ok (.iaload, 1) := by decide +kernel
theorem dX8_flows_289 : decode cX8_flows 289 = .ok (.imul, 1) := by decide +kernel
theorem dX8_flows_290 : decode cX8_flows 290 = .ok (.iadd, 1) := by decide +kernel
theorem dX8_flows_291 : decode cX8_flows 291 = .ok (.putfield 223, 3) := by decide +kernel
theorem dX8_flows_294 : decode cX8_flows 294 = .ok (.iconst 0, 1) := by decide +kernel
theorem dX8_flows_295 : decode cX8_flows 295 = .ok (.istore 15, 2) := by decide +kernel
theorem dX8_flows_297 : decode cX8_flows 297 = .ok (.iload 15, 2) := by decide +kernel
theorem dX8_flows_299 : decode cX8_flows 299 = .ok (.aload_n 0, 1) := by decide +kernel
theorem dX8_flows_300 : decode cX8_flows 300 = .ok (.getfield 139, 3) := by decide +kernel
theorem dX8_flows_303 : decode cX8_flows 303 = .ok (.if_icmp .ge 133, 3) := by decide +kernel
theorem dX8_flows_306 : decode cX8_flows 306 = .ok (.aload_n 0, 1) := by decide +kernel
theorem dX8_flows_307 : decode cX8_flows 307 = .ok (.getfield 41, 3) := by decide +kernel
theorem dX8_flows_310 : decode cX8_flows 310 = .ok (.iload 15, 2) := by decide +kernel
theorem dX8_flows_312 : decode cX8_flows 312 = .ok (.iaload, 1) := by decide +kernel
theorem dX8_flows_313 : decode cX8_flows 313 = .ok (.iload 9, 2) := by decide +kernel
theorem dX8_flows_315 : decode cX8_flows 315 = .ok (.if_icmp .eq 6, 3) := by decide +kernel
theorem dX8_flows_318 : decode cX8_flows 318 = .ok (.goto 112, 3) := by decide +kernel
theorem dX8_flows_321 : decode cX8_flows 321 = .ok (.aload_n 0, 1) := by decide +kernel
theorem dX8_flows_322 : decode cX8_flows 322 = .ok (.getfield 59, 3) := by decide +kernel
theorem dX8_flows_325 : decode cX8_flows 325 = .ok (.iload 15, 2) := by decide +kernel
theorem dX8_flows_327 : decode cX8_flows 327 = .ok (.aload_n 0, 1) := by decide +kernel
theorem dX8_flows_328 : decode cX8_flows 328 = .ok (.getfield 94, 3) := by decide +kernel
theorem dX8_flows_331 : decode cX8_flows 331 = .ok (.iload 15, 2) := by decide +kernel
theorem dX8_flows_333 : decode cX8_flows 333 = .ok (.iaload, 1) := by decide +kernel
theorem dX8_flows_334 : decode cX8_flows 334 = .ok (.iastore, 1) := by decide +kernel
theorem dX8_flows_335 : decode cX8_flows 335 = .ok (.aload_n 0, 1) := by decide +kernel
theorem dX8_flows_336 : decode cX8_flows 336 = .ok (.getfield 56, 3) := by decide +kernel
theorem dX8_flows_339 : decode cX8_flows 339 = .ok (.iload 15, 2) := by decide +kernel
theorem dX8_flows_341 : decode cX8_flows 341 = .ok (.dup2, 1) := by decide +kernel
theorem dX8_flows_342 : decode cX8_flows 342 = .ok (.iaload, 1) := by decide +kernel
theorem dX8_flows_343 : decode cX8_flows 343 = .ok (.aload_n 0, 1) := by decide +kernel
theorem dX8_flows_344 : decode cX8_flows 344 = .ok (.getfield 94, 3) := by decide +kernel
theorem dX8_flows_347 : decode cX8_flows 347 = .ok (.iload 15, 2) := by decide +kernel
theorem dX8_flows_349 : decode cX8_flows 349 = .ok (.iaload, 1) := by decide +kernel
theorem dX8_flows_350 : decode cX8_flows 350 = .ok (.iadd, 1) := by decide +kernel
theorem dX8_flows_351 : decode cX8_flows 351 = .ok (.iastore, 1) := by decide +kernel
theorem dX8_flows_352 : decode cX8_flows 352 = .ok (.aload_n 0, 1) := by decide +kernel
theorem dX8_flows_353 : decode cX8_flows 353 = .ok (.getfield 53, 3) := by decide +kernel
theorem dX8_flows_356 : decode cX8_flows 356 = .ok (.iload 15, 2) := by decide +kernel
theorem dX8_flows_358 : decode cX8_flows 358 = .ok (.dup2, 1) := by decide +kernel
theorem dX8_flows_359 : decode cX8_flows 359 = .ok (.iaload, 1) := by decide +kernel
theorem dX8_flows_360 : decode cX8_flows 360 = .ok (.aload_n 0, 1) := by decide +kernel
theorem dX8_flows_361 : decode cX8_flows 361 = .ok (.getfield 94, 3) := by decide +kernel
theorem dX8_flows_364 : decode cX8_flows 364 = .ok (.iload 15, 2) := by decide +kernel
theorem dX8_flows_366 : decode cX8_flows 366 = .ok (.iaload, 1) := by decide +kernel
theorem dX8_flows_367 : decode cX8_flows 367 = .ok (.aload_n 0, 1) := by decide +kernel
theorem dX8_flows_368 : decode cX8_flows 368 = .ok (.getfield 47, 3) := by decide +kernel
theorem dX8_flows_371 : decode cX8_flows 371 = .ok (.iload 15, 2) := by decide +kernel
theorem dX8_flows_373 : decode cX8_flows 373 = .ok (.iaload, 1) := by decide +kernel
theorem dX8_flows_374 : decode cX8_flows 374 = .ok (.if_icmp .ne 7, 3) := by decide +kernel
theorem dX8_flows_377 : decode cX8_flows 377 = .ok (.iconst 1, 1) := by decide +kernel
theorem dX8_flows_378 : decode cX8_flows 378 = .ok (.goto 4, 3) := by decide +kernel
theorem dX8_flows_381 : decode cX8_flows 381 = .ok (.iconst 0, 1) := by decide +kernel
theorem dX8_flows_382 : decode cX8_flows 382 = .ok (.invokestatic 198, 3) := by decide +kernel
theorem dX8_flows_385 : decode cX8_flows 385 = .ok (.iadd, 1) := by decide +kernel
theorem dX8_flows_386 : decode cX8_flows 386 = .ok (.iastore, 1) := by decide +kernel
theorem dX8_flows_387 : decode cX8_flows 387 = .ok (.aload_n 0, 1) := by decide +kernel
theorem dX8_flows_388 : decode cX8_flows 388 = .ok (.getfield 65, 3) := by decide +kernel
theorem dX8_flows_391 : decode cX8_flows 391 = .ok (.aload_n 0, 1) := by decide +kernel
theorem dX8_flows_392 : decode cX8_flows 392 = .ok (.getfield 50, 3) := by decide +kernel
theorem dX8_flows_395 : decode cX8_flows 395 = .ok (.iload 15, 2) := by decide +kernel
theorem dX8_flows_397 : decode cX8_flows 397 = .ok (.iaload, 1) := by decide +kernel
theorem dX8_flows_398 : decode cX8_flows 398 = .ok (.dup2, 1) := by decide +kernel
theorem dX8_flows_399 : decode cX8_flows 399 = .ok (.iaload, 1) := by decide +kernel
theorem dX8_flows_400 : decode cX8_flows 400 = .ok (.aload_n 0, 1) := by decide +kernel
theorem dX8_flows_401 : decode cX8_flows 401 = .ok (.getfield 94, 3) := by decide +kernel
theorem dX8_flows_404 : decode cX8_flows 404 = .ok (.iload 15, 2) := by decide +kernel
theorem dX8_flows_406 : decode cX8_flows 406 = .ok (.iaload, 1) := by decide +kernel
theorem dX8_flows_407 : decode cX8_flows 407 = .ok (.aload_n 0, 1) := by decide +kernel
theorem dX8_flows_408 : decode cX8_flows 408 = .ok (.getfield 47, 3) := by decide +kernel
theorem dX8_flows_411 : decode cX8_flows 411 = .ok (.iload 15, 2) := by decide +kernel
theorem dX8_flows_413 : decode cX8_flows 413 = .ok (.iaload, 1) := by decide +kernel
theorem dX8_flows_414 : decode cX8_flows 414 = .ok (.if_icmp .ne 13, 3) := by decide +kernel
theorem dX8_flows_417 : decode cX8_flows 417 = .ok (.aload_n 0, 1) := by decide +kernel
theorem dX8_flows_418 : decode cX8_flows 418 = .ok (.getfield 47, 3) := by decide +kernel
theorem dX8_flows_421 : decode cX8_flows 421 = .ok (.iload 15, 2) := by decide +kernel
theorem dX8_flows_423 : decode cX8_flows 423 = .ok (.iaload, 1) := by decide +kernel
theorem dX8_flows_424 : decode cX8_flows 424 = .ok (.goto 4, 3) := by decide +kernel
theorem dX8_flows_427 : decode cX8_flows 427 = .ok (.iconst 0, 1) := by decide +kernel
theorem dX8_flows_428 : decode cX8_flows 428 = .ok (.iadd, 1) := by decide +kernel
theorem dX8_flows_429 : decode cX8_flows 429 = .ok (.iastore, 1) := by decide +kernel
theorem dX8_flows_430 : decode cX8_flows 430 = .ok (.iinc 15 1, 3) := by decide +kernel
theorem dX8_flows_433 : decode cX8_flows 433 = .ok (.goto (-136), 3) := by decide +kernel
theorem dX8_flows_436 : decode cX8_flows 436 = .ok (.iload 14, 2) := by decide +kernel
theorem dX8_flows_438 : decode cX8_flows 438 = .ok (.ifCond .ne 6, 3) := by decide +kernel
theorem dX8_flows_441 : decode cX8_flows 441 = .ok (.goto 42, 3) := by decide +kernel
theorem dX8_flows_444 : decode cX8_flows 444 = .ok (.aload_n 0, 1) := by decide +kernel
theorem dX8_flows_445 : decode cX8_flows 445 = .ok (.getfield 34, 3) := by decide +kernel
theorem dX8_flows_448 : decode cX8_flows 448 = .ok (.iload 9, 2) := by decide +kernel
theorem dX8_flows_450 : decode cX8_flows 450 = .ok (.aload_n 0, 1) := by decide +kernel
theorem dX8_flows_451 : decode cX8_flows 451 = .ok (.getfield 129, 3) := by decide +kernel
theorem dX8_flows_454 : decode cX8_flows 454 = .ok (.iastore, 1) := by decide +kernel
theorem dX8_flows_455 : decode cX8_flows 455 = .ok (.iload 8, 2) := by decide +kernel
theorem dX8_flows_457 : decode cX8_flows 457 = .ok (.ifCond .ne 9, 3) := by decide +kernel
theorem dX8_flows_460 : decode cX8_flows 460 = .ok (.aload_n 0, 1) := by decide +kernel
theorem dX8_flows_461 : decode cX8_flows 461 = .ok (.iload 9, 2) := by decide +kernel
theorem dX8_flows_463 : decode cX8_flows 463 = .ok (.putfield 68, 3) := by decide +kernel
theorem dX8_flows_466 : decode cX8_flows 466 = .ok (.iinc 8 1, 3) := by decide +kernel
theorem dX8_flows_469 : decode cX8_flows 469 = .ok (.aload_n 0, 1) := by decide +kernel
theorem dX8_flows_470 : decode cX8_flows 470 = .ok (.iload 8, 2) := by decide +kernel
theorem dX8_flows_472 : decode cX8_flows 472 = .ok (.putfield 72, 3) := by decide +kernel
theorem dX8_flows_475 : decode cX8_flows 475 = .ok (.aload_n 0, 1) := by decide +kernel
theorem dX8_flows_476 : decode cX8_flows 476 = .ok (.aload_n 0, 1) := by decide +kernel
theorem dX8_flows_477 : decode cX8_flows 477 = .ok (.getfield 129, 3) := by decide +kernel
theorem dX8_flows_480 : decode cX8_flows 480 = .ok (.putfield 75, 3) := by decide +kernel
theorem dX8_flows_483 : decode cX8_flows 483 = .ok (.iinc 9 1, 3) := by decide +kernel
theorem dX8_flows_486 : decode cX8_flows 486 = .ok (.goto (-474), 3) := by decide +kernel
theorem dX8_flows_489 : decode cX8_flows 489 = .ok (.iload 5, 2) := by decide +kernel
theorem dX8_flows_491 : decode cX8_flows 491 = .ok (.ifCond .eq 14, 3) := by decide +kernel
theorem dX8_flows_494 : decode cX8_flows 494 = .ok (.aload_n 0, 1) := by decide +kernel
theorem dX8_flows_495 : decode cX8_flows 495 = .ok (.dup, 1) := by decide +kernel
theorem dX8_flows_496 : decode cX8_flows 496 = .ok (.getfield 226, 3) := by decide +kernel
theorem dX8_flows_499 : decode cX8_flows 499 = .ok (.iload 6, 2) := by decide +kernel
theorem dX8_flows_501 : decode cX8_flows 501 = .ok (.iadd, 1) := by decide +kernel
theorem dX8_flows_502 : decode cX8_flows 502 = .ok (.putfield 226, 3) := by decide +kernel
theorem dX8_flows_505 : decode cX8_flows 505 = .ok (.iload 7, 2) := by decide +kernel
theorem dX8_flows_507 : decode cX8_flows 507 = .ok (.ireturn, 1) := by decide +kernel
theorem dX8_day_0 : decode cX8_day 0 = .ok (.iload_n 1, 1) := by decide +kernel
theorem dX8_day_1 : decode cX8_day 1 = .ok (.iconst (-1), 1) := by decide +kernel
theorem dX8_day_2 : decode cX8_day 2 = .ok (.bipush 50, 2) := by decide +kernel
theorem dX8_day_4 : decode cX8_day 4 = .ok (.invokestatic 121, 3) := by decide +kernel
theorem dX8_day_7 : decode cX8_day 7 = .ok (.ifCond .eq 13, 3) := by decide +kernel
theorem dX8_day_10 : decode cX8_day 10 = .ok (.aload_n 0, 1) := by decide +kernel
theorem dX8_day_11 : decode cX8_day 11 = .ok (.getfield 129, 3) := by decide +kernel
theorem dX8_day_14 : decode cX8_day 14 = .ok (.sipush 1000, 3) := by decide +kernel
theorem dX8_day_17 : decode cX8_day 17 = .ok (.if_icmp .ne 5, 3) := by decide +kernel
theorem dX8_day_20 : decode cX8_day 20 = .ok (.iconst (-1), 1) := by decide +kernel
theorem dX8_day_21 : decode cX8_day 21 = .ok (.ireturn, 1) := by decide +kernel
theorem dX8_day_22 : decode cX8_day 22 = .ok (.iload_n 1, 1) := by decide +kernel
theorem dX8_day_23 : decode cX8_day 23 = .ok (.iconst (-1), 1) := by decide +kernel
theorem dX8_day_24 : decode cX8_day 24 = .ok (.if_icmp .eq 8, 3) := by decide +kernel
theorem dX8_day_27 : decode cX8_day 27 = .ok (.aload_n 0, 1) := by decide +kernel
theorem dX8_day_28 : decode cX8_day 28 = .ok (.iload_n 1, 1) := by decide +kernel
theorem dX8_day_29 : decode cX8_day 29 = .ok (.putfield 229, 3) := by decide +kernel
theorem dX8_day_32 : decode cX8_day 32 = .ok (.iconst 0, 1) := by decide +kernel
theorem dX8_day_33 : decode cX8_day 33 = .ok (.istore_n 2, 1) := by decide +kernel
theorem dX8_day_34 : decode cX8_day 34 = .ok (.iload_n 2, 1) := by decide +kernel
theorem dX8_day_35 : decode cX8_day 35 = .ok (.aload_n 0, 1) := by decide +kernel
theorem dX8_day_36 : decode cX8_day 36 = .ok (.getfield 118, 3) := by decide +kernel
theorem dX8_day_39 : decode cX8_day 39 = .ok (.if_icmp .ge 52, 3) := by decide +kernel
theorem dX8_day_42 : decode cX8_day 42 = .ok (.aload_n 0, 1) := by decide +kernel
theorem dX8_day_43 : decode cX8_day 43 = .ok (.getfield 129, 3) := by decide +kernel
theorem dX8_day_46 : decode cX8_day 46 = .ok (.iconst 1, 1) := by decide +kernel
theorem dX8_day_47 : decode cX8_day 47 = .ok (.iadd, 1) := by decide +kernel
theorem dX8_day_48 : decode cX8_day 48 = .ok (.bipush 100, 2) := by decide +kernel
theorem dX8_day_50 : decode cX8_day 50 = .ok (.irem, 1) := by decide +kernel
theorem dX8_day_51 : decode cX8_day 51 = .ok (.ifCond .ne 34, 3) := by decide +kernel
theorem dX8_day_54 : decode cX8_day 54 = .ok (.aload_n 0, 1) := by decide +kernel
theorem dX8_day_55 : decode cX8_day 55 = .ok (.getfield 25, 3) := by decide +kernel
theorem dX8_day_58 : decode cX8_day 58 = .ok (.iload_n 2, 1) := by decide +kernel
theorem dX8_day_59 : decode cX8_day 59 = .ok (.aload_n 0, 1) := by decide +kernel
theorem dX8_day_60 : decode cX8_day 60 = .ok (.getfield 13, 3) := by decide +kernel
theorem dX8_day_63 : decode cX8_day 63 = .ok (.iload_n 2, 1) := by decide +kernel
theorem dX8_day_64 : decode cX8_day 64 = .ok (.iaload, 1) := by decide +kernel
theorem dX8_day_65 : decode cX8_day 65 = .ok (.aload_n 0, 1) := by decide +kernel
theorem dX8_day_66 : decode cX8_day 66 = .ok (.getfield 25, 3) := by decide +kernel
theorem dX8_day_69 : decode cX8_day 69 = .ok (.iload_n 2, 1) := by decide +kernel
theorem dX8_day_70 : decode cX8_day 70 = .ok (.iaload, 1) := by decide +kernel
theorem dX8_day_71 : decode cX8_day 71 = .ok (.aload_n 0, 1) := by decide +kernel
theorem dX8_day_72 : decode cX8_day 72 = .ok (.getfield 13, 3) := by decide +kernel
theorem dX8_day_75 : decode cX8_day 75 = .ok (.iload_n 2, 1) := by decide +kernel
theorem dX8_day_76 : decode cX8_day 76 = .ok (.iaload, 1) := by decide +kernel
theorem dX8_day_77 : decode cX8_day 77 = .ok (.bipush 50, 2) := by decide +kernel
theorem dX8_day_79 : decode cX8_day 79 = .ok (.idiv, 1) := by decide +kernel
theorem dX8_day_80 : decode cX8_day 80 = .ok (.iadd, 1) := by decide +kernel
theorem dX8_day_81 : decode cX8_day 81 = .ok (.invokestatic 109, 3) := by decide +kernel
theorem dX8_day_84 : decode cX8_day 84 = .ok (.iastore, 1) := by decide +kernel
theorem dX8_day_85 : decode cX8_day 85 = .ok (.iinc 2 1, 3) := by decide +kernel
theorem dX8_day_88 : decode cX8_day 88 = .ok (.goto (-54), 3) := by decide +kernel
theorem dX8_day_91 : decode cX8_day 91 = .ok (.aload_n 0, 1) := by decide +kernel
theorem dX8_day_92 : decode cX8_day 92 = .ok (.aload_n 0, 1) := by decide +kernel
theorem dX8_day_93 : decode cX8_day 93 = .ok (.getfield 19, 3) := by decide +kernel
theorem dX8_day_96 : decode cX8_day 96 = .ok (.aload_n 0, 1) := by decide +kernel
theorem dX8_day_97 : decode cX8_day 97 = .ok (.getfield 37, 3) := by decide +kernel
theorem dX8_day_100 : decode cX8_day 100 = .ok (.aload_n 0, 1) := by decide +kernel
theorem dX8_day_101 : decode cX8_day 101 = .ok (.getfield 22, 3) := by decide +kernel
theorem dX8_day_104 : decode cX8_day 104 = .ok (.aload_n 0, 1) := by decide +kernel
theorem dX8_day_105 : decode cX8_day 105 = .ok (.getfield 229, 3) := by decide +kernel
theorem dX8_day_108 : decode cX8_day 108 = .ok (.iconst 1, 1) := by decide +kernel
theorem dX8_day_109 : decode cX8_day 109 = .ok (.invokevirtual 232, 3) := by decide +kernel
theorem dX8_day_112 : decode cX8_day 112 = .ok (.pop, 1) := by decide +kernel
theorem dX8_day_113 : decode cX8_day 113 = .ok (.aload_n 0, 1) := by decide +kernel
theorem dX8_day_114 : decode cX8_day 114 = .ok (.dup, 1) := by decide +kernel
theorem dX8_day_115 : decode cX8_day 115 = .ok (.getfield 129, 3) := by decide +kernel
theorem dX8_day_118 : decode cX8_day 118 = .ok (.iconst 1, 1) := by decide +kernel
theorem dX8_day_119 : decode cX8_day 119 = .ok (.iadd, 1) := by decide +kernel
theorem dX8_day_120 : decode cX8_day 120 = .ok (.putfield 129, 3) := by decide +kernel
theorem dX8_day_123 : decode cX8_day 123 = .ok (.aload_n 0, 1) := by decide +kernel
theorem dX8_day_124 : decode cX8_day 124 = .ok (.getfield 129, 3) := by decide +kernel
theorem dX8_day_127 : decode cX8_day 127 = .ok (.ireturn, 1) := by decide +kernel
theorem dX8_told_0 : decode cX8_told 0 = .ok (.aload_n 0, 1) := by decide +kernel
theorem dX8_told_1 : decode cX8_told 1 = .ok (.iload_n 1, 1) := by decide +kernel
theorem dX8_told_2 : decode cX8_told 2 = .ok (.invokevirtual 125, 3) := by decide +kernel
theorem dX8_told_5 : decode cX8_told 5 = .ok (.ifCond .ne 5, 3) := by decide +kernel
theorem dX8_told_8 : decode cX8_told 8 = .ok (.iconst (-1), 1) := by decide +kernel
theorem dX8_told_9 : decode cX8_told 9 = .ok (.ireturn, 1) := by decide +kernel
theorem dX8_told_10 : decode cX8_told 10 = .ok (.iload_n 2, 1) := by decide +kernel
theorem dX8_told_11 : decode cX8_told 11 = .ok (.tableswitch 161 0 11 #[61, 68, 75, 82, 89, 96, 103, 113, 125, 132, 139, 146], 61) := by decide +kernel
theorem dX8_told_72 : decode cX8_told 72 = .ok (.aload_n 0, 1) := by decide +kernel
theorem dX8_told_73 : decode cX8_told 73 = .ok (.getfield 7, 3) := by decide +kernel
theorem dX8_told_76 : decode cX8_told 76 = .ok (.iload_n 1, 1) := by decide +kernel
theorem dX8_told_77 : decode cX8_told 77 = .ok (.iaload, 1) := by decide +kernel
theorem dX8_told_78 : decode cX8_told 78 = .ok (.ireturn, 1) := by decide +kernel
theorem dX8_told_79 : decode cX8_told 79 = .ok (.aload_n 0, 1) := by decide +kernel
theorem dX8_told_80 : decode cX8_told 80 = .ok (.getfield 13, 3) := by decide +kernel
theorem dX8_told_83 : decode cX8_told 83 = .ok (.iload_n 1, 1) := by decide +kernel
theorem dX8_told_84 : decode cX8_told 84 = .ok (.iaload, 1) := by decide +kernel
theorem dX8_told_85 : decode cX8_told 85 = .ok (.ireturn, 1) := by decide +kernel
theorem dX8_told_86 : decode cX8_told 86 = .ok (.aload_n 0, 1) := by decide +kernel
theorem dX8_told_87 : decode cX8_told 87 = .ok (.getfield 16, 3) := by decide +kernel
theorem dX8_told_90 : decode cX8_told 90 = .ok (.iload_n 1, 1) := by decide +kernel
theorem dX8_told_91 : decode cX8_told 91 = .ok (.iaload, 1) := by decide +kernel
theorem dX8_told_92 : decode cX8_told 92 = .ok (.ireturn, 1) := by decide +kernel
theorem dX8_told_93 : decode cX8_told 93 = .ok (.aload_n 0, 1) := by decide +kernel
theorem dX8_told_94 : decode cX8_told 94 = .ok (.getfield 19, 3) := by decide +kernel
theorem dX8_told_97 : decode cX8_told 97 = .ok (.iload_n 1, 1) := by decide +kernel
theorem dX8_told_98 : decode cX8_told 98 = .ok (.iaload, 1) := by decide +kernel
theorem dX8_told_99 : decode cX8_told 99 = .ok (.ireturn, 1) := by decide +kernel
theorem dX8_told_100 : decode cX8_told 100 = .ok (.aload_n 0, 1) := by decide +kernel
theorem dX8_told_101 : decode cX8_told 101 = .ok (.getfield 22, 3) := by decide +kernel
theorem dX8_told_104 : decode cX8_told 104 = .ok (.iload_n 1, 1) := by decide +kernel
theorem dX8_told_105 : decode cX8_told 105 = .ok (.iaload, 1) := by decide +kernel
theorem dX8_told_106 : decode cX8_told 106 = .ok (.ireturn, 1) := by decide +kernel
theorem dX8_told_107 : decode cX8_told 107 = .ok (.aload_n 0, 1) := by decide +kernel
theorem dX8_told_108 : decode cX8_told 108 = .ok (.getfield 25, 3) := by decide +kernel
theorem dX8_told_111 : decode cX8_told 111 = .ok (.iload_n 1, 1) := by decide +kernel
theorem dX8_told_112 : decode cX8_told 112 = .ok (.iaload, 1) := by decide +kernel
theorem dX8_told_113 : decode cX8_told 113 = .ok (.ireturn, 1) := by decide +kernel
theorem dX8_told_114 : decode cX8_told 114 = .ok (.aload_n 0, 1) := by decide +kernel
theorem dX8_told_115 : decode cX8_told 115 = .ok (.getfield 37, 3) := by decide +kernel
theorem dX8_told_118 : decode cX8_told 118 = .ok (.iload_n 1, 1) := by decide +kernel
theorem dX8_told_119 : decode cX8_told 119 = .ok (.baload, 1) := by decide +kernel
theorem dX8_told_120 : decode cX8_told 120 = .ok (.invokestatic 198, 3) := by decide +kernel
theorem dX8_told_123 : decode cX8_told 123 = .ok (.ireturn, 1) := by decide +kernel
theorem dX8_told_124 : decode cX8_told 124 = .ok (.aload_n 0, 1) := by decide +kernel
theorem dX8_told_125 : decode cX8_told 125 = .ok (.iload_n 1, 1) := by decide +kernel
theorem dX8_told_126 : decode cX8_told 126 = .ok (.aload_n 0, 1) := by decide +kernel
theorem dX8_told_127 : decode cX8_told 127 = .ok (.getfield 37, 3) := by decide +kernel
theorem dX8_told_130 : decode cX8_told 130 = .ok (.iload_n 1, 1) := by decide +kernel
theorem dX8_told_131 : decode cX8_told 131 = .ok (.baload, 1) := by decide +kernel
theorem dX8_told_132 : decode cX8_told 132 = .ok (.invokevirtual 132, 3) := by decide +kernel
theorem dX8_told_135 : decode cX8_told 135 = .ok (.ireturn, 1) := by decide +kernel
theorem dX8_told_136 : decode cX8_told 136 = .ok (.aload_n 0, 1) := by decide +kernel
theorem dX8_told_137 : decode cX8_told 137 = .ok (.getfield 28, 3) := by decide +kernel
theorem dX8_told_140 : decode cX8_told 140 = .ok (.iload_n 1, 1) := by decide +kernel
theorem dX8_told_141 : decode cX8_told 141 = .ok (.iaload, 1) := by decide +kernel
theorem dX8_told_142 : decode cX8_told 142 = .ok (.ireturn, 1) := by decide +kernel
theorem dX8_told_143 : decode cX8_told 143 = .ok (.aload_n 0, 1) := by decide +kernel
theorem dX8_told_144 : decode cX8_told 144 = .ok (.getfield 31, 3) := by decide +kernel
theorem dX8_told_147 : decode cX8_told 147 = .ok (.iload_n 1, 1) := by decide +kernel
theorem dX8_told_148 : decode cX8_told 148 = .ok (.iaload, 1) := by decide +kernel
theorem dX8_told_149 : decode cX8_told 149 = .ok (.ireturn, 1) := by decide +kernel
theorem dX8_told_150 : decode cX8_told 150 = .ok (.aload_n 0, 1) := by decide +kernel
theorem dX8_told_151 : decode cX8_told 151 = .ok (.getfield 34, 3) := by decide +kernel
theorem dX8_told_154 : decode cX8_told 154 = .ok (.iload_n 1, 1) := by decide +kernel
theorem dX8_told_155 : decode cX8_told 155 = .ok (.iaload, 1) := by decide +kernel
theorem dX8_told_156 : decode cX8_told 156 = .ok (.ireturn, 1) := by decide +kernel
theorem dX8_told_157 : decode cX8_told 157 = .ok (.aload_n 0, 1) := by decide +kernel
theorem dX8_told_158 : decode cX8_told 158 = .ok (.iload_n 1, 1) := by decide +kernel
theorem dX8_told_159 : decode cX8_told 159 = .ok (.aload_n 0, 1) := by decide +kernel
theorem dX8_told_160 : decode cX8_told 160 = .ok (.getfield 19, 3) := by decide +kernel
theorem dX8_told_163 : decode cX8_told 163 = .ok (.iload_n 1, 1) := by decide +kernel
theorem dX8_told_164 : decode cX8_told 164 = .ok (.iaload, 1) := by decide +kernel
theorem dX8_told_165 : decode cX8_told 165 = .ok (.invokevirtual 210, 3) := by decide +kernel
theorem dX8_told_168 : decode cX8_told 168 = .ok (.invokestatic 198, 3) := by decide +kernel
theorem dX8_told_171 : decode cX8_told 171 = .ok (.ireturn, 1) := by decide +kernel
theorem dX8_told_172 : decode cX8_told 172 = .ok (.iconst (-1), 1) := by decide +kernel
theorem dX8_told_173 : decode cX8_told 173 = .ok (.ireturn, 1) := by decide +kernel
theorem dX8_fieldOf_0 : decode cX8_fieldOf 0 = .ok (.iload_n 1, 1) := by decide +kernel
theorem dX8_fieldOf_1 : decode cX8_fieldOf 1 = .ok (.iconst 0, 1) := by decide +kernel
theorem dX8_fieldOf_2 : decode cX8_fieldOf 2 = .ok (.aload_n 0, 1) := by decide +kernel
theorem dX8_fieldOf_3 : decode cX8_fieldOf 3 = .ok (.getfield 139, 3) := by decide +kernel
theorem dX8_fieldOf_6 : decode cX8_fieldOf 6 = .ok (.iconst 1, 1) := by decide +kernel
theorem dX8_fieldOf_7 : decode cX8_fieldOf 7 = .ok (.isub, 1) := by decide +kernel
theorem dX8_fieldOf_8 : decode cX8_fieldOf 8 = .ok (.invokestatic 121, 3) := by decide +kernel
theorem dX8_fieldOf_11 : decode cX8_fieldOf 11 = .ok (.ifCond .ne 5, 3) := by decide +kernel
theorem dX8_fieldOf_14 : decode cX8_fieldOf 14 = .ok (.iconst (-1), 1) := by decide +kernel
theorem dX8_fieldOf_15 : decode cX8_fieldOf 15 = .ok (.ireturn, 1) := by decide +kernel
theorem dX8_fieldOf_16 : decode cX8_fieldOf 16 = .ok (.iload_n 2, 1) := by decide +kernel
theorem dX8_fieldOf_17 : decode cX8_fieldOf 17 = .ok (.tableswitch 106 0 7 #[47, 54, 61, 68, 75, 85, 92, 99], 47) := by decide +kernel
theorem dX8_fieldOf_64 : decode cX8_fieldOf 64 = .ok (.aload_n 0, 1) := by decide +kernel
theorem dX8_fieldOf_65 : decode cX8_fieldOf 65 = .ok (.getfield 41, 3) := by decide +kernel
theorem dX8_fieldOf_68 : decode cX8_fieldOf 68 = .ok (.iload_n 1, 1) := by decide +kernel
theorem dX8_fieldOf_69 : decode cX8_fieldOf 69 = .ok (.iaload, 1) := by decide +kernel
theorem dX8_fieldOf_70 : decode cX8_fieldOf 70 = .ok (.ireturn, 1) := by decide +kernel
theorem dX8_fieldOf_71 : decode cX8_fieldOf 71 = .ok (.aload_n 0, 1) := by decide +kernel
theorem dX8_fieldOf_72 : decode cX8_fieldOf 72 = .ok (.getfield 44, 3) := by decide +kernel
theorem dX8_fieldOf_75 : decode cX8_fieldOf 75 = .ok (.iload_n 1, 1) := by decide +kernel
theorem dX8_fieldOf_76 : decode cX8_fieldOf 76 = .ok (.iaload, 1) := by decide +kernel
theorem dX8_fieldOf_77 : decode cX8_fieldOf 77 = .ok (.ireturn, 1) := by decide +kernel
theorem dX8_fieldOf_78 : decode cX8_fieldOf 78 = .ok (.aload_n 0, 1) := by decide +kernel
theorem dX8_fieldOf_79 : decode cX8_fieldOf 79 = .ok (.getfield 47, 3) := by decide +kernel
theorem dX8_fieldOf_82 : decode cX8_fieldOf 82 = .ok (.iload_n 1, 1) := by decide +kernel
theorem dX8_fieldOf_83 : decode cX8_fieldOf 83 = .ok (.iaload, 1) := by decide +kernel
theorem dX8_fieldOf_84 : decode cX8_fieldOf 84 = .ok (.ireturn, 1) := by decide +kernel
theorem dX8_fieldOf_85 : decode cX8_fieldOf 85 = .ok (.aload_n 0, 1) := by decide +kernel
theorem dX8_fieldOf_86 : decode cX8_fieldOf 86 = .ok (.getfield 50, 3) := by decide +kernel
theorem dX8_fieldOf_89 : decode cX8_fieldOf 89 = .ok (.iload_n 1, 1) := by decide +kernel
theorem dX8_fieldOf_90 : decode cX8_fieldOf 90 = .ok (.iaload, 1) := by decide +kernel
theorem dX8_fieldOf_91 : decode cX8_fieldOf 91 = .ok (.ireturn, 1) := by decide +kernel
theorem dX8_fieldOf_92 : decode cX8_fieldOf 92 = .ok (.aload_n 0, 1) := by decide +kernel
theorem dX8_fieldOf_93 : decode cX8_fieldOf 93 = .ok (.getfield 62, 3) := by decide +kernel
theorem dX8_fieldOf_96 : decode cX8_fieldOf 96 = .ok (.iload_n 1, 1) := by decide +kernel
theorem dX8_fieldOf_97 : decode cX8_fieldOf 97 = .ok (.baload, 1) := by decide +kernel
theorem dX8_fieldOf_98 : decode cX8_fieldOf 98 = .ok (.invokestatic 198, 3) := by decide +kernel
theorem dX8_fieldOf_101 : decode cX8_fieldOf 101 = .ok (.ireturn, 1) := by decide +kernel
theorem dX8_fieldOf_102 : decode cX8_fieldOf 102 = .ok (.aload_n 0, 1) := by decide +kernel
theorem dX8_fieldOf_103 : decode cX8_fieldOf 103 = .ok (.getfield 53, 3) := by decide +kernel
theorem dX8_fieldOf_106 : decode cX8_fieldOf 106 = .ok (.iload_n 1, 1) := by decide +kernel
theorem dX8_fieldOf_107 : decode cX8_fieldOf 107 = .ok (.iaload, 1) := by decide +kernel
theorem dX8_fieldOf_108 : decode cX8_fieldOf 108 = .ok (.ireturn, 1) := by decide +kernel
theorem dX8_fieldOf_109 : decode cX8_fieldOf 109 = .ok (.aload_n 0, 1) := by decide +kernel
theorem dX8_fieldOf_110 : decode cX8_fieldOf 110 = .ok (.getfield 56, 3) := by decide +kernel
theorem dX8_fieldOf_113 : decode cX8_fieldOf 113 = .ok (.iload_n 1, 1) := by decide +kernel
theorem dX8_fieldOf_114 : decode cX8_fieldOf 114 = .ok (.iaload, 1) := by decide +kernel
theorem dX8_fieldOf_115 : decode cX8_fieldOf 115 = .ok (.ireturn, 1) := by decide +kernel
theorem dX8_fieldOf_116 : decode cX8_fieldOf 116 = .ok (.aload_n 0, 1) := by decide +kernel
theorem dX8_fieldOf_117 : decode cX8_fieldOf 117 = .ok (.getfield 59, 3) := by decide +kernel
theorem dX8_fieldOf_120 : decode cX8_fieldOf 120 = .ok (.iload_n 1, 1) := by decide +kernel
theorem dX8_fieldOf_121 : decode cX8_fieldOf 121 = .ok (.iaload, 1) := by decide +kernel
theorem dX8_fieldOf_122 : decode cX8_fieldOf 122 = .ok (.ireturn, 1) := by decide +kernel
theorem dX8_fieldOf_123 : decode cX8_fieldOf 123 = .ok (.iconst (-1), 1) := by decide +kernel
theorem dX8_fieldOf_124 : decode cX8_fieldOf 124 = .ok (.ireturn, 1) := by decide +kernel
theorem dX8_owner_0 : decode cX8_owner 0 = .ok (.iload_n 1, 1) := by decide +kernel
theorem dX8_owner_1 : decode cX8_owner 1 = .ok (.iconst 0, 1) := by decide +kernel
theorem dX8_owner_2 : decode cX8_owner 2 = .ok (.bipush 9, 2) := by decide +kernel
theorem dX8_owner_4 : decode cX8_owner 4 = .ok (.invokestatic 121, 3) := by decide +kernel
theorem dX8_owner_7 : decode cX8_owner 7 = .ok (.ifCond .eq 12, 3) := by decide +kernel
theorem dX8_owner_10 : decode cX8_owner 10 = .ok (.aload_n 0, 1) := by decide +kernel
theorem dX8_owner_11 : decode cX8_owner 11 = .ok (.getfield 65, 3) := by decide +kernel
theorem dX8_owner_14 : decode cX8_owner 14 = .ok (.iload_n 1, 1) := by decide +kernel
theorem dX8_owner_15 : decode cX8_owner 15 = .ok (.iaload, 1) := by decide +kernel
theorem dX8_owner_16 : decode cX8_owner 16 = .ok (.goto 4, 3) := by decide +kernel
theorem dX8_owner_19 : decode cX8_owner 19 = .ok (.iconst (-1), 1) := by decide +kernel
theorem dX8_owner_20 : decode cX8_owner 20 = .ok (.ireturn, 1) := by decide +kernel
theorem dX8_tries_0 : decode cX8_tries 0 = .ok (.iconst 0, 1) := by decide +kernel
theorem dX8_tries_1 : decode cX8_tries 1 = .ok (.istore_n 3, 1) := by decide +kernel
theorem dX8_tries_2 : decode cX8_tries 2 = .ok (.iload_n 3, 1) := by decide +kernel
theorem dX8_tries_3 : decode cX8_tries 3 = .ok (.aload_n 0, 1) := by decide +kernel
theorem dX8_tries_4 : decode cX8_tries 4 = .ok (.getfield 118, 3) := by decide +kernel
theorem dX8_tries_7 : decode cX8_tries 7 = .ok (.if_icmp .ge 33, 3) := by decide +kernel
theorem dX8_tries_10 : decode cX8_tries 10 = .ok (.aload_n 0, 1) := by decide +kernel
theorem dX8_tries_11 : decode cX8_tries 11 = .ok (.getfield 100, 3) := by decide +kernel
theorem dX8_tries_14 : decode cX8_tries 14 = .ok (.iload_n 3, 1) := by decide +kernel
theorem dX8_tries_15 : decode cX8_tries 15 = .ok (.aload_n 0, 1) := by decide +kernel
theorem dX8_tries_16 : decode cX8_tries 16 = .ok (.getfield 19, 3) := by decide +kernel
theorem dX8_tries_19 : decode cX8_tries 19 = .ok (.iload_n 3, 1) := by decide +kernel
theorem dX8_tries_20 : decode cX8_tries 20 = .ok (.iaload, 1) := by decide +kernel
theorem dX8_tries_21 : decode cX8_tries 21 = .ok (.iastore, 1) := by decide +kernel
theorem dX8_tries_22 : decode cX8_tries 22 = .ok (.aload_n 0, 1) := by decide +kernel
theorem dX8_tries_23 : decode cX8_tries 23 = .ok (.getfield 106, 3) := by decide +kernel
theorem dX8_tries_26 : decode cX8_tries 26 = .ok (.iload_n 3, 1) := by decide +kernel
theorem dX8_tries_27 : decode cX8_tries 27 = .ok (.aload_n 0, 1) := by decide +kernel
theorem dX8_tries_28 : decode cX8_tries 28 = .ok (.getfield 37, 3) := by decide +kernel
theorem dX8_tries_31 : decode cX8_tries 31 = .ok (.iload_n 3, 1) := by decide +kernel
theorem dX8_tries_32 : decode cX8_tries 32 = .ok (.baload, 1) := by decide +kernel
theorem dX8_tries_33 : decode cX8_tries 33 = .ok (.bastore, 1) := by decide +kernel
theorem dX8_tries_34 : decode cX8_tries 34 = .ok (.iinc 3 1, 3) := by decide +kernel
theorem dX8_tries_37 : decode cX8_tries 37 = .ok (.goto (-35), 3) := by decide +kernel
theorem dX8_tries_40 : decode cX8_tries 40 = .ok (.iconst 0, 1) := by decide +kernel
theorem dX8_tries_41 : decode cX8_tries 41 = .ok (.istore_n 3, 1) := by decide +kernel
theorem dX8_tries_42 : decode cX8_tries 42 = .ok (.iconst 0, 1) := by decide +kernel
theorem dX8_tries_43 : decode cX8_tries 43 = .ok (.istore 4, 2) := by decide +kernel
theorem dX8_tries_45 : decode cX8_tries 45 = .ok (.iload 4, 2) := by decide +kernel
theorem dX8_tries_47 : decode cX8_tries 47 = .ok (.iload_n 1, 1) := by decide +kernel
theorem dX8_tries_48 : decode cX8_tries 48 = .ok (.if_icmp .ge 30, 3) := by decide +kernel
theorem dX8_tries_51 : decode cX8_tries 51 = .ok (.iload_n 3, 1) := by decide +kernel
theorem dX8_tries_52 : decode cX8_tries 52 = .ok (.aload_n 0, 1) := by decide +kernel
theorem dX8_tries_53 : decode cX8_tries 53 = .ok (.aload_n 0, 1) := by decide +kernel
theorem dX8_tries_54 : decode cX8_tries 54 = .ok (.getfield 100, 3) := by decide +kernel
theorem dX8_tries_57 : decode cX8_tries 57 = .ok (.aload_n 0, 1) := by decide +kernel
theorem dX8_tries_58 : decode cX8_tries 58 = .ok (.getfield 106, 3) := by decide +kernel
theorem dX8_tries_61 : decode cX8_tries 61 = .ok (.aload_n 0, 1) := by decide +kernel
theorem dX8_tries_62 : decode cX8_tries 62 = .ok (.getfield 103, 3) := by decide +kernel
theorem dX8_tries_65 : decode cX8_tries 65 = .ok (.iload_n 2, 1) := by decide +kernel
theorem dX8_tries_66 : decode cX8_tries 66 = .ok (.iconst 0, 1) := by decide +kernel
theorem dX8_tries_67 : decode cX8_tries 67 = .ok (.invokevirtual 232, 3) := by decide +kernel
theorem dX8_tries_70 : decode cX8_tries 70 = .ok (.iadd, 1) := by decide +kernel
theorem dX8_tries_71 : decode cX8_tries 71 = .ok (.istore_n 3, 1) := by decide +kernel
theorem dX8_tries_72 : decode cX8_tries 72 = .ok (.iinc 4 1, 3) := by decide +kernel
theorem dX8_tries_75 : decode cX8_tries 75 = .ok (.goto (-30), 3) := by decide +kernel
theorem dX8_tries_78 : decode cX8_tries 78 = .ok (.iload_n 3, 1) := by decide +kernel
theorem dX8_tries_79 : decode cX8_tries 79 = .ok (.ireturn, 1) := by decide +kernel
theorem dX8_openings_0 : decode cX8_openings 0 = .ok (.iconst 0, 1) := by decide +kernel
theorem dX8_openings_1 : decode cX8_openings 1 = .ok (.istore_n 1, 1) := by decide +kernel
theorem dX8_openings_2 : decode cX8_openings 2 = .ok (.iload_n 1, 1) := by decide +kernel
theorem dX8_openings_3 : decode cX8_openings 3 = .ok (.aload_n 0, 1) := by decide +kernel
theorem dX8_openings_4 : decode cX8_openings 4 = .ok (.getfield 118, 3) := by decide +kernel
theorem dX8_openings_7 : decode cX8_openings 7 = .ok (.if_icmp .ge 21, 3) := by decide +kernel
theorem dX8_openings_10 : decode cX8_openings 10 = .ok (.aload_n 0, 1) := by decide +kernel
theorem dX8_openings_11 : decode cX8_openings 11 = .ok (.getfield 103, 3) := by decide +kernel
theorem dX8_openings_14 : decode cX8_openings 14 = .ok (.iload_n 1, 1) := by decide +kernel
theorem dX8_openings_15 : decode cX8_openings 15 = .ok (.aload_n 0, 1) := by decide +kernel
theorem dX8_openings_16 : decode cX8_openings 16 = .ok (.getfield 22, 3) := by decide +kernel
theorem dX8_openings_19 : decode cX8_openings 19 = .ok (.iload_n 1, 1) := by decide +kernel
theorem dX8_openings_20 : decode cX8_openings 20 = .ok (.iaload, 1) := by decide +kernel
theorem dX8_openings_21 : decode cX8_openings 21 = .ok (.iastore, 1) := by decide +kernel
theorem dX8_openings_22 : decode cX8_openings 22 = .ok (.iinc 1 1, 3) := by decide +kernel
theorem dX8_openings_25 : decode cX8_openings 25 = .ok (.goto (-23), 3) := by decide +kernel
theorem dX8_openings_28 : decode cX8_openings 28 = .ok (.return_, 1) := by decide +kernel
theorem dX8_isTrial_0 : decode cX8_isTrial 0 = .ok (.iload_n 0, 1) := by decide +kernel
theorem dX8_isTrial_1 : decode cX8_isTrial 1 = .ok (.iconst 1, 1) := by decide +kernel
theorem dX8_isTrial_2 : decode cX8_isTrial 2 = .ok (.bipush 10, 2) := by decide +kernel
theorem dX8_isTrial_4 : decode cX8_isTrial 4 = .ok (.invokestatic 121, 3) := by decide +kernel
theorem dX8_isTrial_7 : decode cX8_isTrial 7 = .ok (.ifCond .eq 17, 3) := by decide +kernel
theorem dX8_isTrial_10 : decode cX8_isTrial 10 = .ok (.iload_n 1, 1) := by decide +kernel
theorem dX8_isTrial_11 : decode cX8_isTrial 11 = .ok (.iconst 0, 1) := by decide +kernel
theorem dX8_isTrial_12 : decode cX8_isTrial 12 = .ok (.bipush 50, 2) := by decide +kernel
theorem dX8_isTrial_14 : decode cX8_isTrial 14 = .ok (.invokestatic 121, 3) := by decide +kernel
theorem dX8_isTrial_17 : decode cX8_isTrial 17 = .ok (.ifCond .eq 7, 3) := by decide +kernel
theorem dX8_isTrial_20 : decode cX8_isTrial 20 = .ok (.iconst 1, 1) := by decide +kernel
theorem dX8_isTrial_21 : decode cX8_isTrial 21 = .ok (.goto 4, 3) := by decide +kernel
theorem dX8_isTrial_24 : decode cX8_isTrial 24 = .ok (.iconst 0, 1) := by decide +kernel
theorem dX8_isTrial_25 : decode cX8_isTrial 25 = .ok (.ireturn, 1) := by decide +kernel
theorem dX8_tried_0 : decode cX8_tried 0 = .ok (.aload_n 0, 1) := by decide +kernel
theorem dX8_tried_1 : decode cX8_tried 1 = .ok (.iload_n 1, 1) := by decide +kernel
theorem dX8_tried_2 : decode cX8_tried 2 = .ok (.invokevirtual 125, 3) := by decide +kernel
theorem dX8_tried_5 : decode cX8_tried 5 = .ok (.ifCond .eq 11, 3) := by decide +kernel
theorem dX8_tried_8 : decode cX8_tried 8 = .ok (.iload_n 2, 1) := by decide +kernel
theorem dX8_tried_9 : decode cX8_tried 9 = .ok (.iload_n 3, 1) := by decide +kernel
theorem dX8_tried_10 : decode cX8_tried 10 = .ok (.invokestatic 236, 3) := by decide +kernel
theorem dX8_tried_13 : decode cX8_tried 13 = .ok (.ifCond .ne 5, 3) := by decide +kernel
theorem dX8_tried_16 : decode cX8_tried 16 = .ok (.iconst (-1), 1) := by decide +kernel
theorem dX8_tried_17 : decode cX8_tried 17 = .ok (.ireturn, 1) := by decide +kernel
theorem dX8_tried_18 : decode cX8_tried 18 = .ok (.aload_n 0, 1) := by decide +kernel
theorem dX8_tried_19 : decode cX8_tried 19 = .ok (.invokevirtual 239, 3) := by decide +kernel
theorem dX8_tried_22 : decode cX8_tried 22 = .ok (.aload_n 0, 1) := by decide +kernel
theorem dX8_tried_23 : decode cX8_tried 23 = .ok (.iload_n 2, 1) := by decide +kernel
theorem dX8_tried_24 : decode cX8_tried 24 = .ok (.iload_n 3, 1) := by decide +kernel
theorem dX8_tried_25 : decode cX8_tried 25 = .ok (.invokevirtual 242, 3) := by decide +kernel
theorem dX8_tried_28 : decode cX8_tried 28 = .ok (.pop, 1) := by decide +kernel
theorem dX8_tried_29 : decode cX8_tried 29 = .ok (.aload_n 0, 1) := by decide +kernel
theorem dX8_tried_30 : decode cX8_tried 30 = .ok (.getfield 100, 3) := by decide +kernel
theorem dX8_tried_33 : decode cX8_tried 33 = .ok (.iload_n 1, 1) := by decide +kernel
theorem dX8_tried_34 : decode cX8_tried 34 = .ok (.iaload, 1) := by decide +kernel
theorem dX8_tried_35 : decode cX8_tried 35 = .ok (.ireturn, 1) := by decide +kernel
theorem dX8_lost_0 : decode cX8_lost 0 = .ok (.aload_n 0, 1) := by decide +kernel
theorem dX8_lost_1 : decode cX8_lost 1 = .ok (.iload_n 1, 1) := by decide +kernel
theorem dX8_lost_2 : decode cX8_lost 2 = .ok (.invokevirtual 125, 3) := by decide +kernel
theorem dX8_lost_5 : decode cX8_lost 5 = .ok (.ifCond .eq 25, 3) := by decide +kernel
theorem dX8_lost_8 : decode cX8_lost 8 = .ok (.aload_n 0, 1) := by decide +kernel
theorem dX8_lost_9 : decode cX8_lost 9 = .ok (.iload_n 2, 1) := by decide +kernel
theorem dX8_lost_10 : decode cX8_lost 10 = .ok (.invokevirtual 125, 3) := by decide +kernel
theorem dX8_lost_13 : decode cX8_lost 13 = .ok (.ifCond .eq 17, 3) := by decide +kernel
theorem dX8_lost_16 : decode cX8_lost 16 = .ok (.iload_n 1, 1) := by decide +kernel
theorem dX8_lost_17 : decode cX8_lost 17 = .ok (.iload_n 2, 1) := by decide +kernel
theorem dX8_lost_18 : decode cX8_lost 18 = .ok (.if_icmp .ge 12, 3) := by decide +kernel
theorem dX8_lost_21 : decode cX8_lost 21 = .ok (.iload_n 3, 1) := by decide +kernel
theorem dX8_lost_22 : decode cX8_lost 22 = .ok (.iload 4, 2) := by decide +kernel
theorem dX8_lost_24 : decode cX8_lost 24 = .ok (.invokestatic 236, 3) := by decide +kernel
theorem dX8_lost_27 : decode cX8_lost 27 = .ok (.ifCond .ne 6, 3) := by decide +kernel
theorem dX8_lost_30 : decode cX8_lost 30 = .ok (.ldc 245, 2) := by decide +kernel
theorem dX8_lost_32 : decode cX8_lost 32 = .ok (.ireturn, 1) := by decide +kernel
theorem dX8_lost_33 : decode cX8_lost 33 = .ok (.aload_n 0, 1) := by decide +kernel
theorem dX8_lost_34 : decode cX8_lost 34 = .ok (.invokevirtual 239, 3) := by decide +kernel
theorem dX8_lost_37 : decode cX8_lost 37 = .ok (.aload_n 0, 1) := by decide +kernel
theorem dX8_lost_38 : decode cX8_lost 38 = .ok (.iload_n 3, 1) := by decide +kernel
theorem dX8_lost_39 : decode cX8_lost 39 = .ok (.iload 4, 2) := by decide +kernel
theorem dX8_lost_41 : decode cX8_lost 41 = .ok (.invokevirtual 242, 3) := by decide +kernel
theorem dX8_lost_44 : decode cX8_lost 44 = .ok (.pop, 1) := by decide +kernel
theorem dX8_lost_45 : decode cX8_lost 45 = .ok (.aload_n 0, 1) := by decide +kernel
theorem dX8_lost_46 : decode cX8_lost 46 = .ok (.getfield 100, 3) := by decide +kernel
theorem dX8_lost_49 : decode cX8_lost 49 = .ok (.iload_n 2, 1) := by decide +kernel
theorem dX8_lost_50 : decode cX8_lost 50 = .ok (.iaload, 1) := by decide +kernel
theorem dX8_lost_51 : decode cX8_lost 51 = .ok (.istore 5, 2) := by decide +kernel
theorem dX8_lost_53 : decode cX8_lost 53 = .ok (.aload_n 0, 1) := by decide +kernel
theorem dX8_lost_54 : decode cX8_lost 54 = .ok (.getfield 103, 3) := by decide +kernel
theorem dX8_lost_57 : decode cX8_lost 57 = .ok (.iload_n 1, 1) := by decide +kernel
theorem dX8_lost_58 : decode cX8_lost 58 = .ok (.iconst 0, 1) := by decide +kernel
theorem dX8_lost_59 : decode cX8_lost 59 = .ok (.iastore, 1) := by decide +kernel
theorem dX8_lost_60 : decode cX8_lost 60 = .ok (.aload_n 0, 1) := by decide +kernel
theorem dX8_lost_61 : decode cX8_lost 61 = .ok (.iload_n 3, 1) := by decide +kernel
theorem dX8_lost_62 : decode cX8_lost 62 = .ok (.iload 4, 2) := by decide +kernel
theorem dX8_lost_64 : decode cX8_lost 64 = .ok (.invokevirtual 242, 3) := by decide +kernel
theorem dX8_lost_67 : decode cX8_lost 67 = .ok (.pop, 1) := by decide +kernel
theorem dX8_lost_68 : decode cX8_lost 68 = .ok (.aload_n 0, 1) := by decide +kernel
theorem dX8_lost_69 : decode cX8_lost 69 = .ok (.getfield 100, 3) := by decide +kernel
theorem dX8_lost_72 : decode cX8_lost 72 = .ok (.iload_n 2, 1) := by decide +kernel
theorem dX8_lost_73 : decode cX8_lost 73 = .ok (.iaload, 1) := by decide +kernel
theorem dX8_lost_74 : decode cX8_lost 74 = .ok (.iload 5, 2) := by decide +kernel
theorem dX8_lost_76 : decode cX8_lost 76 = .ok (.isub, 1) := by decide +kernel
theorem dX8_lost_77 : decode cX8_lost 77 = .ok (.ireturn, 1) := by decide +kernel
theorem dX8_most_0 : decode cX8_most 0 = .ok (.iload_n 2, 1) := by decide +kernel
theorem dX8_most_1 : decode cX8_most 1 = .ok (.iconst 1, 1) := by decide +kernel
theorem dX8_most_2 : decode cX8_most 2 = .ok (.iconst 3, 1) := by decide +kernel
theorem dX8_most_3 : decode cX8_most 3 = .ok (.invokestatic 121, 3) := by decide +kernel
theorem dX8_most_6 : decode cX8_most 6 = .ok (.ifCond .eq 36, 3) := by decide +kernel
theorem dX8_most_9 : decode cX8_most 9 = .ok (.iload_n 1, 1) := by decide +kernel
theorem dX8_most_10 : decode cX8_most 10 = .ok (.iconst 0, 1) := by decide +kernel
theorem dX8_most_11 : decode cX8_most 11 = .ok (.aload_n 0, 1) := by decide +kernel
theorem dX8_most_12 : decode cX8_most 12 = .ok (.getfield 118, 3) := by decide +kernel
theorem dX8_most_15 : decode cX8_most 15 = .ok (.iload_n 2, 1) := by decide +kernel
theorem dX8_most_16 : decode cX8_most 16 = .ok (.isub, 1) := by decide +kernel
theorem dX8_most_17 : decode cX8_most 17 = .ok (.invokestatic 121, 3) := by decide +kernel
theorem dX8_most_20 : decode cX8_most 20 = .ok (.ifCond .eq 22, 3) := by decide +kernel
theorem dX8_most_23 : decode cX8_most 23 = .ok (.iload_n 3, 1) := by decide +kernel
theorem dX8_most_24 : decode cX8_most 24 = .ok (.iload 4, 2) := by decide +kernel
theorem dX8_most_26 : decode cX8_most 26 = .ok (.invokestatic 236, 3) := by decide +kernel
theorem dX8_most_29 : decode cX8_most 29 = .ok (.ifCond .eq 13, 3) := by decide +kernel
theorem dX8_most_32 : decode cX8_most 32 = .ok (.iload 5, 2) := by decide +kernel
theorem dX8_most_34 : decode cX8_most 34 = .ok (.iconst 0, 1) := by decide +kernel
theorem dX8_most_35 : decode cX8_most 35 = .ok (.iload_n 2, 1) := by decide +kernel
theorem dX8_most_36 : decode cX8_most 36 = .ok (.invokestatic 121, 3) := by decide +kernel
theorem dX8_most_39 : decode cX8_most 39 = .ok (.ifCond .ne 5, 3) := by decide +kernel
theorem dX8_most_42 : decode cX8_most 42 = .ok (.iconst (-1), 1) := by decide +kernel
theorem dX8_most_43 : decode cX8_most 43 = .ok (.ireturn, 1) := by decide +kernel
theorem dX8_most_44 : decode cX8_most 44 = .ok (.aload_n 0, 1) := by decide +kernel
theorem dX8_most_45 : decode cX8_most 45 = .ok (.invokevirtual 239, 3) := by decide +kernel
theorem dX8_most_48 : decode cX8_most 48 = .ok (.iload_n 2, 1) := by decide +kernel
theorem dX8_most_49 : decode cX8_most 49 = .ok (.iconst 1, 1) := by decide +kernel
theorem dX8_most_50 : decode cX8_most 50 = .ok (.if_icmp .ne 7, 3) := by decide +kernel
theorem dX8_most_53 : decode cX8_most 53 = .ok (.iconst 5, 1) := by decide +kernel
theorem dX8_most_54 : decode cX8_most 54 = .ok (.goto 15, 3) := by decide +kernel
theorem dX8_most_57 : decode cX8_most 57 = .ok (.iload_n 2, 1) := by decide +kernel
theorem dX8_most_58 : decode cX8_most 58 = .ok (.iconst 2, 1) := by decide +kernel
theorem dX8_most_59 : decode cX8_most 59 = .ok (.if_icmp .ne 8, 3) := by decide +kernel
theorem dX8_most_62 : decode cX8_most 62 = .ok (.bipush 25, 2) := by decide +kernel
theorem dX8_most_64 : decode cX8_most 64 = .ok (.goto 5, 3) := by decide +kernel
theorem dX8_most_67 : decode cX8_most 67 = .ok (.bipush 125, 2) := by decide +kernel
theorem dX8_most_69 : decode cX8_most 69 = .ok (.istore 6, 2) := by decide +kernel
theorem dX8_most_71 : decode cX8_most 71 = .ok (.iconst (-1), 1) := by decide +kernel
theorem dX8_most_72 : decode cX8_most 72 = .ok (.istore 7, 2) := by decide +kernel
theorem dX8_most_74 : decode cX8_most 74 = .ok (.iconst 0, 1) := by decide +kernel
theorem dX8_most_75 : decode cX8_most 75 = .ok (.istore 8, 2) := by decide +kernel
theorem dX8_most_77 : decode cX8_most 77 = .ok (.iconst 0, 1) := by decide +kernel
theorem dX8_most_78 : decode cX8_most 78 = .ok (.istore 9, 2) := by decide +kernel
theorem dX8_most_80 : decode cX8_most 80 = .ok (.iload 9, 2) := by decide +kernel
theorem dX8_most_82 : decode cX8_most 82 = .ok (.iload 6, 2) := by decide +kernel
theorem dX8_most_84 : decode cX8_most 84 = .ok (.if_icmp .ge 83, 3) := by decide +kernel
theorem dX8_most_87 : decode cX8_most 87 = .ok (.iload 9, 2) := by decide +kernel
theorem dX8_most_89 : decode cX8_most 89 = .ok (.istore 10, 2) := by decide +kernel
theorem dX8_most_91 : decode cX8_most 91 = .ok (.iload_n 2, 1) := by decide +kernel
theorem dX8_most_92 : decode cX8_most 92 = .ok (.iconst 1, 1) := by decide +kernel
theorem dX8_most_93 : decode cX8_most 93 = .ok (.isub, 1) := by decide +kernel
theorem dX8_most_94 : decode cX8_most 94 = .ok (.istore 11, 2) := by decide +kernel
theorem dX8_most_96 : decode cX8_most 96 = .ok (.iload 11, 2) := by decide +kernel
theorem dX8_most_98 : decode cX8_most 98 = .ok (.ifCond .lt 30, 3) := by decide +kernel
theorem dX8_most_101 : decode cX8_most 101 = .ok (.aload_n 0, 1) := by decide +kernel
theorem dX8_most_102 : decode cX8_most 102 = .ok (.getfield 103, 3) := by decide +kernel
theorem dX8_most_105 : decode cX8_most 105 = .ok (.iload_n 1, 1) := by decide +kernel
theorem dX8_most_106 : decode cX8_most 106 = .ok (.iload 11, 2) := by decide +kernel
theorem dX8_most_108 : decode cX8_most 108 = .ok (.iadd, 1) := by decide +kernel
theorem dX8_most_109 : decode cX8_most 109 = .ok (.iconst 5, 1) := by decide +kernel
theorem dX8_most_110 : decode cX8_most 110 = .ok (.iload 10, 2) := by decide +kernel
theorem dX8_most_112 : decode cX8_most 112 = .ok (.iconst 5, 1) := by decide +kernel
theorem dX8_most_113 : decode cX8_most 113 = .ok (.irem, 1) := by decide +kernel
theorem dX8_most_114 : decode cX8_most 114 = .ok (.imul, 1) := by decide +kernel
theorem dX8_most_115 : decode cX8_most 115 = .ok (.iastore, 1) := by decide +kernel
theorem dX8_most_116 : decode cX8_most 116 = .ok (.iload 10, 2) := by decide +kernel
theorem dX8_most_118 : decode cX8_most 118 = .ok (.iconst 5, 1) := by decide +kernel
theorem dX8_most_119 : decode cX8_most 119 = .ok (.idiv, 1) := by decide +kernel
theorem dX8_most_120 : decode cX8_most 120 = .ok (.istore 10, 2) := by decide +kernel
theorem dX8_most_122 : decode cX8_most 122 = .ok (.iinc 11 (-1), 3) := by decide +kernel
theorem dX8_most_125 : decode cX8_most 125 = .ok (.goto (-29), 3) := by decide +kernel
theorem dX8_most_128 : decode cX8_most 128 = .ok (.aload_n 0, 1) := by decide +kernel
theorem dX8_most_129 : decode cX8_most 129 = .ok (.iload_n 3, 1) := by decide +kernel
theorem dX8_most_130 : decode cX8_most 130 = .ok (.iload 4, 2) := by decide +kernel
theorem dX8_most_132 : decode cX8_most 132 = .ok (.invokevirtual 242, 3) := by decide +kernel
theorem dX8_most_135 : decode cX8_most 135 = .ok (.istore 11, 2) := by decide +kernel
theorem dX8_most_137 : decode cX8_most 137 = .ok (.iload 7, 2) := by decide +kernel
theorem dX8_most_139 : decode cX8_most 139 = .ok (.iconst (-1), 1) := by decide +kernel
theorem dX8_most_140 : decode cX8_most 140 = .ok (.if_icmp .eq 13, 3) := by decide +kernel
theorem dX8_most_143 : decode cX8_most 143 = .ok (.iload 11, 2) := by decide +kernel
theorem dX8_most_145 : decode cX8_most 145 = .ok (.iload 7, 2) := by decide +kernel
theorem dX8_most_147 : decode cX8_most 147 = .ok (.if_icmp .gt 6, 3) := by decide +kernel
theorem dX8_most_150 : decode cX8_most 150 = .ok (.goto 11, 3) := by decide +kernel
theorem dX8_most_153 : decode cX8_most 153 = .ok (.iload 11, 2) := by decide +kernel
theorem dX8_most_155 : decode cX8_most 155 = .ok (.istore 7, 2) := by decide +kernel
theorem dX8_most_157 : decode cX8_most 157 = .ok (.iload 9, 2) := by decide +kernel
theorem dX8_most_159 : decode cX8_most 159 = .ok (.istore 8, 2) := by decide +kernel
theorem dX8_most_161 : decode cX8_most 161 = .ok (.iinc 9 1, 3) := by decide +kernel
theorem dX8_most_164 : decode cX8_most 164 = .ok (.goto (-84), 3) := by decide +kernel
theorem dX8_most_167 : decode cX8_most 167 = .ok (.iload 5, 2) := by decide +kernel
theorem dX8_most_169 : decode cX8_most 169 = .ok (.ifCond .ne 6, 3) := by decide +kernel
theorem dX8_most_172 : decode cX8_most 172 = .ok (.iload 7, 2) := by decide +kernel
theorem dX8_most_174 : decode cX8_most 174 = .ok (.ireturn, 1) := by decide +kernel
theorem dX8_most_175 : decode cX8_most 175 = .ok (.iload 5, 2) := by decide +kernel
theorem dX8_most_177 : decode cX8_most 177 = .ok (.istore 9, 2) := by decide +kernel
theorem dX8_most_179 : decode cX8_most 179 = .ok (.iload 9, 2) := by decide +kernel
theorem dX8_most_181 : decode cX8_most 181 = .ok (.iload_n 2, 1) := by decide +kernel
theorem dX8_most_182 : decode cX8_most 182 = .ok (.if_icmp .ge 15, 3) := by decide +kernel
theorem dX8_most_185 : decode cX8_most 185 = .ok (.iload 8, 2) := by decide +kernel
theorem dX8_most_187 : decode cX8_most 187 = .ok (.iconst 5, 1) := by decide +kernel
theorem dX8_most_188 : decode cX8_most 188 = .ok (.idiv, 1) := by decide +kernel
theorem dX8_most_189 : decode cX8_most 189 = .ok (.istore 8, 2) := by decide +kernel
theorem dX8_most_191 : decode cX8_most 191 = .ok (.iinc 9 1, 3) := by decide +kernel
theorem dX8_most_194 : decode cX8_most 194 = .ok (.goto (-15), 3) := by decide +kernel
theorem dX8_most_197 : decode cX8_most 197 = .ok (.iconst 5, 1) := by decide +kernel
theorem dX8_most_198 : decode cX8_most 198 = .ok (.iload 8, 2) := by decide +kernel
theorem dX8_most_200 : decode cX8_most 200 = .ok (.iconst 5, 1) := by decide +kernel
theorem dX8_most_201 : decode cX8_most 201 = .ok (.irem, 1) := by decide +kernel
theorem dX8_most_202 : decode cX8_most 202 = .ok (.imul, 1) := by decide +kernel
theorem dX8_most_203 : decode cX8_most 203 = .ok (.ireturn, 1) := by decide +kernel
theorem dX8_breach_0 : decode cX8_breach 0 = .ok (.iload_n 1, 1) := by decide +kernel
theorem dX8_breach_1 : decode cX8_breach 1 = .ok (.ifCond .ne 10, 3) := by decide +kernel
theorem dX8_breach_4 : decode cX8_breach 4 = .ok (.aload_n 0, 1) := by decide +kernel
theorem dX8_breach_5 : decode cX8_breach 5 = .ok (.getfield 68, 3) := by decide +kernel
theorem dX8_breach_8 : decode cX8_breach 8 = .ok (.goto 28, 3) := by decide +kernel
theorem dX8_breach_11 : decode cX8_breach 11 = .ok (.iload_n 1, 1) := by decide +kernel
theorem dX8_breach_12 : decode cX8_breach 12 = .ok (.iconst 1, 1) := by decide +kernel
theorem dX8_breach_13 : decode cX8_breach 13 = .ok (.if_icmp .ne 10, 3) := by decide +kernel
theorem dX8_breach_16 : decode cX8_breach 16 = .ok (.aload_n 0, 1) := by decide +kernel
theorem dX8_breach_17 : decode cX8_breach 17 = .ok (.getfield 72, 3) := by decide +kernel
theorem dX8_breach_20 : decode cX8_breach 20 = .ok (.goto 16, 3) := by decide +kernel
theorem dX8_breach_23 : decode cX8_breach 23 = .ok (.iload_n 1, 1) := by decide +kernel
theorem dX8_breach_24 : decode cX8_breach 24 = .ok (.iconst 2, 1) := by decide +kernel
theorem dX8_breach_25 : decode cX8_breach 25 = .ok (.if_icmp .ne 10, 3) := by decide +kernel
theorem dX8_breach_28 : decode cX8_breach 28 = .ok (.aload_n 0, 1) := by decide +kernel
theorem dX8_breach_29 : decode cX8_breach 29 = .ok (.getfield 75, 3) := by decide +kernel
theorem dX8_breach_32 : decode cX8_breach 32 = .ok (.goto 4, 3) := by decide +kernel
theorem dX8_breach_35 : decode cX8_breach 35 = .ok (.iconst (-1), 1) := by decide +kernel
theorem dX8_breach_36 : decode cX8_breach 36 = .ok (.ireturn, 1) := by decide +kernel
theorem dX8_count_0 : decode cX8_count 0 = .ok (.iload_n 1, 1) := by decide +kernel
theorem dX8_count_1 : decode cX8_count 1 = .ok (.tableswitch 129 0 9 #[55, 60, 65, 70, 99, 104, 109, 114, 119, 124], 55) := by decide +kernel
theorem dX8_count_56 : decode cX8_count 56 = .ok (.aload_n 0, 1) := by decide +kernel
theorem dX8_count_57 : decode cX8_count 57 = .ok (.getfield 129, 3) := by decide +kernel
theorem dX8_count_60 : decode cX8_count 60 = .ok (.ireturn, 1) := by decide +kernel
theorem dX8_count_61 : decode cX8_count 61 = .ok (.aload_n 0, 1) := by decide +kernel
theorem dX8_count_62 : decode cX8_count 62 = .ok (.getfield 118, 3) := by decide +kernel
theorem dX8_count_65 : decode cX8_count 65 = .ok (.ireturn, 1) := by decide +kernel
theorem dX8_count_66 : decode cX8_count 66 = .ok (.aload_n 0, 1) := by decide +kernel
theorem dX8_count_67 : decode cX8_count 67 = .ok (.getfield 139, 3) := by decide +kernel
theorem dX8_count_70 : decode cX8_count 70 = .ok (.ireturn, 1) := by decide +kernel
theorem dX8_count_71 : decode cX8_count 71 = .ok (.iconst 0, 1) := by decide +kernel
theorem dX8_count_72 : decode cX8_count 72 = .ok (.istore_n 2, 1) := by decide +kernel
theorem dX8_count_73 : decode cX8_count 73 = .ok (.iconst 0, 1) := by decide +kernel
theorem dX8_count_74 : decode cX8_count 74 = .ok (.istore_n 3, 1) := by decide +kernel
theorem dX8_count_75 : decode cX8_count 75 = .ok (.iload_n 3, 1) := by decide +kernel
theorem dX8_count_76 : decode cX8_count 76 = .ok (.aload_n 0, 1) := by decide +kernel
theorem dX8_count_77 : decode cX8_count 77 = .ok (.getfield 118, 3) := by decide +kernel
theorem dX8_count_80 : decode cX8_count 80 = .ok (.if_icmp .ge 18, 3) := by decide +kernel
theorem dX8_count_83 : decode cX8_count 83 = .ok (.iload_n 2, 1) := by decide +kernel
theorem dX8_count_84 : decode cX8_count 84 = .ok (.aload_n 0, 1) := by decide +kernel
theorem dX8_count_85 : decode cX8_count 85 = .ok (.getfield 19, 3) := by decide +kernel
theorem dX8_count_88 : decode cX8_count 88 = .ok (.iload_n 3, 1) := by decide +kernel
theorem dX8_count_89 : decode cX8_count 89 = .ok (.iaload, 1) := by decide +kernel
theorem dX8_count_90 : decode cX8_count 90 = .ok (.iadd, 1) := by decide +kernel
theorem dX8_count_91 : decode cX8_count 91 = .ok (.istore_n 2, 1) := by decide +kernel
theorem dX8_count_92 : decode cX8_count 92 = .ok (.iinc 3 1, 3) := by decide +kernel
theorem dX8_count_95 : decode cX8_count 95 = .ok (.goto (-20), 3) := by decide +kernel
theorem dX8_count_98 : decode cX8_count 98 = .ok (.iload_n 2, 1) := by decide +kernel
theorem dX8_count_99 : decode cX8_count 99 = .ok (.ireturn, 1) := by decide +kernel
theorem dX8_count_100 : decode cX8_count 100 = .ok (.aload_n 0, 1) := by decide +kernel
theorem dX8_count_101 : decode cX8_count 101 = .ok (.getfield 226, 3) := by decide +kernel
theorem dX8_count_104 : decode cX8_count 104 = .ok (.ireturn, 1) := by decide +kernel
theorem dX8_count_105 : decode cX8_count 105 = .ok (.aload_n 0, 1) := by decide +kernel
theorem dX8_count_106 : decode cX8_count 106 = .ok (.getfield 217, 3) := by decide +kernel
theorem dX8_count_109 : decode cX8_count 109 = .ok (.ireturn, 1) := by decide +kernel
theorem dX8_count_110 : decode cX8_count 110 = .ok (.aload_n 0, 1) := by decide +kernel
theorem dX8_count_111 : decode cX8_count 111 = .ok (.getfield 220, 3) := by decide +kernel
theorem dX8_count_114 : decode cX8_count 114 = .ok (.ireturn, 1) := by decide +kernel
theorem dX8_count_115 : decode cX8_count 115 = .ok (.aload_n 0, 1) := by decide +kernel
theorem dX8_count_116 : decode cX8_count 116 = .ok (.getfield 223, 3) := by decide +kernel
theorem dX8_count_119 : decode cX8_count 119 = .ok (.ireturn, 1) := by decide +kernel
theorem dX8_count_120 : decode cX8_count 120 = .ok (.aload_n 0, 1) := by decide +kernel
theorem dX8_count_121 : decode cX8_count 121 = .ok (.getfield 146, 3) := by decide +kernel
theorem dX8_count_124 : decode cX8_count 124 = .ok (.ireturn, 1) := by decide +kernel
theorem dX8_count_125 : decode cX8_count 125 = .ok (.aload_n 0, 1) := by decide +kernel
theorem dX8_count_126 : decode cX8_count 126 = .ok (.getfield 136, 3) := by decide +kernel
theorem dX8_count_129 : decode cX8_count 129 = .ok (.ireturn, 1) := by decide +kernel
theorem dX8_count_130 : decode cX8_count 130 = .ok (.iconst (-1), 1) := by decide +kernel
theorem dX8_count_131 : decode cX8_count 131 = .ok (.ireturn, 1) := by decide +kernel
