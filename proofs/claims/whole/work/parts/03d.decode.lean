theorem dX8_init_0 : decode cX8_init 0 = .ok (.aload_n 0, 1) := by decide +kernel
theorem dX8_init_1 : decode cX8_init 1 = .ok (.invokespecial 1, 3) := by decide +kernel
theorem dX8_init_4 : decode cX8_init 4 = .ok (.aload_n 0, 1) := by decide +kernel
theorem dX8_init_5 : decode cX8_init 5 = .ok (.iconst 3, 1) := by decide +kernel
theorem dX8_init_6 : decode cX8_init 6 = .ok (.newarray .int, 2) := by decide +kernel
theorem dX8_init_8 : decode cX8_init 8 = .ok (.putfield 7, 3) := by decide +kernel
theorem dX8_init_11 : decode cX8_init 11 = .ok (.aload_n 0, 1) := by decide +kernel
theorem dX8_init_12 : decode cX8_init 12 = .ok (.bipush 18, 2) := by decide +kernel
theorem dX8_init_14 : decode cX8_init 14 = .ok (.newarray .int, 2) := by decide +kernel
theorem dX8_init_16 : decode cX8_init 16 = .ok (.putfield 13, 3) := by decide +kernel
theorem dX8_init_19 : decode cX8_init 19 = .ok (.aload_n 0, 1) := by decide +kernel
theorem dX8_init_20 : decode cX8_init 20 = .ok (.bipush 6, 2) := by decide +kernel
theorem dX8_init_22 : decode cX8_init 22 = .ok (.newarray .int, 2) := by decide +kernel
theorem dX8_init_24 : decode cX8_init 24 = .ok (.putfield 16, 3) := by decide +kernel
theorem dX8_init_27 : decode cX8_init 27 = .ok (.aload_n 0, 1) := by decide +kernel
theorem dX8_init_28 : decode cX8_init 28 = .ok (.bipush 6, 2) := by decide +kernel
theorem dX8_init_30 : decode cX8_init 30 = .ok (.newarray .int, 2) := by decide +kernel
theorem dX8_init_32 : decode cX8_init 32 = .ok (.putfield 19, 3) := by decide +kernel
theorem dX8_init_35 : decode cX8_init 35 = .ok (.aload_n 0, 1) := by decide +kernel
theorem dX8_init_36 : decode cX8_init 36 = .ok (.bipush 6, 2) := by decide +kernel
theorem dX8_init_38 : decode cX8_init 38 = .ok (.newarray .int, 2) := by decide +kernel
theorem dX8_init_40 : decode cX8_init 40 = .ok (.putfield 22, 3) := by decide +kernel
theorem dX8_init_43 : decode cX8_init 43 = .ok (.aload_n 0, 1) := by decide +kernel
theorem dX8_init_44 : decode cX8_init 44 = .ok (.bipush 6, 2) := by decide +kernel
theorem dX8_init_46 : decode cX8_init 46 = .ok (.newarray .int, 2) := by decide +kernel
theorem dX8_init_48 : decode cX8_init 48 = .ok (.putfield 25, 3) := by decide +kernel
theorem dX8_init_51 : decode cX8_init 51 = .ok (.aload_n 0, 1) := by decide +kernel
theorem dX8_init_52 : decode cX8_init 52 = .ok (.bipush 36, 2) := by decide +kernel
theorem dX8_init_54 : decode cX8_init 54 = .ok (.newarray .int, 2) := by decide +kernel
theorem dX8_init_56 : decode cX8_init 56 = .ok (.putfield 28, 3) := by decide +kernel
theorem dX8_init_59 : decode cX8_init 59 = .ok (.aload_n 0, 1) := by decide +kernel
theorem dX8_init_60 : decode cX8_init 60 = .ok (.bipush 6, 2) := by decide +kernel
theorem dX8_init_62 : decode cX8_init 62 = .ok (.newarray .int, 2) := by decide +kernel
theorem dX8_init_64 : decode cX8_init 64 = .ok (.putfield 31, 3) := by decide +kernel
theorem dX8_init_67 : decode cX8_init 67 = .ok (.aload_n 0, 1) := by decide +kernel
theorem dX8_init_68 : decode cX8_init 68 = .ok (.bipush 6, 2) := by decide +kernel
theorem dX8_init_70 : decode cX8_init 70 = .ok (.newarray .int, 2) := by decide +kernel
theorem dX8_init_72 : decode cX8_init 72 = .ok (.putfield 34, 3) := by decide +kernel
theorem dX8_init_75 : decode cX8_init 75 = .ok (.aload_n 0, 1) := by decide +kernel
theorem dX8_init_76 : decode cX8_init 76 = .ok (.bipush 6, 2) := by decide +kernel
theorem dX8_init_78 : decode cX8_init 78 = .ok (.newarray .int, 2) := by decide +kernel
theorem dX8_init_80 : decode cX8_init 80 = .ok (.putfield 37, 3) := by decide +kernel
theorem dX8_init_83 : decode cX8_init 83 = .ok (.aload_n 0, 1) := by decide +kernel
theorem dX8_init_84 : decode cX8_init 84 = .ok (.bipush 6, 2) := by decide +kernel
theorem dX8_init_86 : decode cX8_init 86 = .ok (.newarray .int, 2) := by decide +kernel
theorem dX8_init_88 : decode cX8_init 88 = .ok (.putfield 40, 3) := by decide +kernel
theorem dX8_init_91 : decode cX8_init 91 = .ok (.aload_n 0, 1) := by decide +kernel
theorem dX8_init_92 : decode cX8_init 92 = .ok (.bipush 6, 2) := by decide +kernel
theorem dX8_init_94 : decode cX8_init 94 = .ok (.newarray .int, 2) := by decide +kernel
theorem dX8_init_96 : decode cX8_init 96 = .ok (.putfield 43, 3) := by decide +kernel
theorem dX8_init_99 : decode cX8_init 99 = .ok (.aload_n 0, 1) := by decide +kernel
theorem dX8_init_100 : decode cX8_init 100 = .ok (.sipush 500, 3) := by decide +kernel
theorem dX8_init_103 : decode cX8_init 103 = .ok (.newarray .int, 2) := by decide +kernel
theorem dX8_init_105 : decode cX8_init 105 = .ok (.putfield 46, 3) := by decide +kernel
theorem dX8_init_108 : decode cX8_init 108 = .ok (.aload_n 0, 1) := by decide +kernel
theorem dX8_init_109 : decode cX8_init 109 = .ok (.iconst (-1), 1) := by decide +kernel
theorem dX8_init_110 : decode cX8_init 110 = .ok (.putfield 49, 3) := by decide +kernel
theorem dX8_init_113 : decode cX8_init 113 = .ok (.aload_n 0, 1) := by decide +kernel
theorem dX8_init_114 : decode cX8_init 114 = .ok (.iconst 3, 1) := by decide +kernel
theorem dX8_init_115 : decode cX8_init 115 = .ok (.newarray .int, 2) := by decide +kernel
theorem dX8_init_117 : decode cX8_init 117 = .ok (.putfield 53, 3) := by decide +kernel
theorem dX8_init_120 : decode cX8_init 120 = .ok (.aload_n 0, 1) := by decide +kernel
theorem dX8_init_121 : decode cX8_init 121 = .ok (.bipush 18, 2) := by decide +kernel
theorem dX8_init_123 : decode cX8_init 123 = .ok (.newarray .int, 2) := by decide +kernel
theorem dX8_init_125 : decode cX8_init 125 = .ok (.putfield 56, 3) := by decide +kernel
theorem dX8_init_128 : decode cX8_init 128 = .ok (.aload_n 0, 1) := by decide +kernel
theorem dX8_init_129 : decode cX8_init 129 = .ok (.bipush 6, 2) := by decide +kernel
theorem dX8_init_131 : decode cX8_init 131 = .ok (.newarray .int, 2) := by decide +kernel
theorem dX8_init_133 : decode cX8_init 133 = .ok (.putfield 59, 3) := by decide +kernel
theorem dX8_init_136 : decode cX8_init 136 = .ok (.aload_n 0, 1) := by decide +kernel
theorem dX8_init_137 : decode cX8_init 137 = .ok (.bipush 6, 2) := by decide +kernel
theorem dX8_init_139 : decode cX8_init 139 = .ok (.newarray .int, 2) := by decide +kernel
theorem dX8_init_141 : decode cX8_init 141 = .ok (.putfield 62, 3) := by decide +kernel
theorem dX8_init_144 : decode cX8_init 144 = .ok (.aload_n 0, 1) := by decide +kernel
theorem dX8_init_145 : decode cX8_init 145 = .ok (.bipush 6, 2) := by decide +kernel
theorem dX8_init_147 : decode cX8_init 147 = .ok (.newarray .int, 2) := by decide +kernel
theorem dX8_init_149 : decode cX8_init 149 = .ok (.putfield 65, 3) := by decide +kernel
theorem dX8_init_152 : decode cX8_init 152 = .ok (.aload_n 0, 1) := by decide +kernel
theorem dX8_init_153 : decode cX8_init 153 = .ok (.bipush 6, 2) := by decide +kernel
theorem dX8_init_155 : decode cX8_init 155 = .ok (.newarray .int, 2) := by decide +kernel
theorem dX8_init_157 : decode cX8_init 157 = .ok (.putfield 68, 3) := by decide +kernel
theorem dX8_init_160 : decode cX8_init 160 = .ok (.aload_n 0, 1) := by decide +kernel
theorem dX8_init_161 : decode cX8_init 161 = .ok (.bipush 36, 2) := by decide +kernel
theorem dX8_init_163 : decode cX8_init 163 = .ok (.newarray .int, 2) := by decide +kernel
theorem dX8_init_165 : decode cX8_init 165 = .ok (.putfield 71, 3) := by decide +kernel
theorem dX8_init_168 : decode cX8_init 168 = .ok (.aload_n 0, 1) := by decide +kernel
theorem dX8_init_169 : decode cX8_init 169 = .ok (.bipush 6, 2) := by decide +kernel
theorem dX8_init_171 : decode cX8_init 171 = .ok (.newarray .int, 2) := by decide +kernel
theorem dX8_init_173 : decode cX8_init 173 = .ok (.putfield 74, 3) := by decide +kernel
theorem dX8_init_176 : decode cX8_init 176 = .ok (.aload_n 0, 1) := by decide +kernel
theorem dX8_init_177 : decode cX8_init 177 = .ok (.bipush 6, 2) := by decide +kernel
theorem dX8_init_179 : decode cX8_init 179 = .ok (.newarray .int, 2) := by decide +kernel
theorem dX8_init_181 : decode cX8_init 181 = .ok (.putfield 77, 3) := by decide +kernel
theorem dX8_init_184 : decode cX8_init 184 = .ok (.aload_n 0, 1) := by decide +kernel
theorem dX8_init_185 : decode cX8_init 185 = .ok (.bipush 6, 2) := by decide +kernel
theorem dX8_init_187 : decode cX8_init 187 = .ok (.newarray .int, 2) := by decide +kernel
theorem dX8_init_189 : decode cX8_init 189 = .ok (.putfield 80, 3) := by decide +kernel
theorem dX8_init_192 : decode cX8_init 192 = .ok (.aload_n 0, 1) := by decide +kernel
theorem dX8_init_193 : decode cX8_init 193 = .ok (.bipush 6, 2) := by decide +kernel
theorem dX8_init_195 : decode cX8_init 195 = .ok (.newarray .int, 2) := by decide +kernel
theorem dX8_init_197 : decode cX8_init 197 = .ok (.putfield 83, 3) := by decide +kernel
theorem dX8_init_200 : decode cX8_init 200 = .ok (.aload_n 0, 1) := by decide +kernel
theorem dX8_init_201 : decode cX8_init 201 = .ok (.sipush 192, 3) := by decide +kernel
theorem dX8_init_204 : decode cX8_init 204 = .ok (.newarray .int, 2) := by decide +kernel
theorem dX8_init_206 : decode cX8_init 206 = .ok (.putfield 86, 3) := by decide +kernel
theorem dX8_init_209 : decode cX8_init 209 = .ok (.aload_n 0, 1) := by decide +kernel
theorem dX8_init_210 : decode cX8_init 210 = .ok (.bipush 6, 2) := by decide +kernel
theorem dX8_init_212 : decode cX8_init 212 = .ok (.newarray .int, 2) := by decide +kernel
theorem dX8_init_214 : decode cX8_init 214 = .ok (.putfield 89, 3) := by decide +kernel
theorem dX8_init_217 : decode cX8_init 217 = .ok (.aload_n 0, 1) := by decide +kernel
theorem dX8_init_218 : decode cX8_init 218 = .ok (.bipush 6, 2) := by decide +kernel
theorem dX8_init_220 : decode cX8_init 220 = .ok (.newarray .int, 2) := by decide +kernel
theorem dX8_init_222 : decode cX8_init 222 = .ok (.putfield 92, 3) := by decide +kernel
theorem dX8_init_225 : decode cX8_init 225 = .ok (.aload_n 0, 1) := by decide +kernel
theorem dX8_init_226 : decode cX8_init 226 = .ok (.bipush 6, 2) := by decide +kernel
theorem dX8_init_228 : decode cX8_init 228 = .ok (.newarray .int, 2) := by decide +kernel
theorem dX8_init_230 : decode cX8_init 230 = .ok (.putfield 95, 3) := by decide +kernel
theorem dX8_init_233 : decode cX8_init 233 = .ok (.aload_n 0, 1) := by decide +kernel
theorem dX8_init_234 : decode cX8_init 234 = .ok (.bipush 6, 2) := by decide +kernel
theorem dX8_init_236 : decode cX8_init 236 = .ok (.newarray .int, 2) := by decide +kernel
theorem dX8_init_238 : decode cX8_init 238 = .ok (.putfield 98, 3) := by decide +kernel
theorem dX8_init_241 : decode cX8_init 241 = .ok (.aload_n 0, 1) := by decide +kernel
theorem dX8_init_242 : decode cX8_init 242 = .ok (.bipush 20, 2) := by decide +kernel
theorem dX8_init_244 : decode cX8_init 244 = .ok (.newarray .int, 2) := by decide +kernel
theorem dX8_init_246 : decode cX8_init 246 = .ok (.putfield 101, 3) := by decide +kernel
theorem dX8_init_249 : decode cX8_init 249 = .ok (.aload_n 0, 1) := by decide +kernel
theorem dX8_init_250 : decode cX8_init 250 = .ok (.bipush 20, 2) := by decide +kernel
theorem dX8_init_252 : decode cX8_init 252 = .ok (.newarray .int, 2) := by decide +kernel
theorem dX8_init_254 : decode cX8_init 254 = .ok (.putfield 104, 3) := by decide +kernel
theorem dX8_init_257 : decode cX8_init 257 = .ok (.aload_n 0, 1) := by decide +kernel
theorem dX8_init_258 : decode cX8_init 258 = .ok (.bipush 20, 2) := by decide +kernel
theorem dX8_init_260 : decode cX8_init 260 = .ok (.newarray .int, 2) := by decide +kernel
theorem dX8_init_262 : decode cX8_init 262 = .ok (.putfield 107, 3) := by decide +kernel
theorem dX8_init_265 : decode cX8_init 265 = .ok (.aload_n 0, 1) := by decide +kernel
theorem dX8_init_266 : decode cX8_init 266 = .ok (.bipush 120, 2) := by decide +kernel
theorem dX8_init_268 : decode cX8_init 268 = .ok (.newarray .int, 2) := by decide +kernel
theorem dX8_init_270 : decode cX8_init 270 = .ok (.putfield 110, 3) := by decide +kernel
theorem dX8_init_273 : decode cX8_init 273 = .ok (.aload_n 0, 1) := by decide +kernel
theorem dX8_init_274 : decode cX8_init 274 = .ok (.iconst 2, 1) := by decide +kernel
theorem dX8_init_275 : decode cX8_init 275 = .ok (.newarray .boolean, 2) := by decide +kernel
theorem dX8_init_277 : decode cX8_init 277 = .ok (.putfield 113, 3) := by decide +kernel
theorem dX8_init_280 : decode cX8_init 280 = .ok (.aload_n 0, 1) := by decide +kernel
theorem dX8_init_281 : decode cX8_init 281 = .ok (.invokevirtual 117, 3) := by decide +kernel
theorem dX8_init_284 : decode cX8_init 284 = .ok (.return_, 1) := by decide +kernel
theorem dX8_in_0 : decode cX8_in 0 = .ok (.lload_n 0, 1) := by decide +kernel
theorem dX8_in_1 : decode cX8_in 1 = .ok (.lload_n 2, 1) := by decide +kernel
theorem dX8_in_2 : decode cX8_in 2 = .ok (.lcmp, 1) := by decide +kernel
theorem dX8_in_3 : decode cX8_in 3 = .ok (.ifCond .lt 14, 3) := by decide +kernel
theorem dX8_in_6 : decode cX8_in 6 = .ok (.lload_n 0, 1) := by decide +kernel
theorem dX8_in_7 : decode cX8_in 7 = .ok (.lload 4, 2) := by decide +kernel
theorem dX8_in_9 : decode cX8_in 9 = .ok (.lcmp, 1) := by decide +kernel
theorem dX8_in_10 : decode cX8_in 10 = .ok (.ifCond .gt 7, 3) := by decide +kernel
theorem dX8_in_13 : decode cX8_in 13 = .ok (.iconst 1, 1) := by decide +kernel
theorem dX8_in_14 : decode cX8_in 14 = .ok (.goto 4, 3) := by decide +kernel
theorem dX8_in_17 : decode cX8_in 17 = .ok (.iconst 0, 1) := by decide +kernel
theorem dX8_in_18 : decode cX8_in 18 = .ok (.ireturn, 1) := by decide +kernel
theorem dX8_has_0 : decode cX8_has 0 = .ok (.iload_n 0, 1) := by decide +kernel
theorem dX8_has_1 : decode cX8_has 1 = .ok (.iload_n 1, 1) := by decide +kernel
theorem dX8_has_2 : decode cX8_has 2 = .ok (.ishr, 1) := by decide +kernel
theorem dX8_has_3 : decode cX8_has 3 = .ok (.iconst 1, 1) := by decide +kernel
theorem dX8_has_4 : decode cX8_has 4 = .ok (.iand, 1) := by decide +kernel
theorem dX8_has_5 : decode cX8_has 5 = .ok (.iconst 1, 1) := by decide +kernel
theorem dX8_has_6 : decode cX8_has 6 = .ok (.if_icmp .ne 7, 3) := by decide +kernel
theorem dX8_has_9 : decode cX8_has 9 = .ok (.iconst 1, 1) := by decide +kernel
theorem dX8_has_10 : decode cX8_has 10 = .ok (.goto 4, 3) := by decide +kernel
theorem dX8_has_13 : decode cX8_has 13 = .ok (.iconst 0, 1) := by decide +kernel
theorem dX8_has_14 : decode cX8_has 14 = .ok (.ireturn, 1) := by decide +kernel
theorem dX8_bits_0 : decode cX8_bits 0 = .ok (.iconst 0, 1) := by decide +kernel
theorem dX8_bits_1 : decode cX8_bits 1 = .ok (.istore_n 1, 1) := by decide +kernel
theorem dX8_bits_2 : decode cX8_bits 2 = .ok (.iconst 0, 1) := by decide +kernel
theorem dX8_bits_3 : decode cX8_bits 3 = .ok (.istore_n 2, 1) := by decide +kernel
theorem dX8_bits_4 : decode cX8_bits 4 = .ok (.iload_n 2, 1) := by decide +kernel
theorem dX8_bits_5 : decode cX8_bits 5 = .ok (.bipush 6, 2) := by decide +kernel
theorem dX8_bits_7 : decode cX8_bits 7 = .ok (.if_icmp .ge 17, 3) := by decide +kernel
theorem dX8_bits_10 : decode cX8_bits 10 = .ok (.iload_n 1, 1) := by decide +kernel
theorem dX8_bits_11 : decode cX8_bits 11 = .ok (.iload_n 0, 1) := by decide +kernel
theorem dX8_bits_12 : decode cX8_bits 12 = .ok (.iload_n 2, 1) := by decide +kernel
theorem dX8_bits_13 : decode cX8_bits 13 = .ok (.ishr, 1) := by decide +kernel
theorem dX8_bits_14 : decode cX8_bits 14 = .ok (.iconst 1, 1) := by decide +kernel
theorem dX8_bits_15 : decode cX8_bits 15 = .ok (.iand, 1) := by decide +kernel
theorem dX8_bits_16 : decode cX8_bits 16 = .ok (.iadd, 1) := by decide +kernel
theorem dX8_bits_17 : decode cX8_bits 17 = .ok (.istore_n 1, 1) := by decide +kernel
theorem dX8_bits_18 : decode cX8_bits 18 = .ok (.iinc 2 1, 3) := by decide +kernel
theorem dX8_bits_21 : decode cX8_bits 21 = .ok (.goto (-17), 3) := by decide +kernel
theorem dX8_bits_24 : decode cX8_bits 24 = .ok (.iload_n 1, 1) := by decide +kernel
theorem dX8_bits_25 : decode cX8_bits 25 = .ok (.ireturn, 1) := by decide +kernel
theorem dX8_isRoom_0 : decode cX8_isRoom 0 = .ok (.iload_n 1, 1) := by decide +kernel
theorem dX8_isRoom_1 : decode cX8_isRoom 1 = .ok (.i2l, 1) := by decide +kernel
theorem dX8_isRoom_2 : decode cX8_isRoom 2 = .ok (.lconst 0, 1) := by decide +kernel
theorem dX8_isRoom_3 : decode cX8_isRoom 3 = .ok (.aload_n 0, 1) := by decide +kernel
theorem dX8_isRoom_4 : decode cX8_isRoom 4 = .ok (.getfield 120, 3) := by decide +kernel
theorem dX8_isRoom_7 : decode cX8_isRoom 7 = .ok (.iconst 1, 1) := by decide +kernel
theorem dX8_isRoom_8 : decode cX8_isRoom 8 = .ok (.isub, 1) := by decide +kernel
theorem dX8_isRoom_9 : decode cX8_isRoom 9 = .ok (.i2l, 1) := by decide +kernel
theorem dX8_isRoom_10 : decode cX8_isRoom 10 = .ok (.invokestatic 123, 3) := by decide +kernel
theorem dX8_isRoom_13 : decode cX8_isRoom 13 = .ok (.ireturn, 1) := by decide +kernel
theorem dX8_isPerson_0 : decode cX8_isPerson 0 = .ok (.iload_n 1, 1) := by decide +kernel
theorem dX8_isPerson_1 : decode cX8_isPerson 1 = .ok (.i2l, 1) := by decide +kernel
theorem dX8_isPerson_2 : decode cX8_isPerson 2 = .ok (.lconst 0, 1) := by decide +kernel
theorem dX8_isPerson_3 : decode cX8_isPerson 3 = .ok (.aload_n 0, 1) := by decide +kernel
theorem dX8_isPerson_4 : decode cX8_isPerson 4 = .ok (.getfield 127, 3) := by decide +kernel
theorem dX8_isPerson_7 : decode cX8_isPerson 7 = .ok (.iconst 1, 1) := by decide +kernel
theorem dX8_isPerson_8 : decode cX8_isPerson 8 = .ok (.isub, 1) := by decide +kernel
theorem dX8_isPerson_9 : decode cX8_isPerson 9 = .ok (.i2l, 1) := by decide +kernel
theorem dX8_isPerson_10 : decode cX8_isPerson 10 = .ok (.invokestatic 123, 3) := by decide +kernel
theorem dX8_isPerson_13 : decode cX8_isPerson 13 = .ok (.ireturn, 1) := by decide +kernel
theorem dX8_isPlace_0 : decode cX8_isPlace 0 = .ok (.aload_n 0, 1) := by decide +kernel
theorem dX8_isPlace_1 : decode cX8_isPlace 1 = .ok (.iload_n 1, 1) := by decide +kernel
theorem dX8_isPlace_2 : decode cX8_isPlace 2 = .ok (.invokevirtual 130, 3) := by decide +kernel
theorem dX8_isPlace_5 : decode cX8_isPlace 5 = .ok (.ifCond .eq 25, 3) := by decide +kernel
theorem dX8_isPlace_8 : decode cX8_isPlace 8 = .ok (.iload_n 2, 1) := by decide +kernel
theorem dX8_isPlace_9 : decode cX8_isPlace 9 = .ok (.i2l, 1) := by decide +kernel
theorem dX8_isPlace_10 : decode cX8_isPlace 10 = .ok (.lconst 0, 1) := by decide +kernel
theorem dX8_isPlace_11 : decode cX8_isPlace 11 = .ok (.aload_n 0, 1) := by decide +kernel
theorem dX8_isPlace_12 : decode cX8_isPlace 12 = .ok (.getfield 7, 3) := by decide +kernel
theorem dX8_isPlace_15 : decode cX8_isPlace 15 = .ok (.iload_n 1, 1) := by decide +kernel
theorem dX8_isPlace_16 : decode cX8_isPlace 16 = .ok (.iaload, 1) := by decide +kernel
theorem dX8_isPlace_17 : decode cX8_isPlace 17 = .ok (.iconst 1, 1) := by decide +kernel
theorem dX8_isPlace_18 : decode cX8_isPlace 18 = .ok (.isub, 1) := by decide +kernel
theorem dX8_isPlace_19 : decode cX8_isPlace 19 = .ok (.i2l, 1) := by decide +kernel
theorem dX8_isPlace_20 : decode cX8_isPlace 20 = .ok (.invokestatic 123, 3) := by decide +kernel
theorem dX8_isPlace_23 : decode cX8_isPlace 23 = .ok (.ifCond .eq 7, 3) := by decide +kernel
theorem dX8_isPlace_26 : decode cX8_isPlace 26 = .ok (.iconst 1, 1) := by decide +kernel
theorem dX8_isPlace_27 : decode cX8_isPlace 27 = .ok (.goto 4, 3) := by decide +kernel
theorem dX8_isPlace_30 : decode cX8_isPlace 30 = .ok (.iconst 0, 1) := by decide +kernel
theorem dX8_isPlace_31 : decode cX8_isPlace 31 = .ok (.ireturn, 1) := by decide +kernel
theorem dX8_isSet_0 : decode cX8_isSet 0 = .ok (.iload_n 1, 1) := by decide +kernel
theorem dX8_isSet_1 : decode cX8_isSet 1 = .ok (.i2l, 1) := by decide +kernel
theorem dX8_isSet_2 : decode cX8_isSet 2 = .ok (.lconst 0, 1) := by decide +kernel
theorem dX8_isSet_3 : decode cX8_isSet 3 = .ok (.iconst 1, 1) := by decide +kernel
theorem dX8_isSet_4 : decode cX8_isSet 4 = .ok (.aload_n 0, 1) := by decide +kernel
theorem dX8_isSet_5 : decode cX8_isSet 5 = .ok (.getfield 127, 3) := by decide +kernel
theorem dX8_isSet_8 : decode cX8_isSet 8 = .ok (.ishl, 1) := by decide +kernel
theorem dX8_isSet_9 : decode cX8_isSet 9 = .ok (.iconst 1, 1) := by decide +kernel
theorem dX8_isSet_10 : decode cX8_isSet 10 = .ok (.isub, 1) := by decide +kernel
theorem dX8_isSet_11 : decode cX8_isSet 11 = .ok (.i2l, 1) := by decide +kernel
theorem dX8_isSet_12 : decode cX8_isSet 12 = .ok (.invokestatic 123, 3) := by decide +kernel
theorem dX8_isSet_15 : decode cX8_isSet 15 = .ok (.ireturn, 1) := by decide +kernel
theorem dX8_begin_0 : decode cX8_begin 0 = .ok (.iconst 0, 1) := by decide +kernel
theorem dX8_begin_1 : decode cX8_begin 1 = .ok (.istore_n 1, 1) := by decide +kernel
theorem dX8_begin_2 : decode cX8_begin 2 = .ok (.iload_n 1, 1) := by decide +kernel
theorem dX8_begin_3 : decode cX8_begin 3 = .ok (.bipush 6, 2) := by decide +kernel
theorem dX8_begin_5 : decode cX8_begin 5 = .ok (.if_icmp .ge 54, 3) := by decide +kernel
theorem dX8_begin_8 : decode cX8_begin 8 = .ok (.aload_n 0, 1) := by decide +kernel
theorem dX8_begin_9 : decode cX8_begin 9 = .ok (.getfield 31, 3) := by decide +kernel
theorem dX8_begin_12 : decode cX8_begin 12 = .ok (.iload_n 1, 1) := by decide +kernel
theorem dX8_begin_13 : decode cX8_begin 13 = .ok (.aload_n 0, 1) := by decide +kernel
theorem dX8_begin_14 : decode cX8_begin 14 = .ok (.getfield 16, 3) := by decide +kernel
theorem dX8_begin_17 : decode cX8_begin 17 = .ok (.iload_n 1, 1) := by decide +kernel
theorem dX8_begin_18 : decode cX8_begin 18 = .ok (.iaload, 1) := by decide +kernel
theorem dX8_begin_19 : decode cX8_begin 19 = .ok (.iastore, 1) := by decide +kernel
theorem dX8_begin_20 : decode cX8_begin 20 = .ok (.aload_n 0, 1) := by decide +kernel
theorem dX8_begin_21 : decode cX8_begin 21 = .ok (.getfield 34, 3) := by decide +kernel
theorem dX8_begin_24 : decode cX8_begin 24 = .ok (.iload_n 1, 1) := by decide +kernel
theorem dX8_begin_25 : decode cX8_begin 25 = .ok (.aload_n 0, 1) := by decide +kernel
theorem dX8_begin_26 : decode cX8_begin 26 = .ok (.getfield 19, 3) := by decide +kernel
theorem dX8_begin_29 : decode cX8_begin 29 = .ok (.iload_n 1, 1) := by decide +kernel
theorem dX8_begin_30 : decode cX8_begin 30 = .ok (.iaload, 1) := by decide +kernel
theorem dX8_begin_31 : decode cX8_begin 31 = .ok (.iastore, 1) := by decide +kernel
theorem dX8_begin_32 : decode cX8_begin 32 = .ok (.aload_n 0, 1) := by decide +kernel
theorem dX8_begin_33 : decode cX8_begin 33 = .ok (.getfield 37, 3) := by decide +kernel
theorem dX8_begin_36 : decode cX8_begin 36 = .ok (.iload_n 1, 1) := by decide +kernel
theorem dX8_begin_37 : decode cX8_begin 37 = .ok (.iconst (-1), 1) := by decide +kernel
theorem dX8_begin_38 : decode cX8_begin 38 = .ok (.iastore, 1) := by decide +kernel
theorem dX8_begin_39 : decode cX8_begin 39 = .ok (.aload_n 0, 1) := by decide +kernel
theorem dX8_begin_40 : decode cX8_begin 40 = .ok (.getfield 40, 3) := by decide +kernel
theorem dX8_begin_43 : decode cX8_begin 43 = .ok (.iload_n 1, 1) := by decide +kernel
theorem dX8_begin_44 : decode cX8_begin 44 = .ok (.iconst (-1), 1) := by decide +kernel
theorem dX8_begin_45 : decode cX8_begin 45 = .ok (.iastore, 1) := by decide +kernel
theorem dX8_begin_46 : decode cX8_begin 46 = .ok (.aload_n 0, 1) := by decide +kernel
theorem dX8_begin_47 : decode cX8_begin 47 = .ok (.getfield 43, 3) := by decide +kernel
theorem dX8_begin_50 : decode cX8_begin 50 = .ok (.iload_n 1, 1) := by decide +kernel
theorem dX8_begin_51 : decode cX8_begin 51 = .ok (.iconst 0, 1) := by decide +kernel
theorem dX8_begin_52 : decode cX8_begin 52 = .ok (.iastore, 1) := by decide +kernel
theorem dX8_begin_53 : decode cX8_begin 53 = .ok (.iinc 1 1, 3) := by decide +kernel
theorem dX8_begin_56 : decode cX8_begin 56 = .ok (.goto (-54), 3) := by decide +kernel
theorem dX8_begin_59 : decode cX8_begin 59 = .ok (.return_, 1) := by decide +kernel
theorem dX8_feed_0 : decode cX8_feed 0 = .ok (.iload_n 1, 1) := by decide +kernel
theorem dX8_feed_1 : decode cX8_feed 1 = .ok (.i2l, 1) := by decide +kernel
theorem dX8_feed_2 : decode cX8_feed 2 = .ok (.lconst 1, 1) := by decide +kernel
theorem dX8_feed_3 : decode cX8_feed 3 = .ok (.ldc2_w 134, 3) := by decide +kernel
theorem dX8_feed_6 : decode cX8_feed 6 = .ok (.invokestatic 123, 3) := by decide +kernel
theorem dX8_feed_9 : decode cX8_feed 9 = .ok (.ifCond .ne 6, 3) := by decide +kernel
theorem dX8_feed_12 : decode cX8_feed 12 = .ok (.ldc 136, 2) := by decide +kernel
theorem dX8_feed_14 : decode cX8_feed 14 = .ok (.ireturn, 1) := by decide +kernel
theorem dX8_feed_15 : decode cX8_feed 15 = .ok (.aload_n 0, 1) := by decide +kernel
theorem dX8_feed_16 : decode cX8_feed 16 = .ok (.getfield 137, 3) := by decide +kernel
theorem dX8_feed_19 : decode cX8_feed 19 = .ok (.iload_n 1, 1) := by decide +kernel
theorem dX8_feed_20 : decode cX8_feed 20 = .ok (.iadd, 1) := by decide +kernel
theorem dX8_feed_21 : decode cX8_feed 21 = .ok (.sipush 500, 3) := by decide +kernel
theorem dX8_feed_24 : decode cX8_feed 24 = .ok (.if_icmp .le 6, 3) := by decide +kernel
theorem dX8_feed_27 : decode cX8_feed 27 = .ok (.ldc 140, 2) := by decide +kernel
theorem dX8_feed_29 : decode cX8_feed 29 = .ok (.ireturn, 1) := by decide +kernel
theorem dX8_feed_30 : decode cX8_feed 30 = .ok (.iload_n 1, 1) := by decide +kernel
theorem dX8_feed_31 : decode cX8_feed 31 = .ok (.iconst 1, 1) := by decide +kernel
theorem dX8_feed_32 : decode cX8_feed 32 = .ok (.isub, 1) := by decide +kernel
theorem dX8_feed_33 : decode cX8_feed 33 = .ok (.istore 4, 2) := by decide +kernel
theorem dX8_feed_35 : decode cX8_feed 35 = .ok (.iload 4, 2) := by decide +kernel
theorem dX8_feed_37 : decode cX8_feed 37 = .ok (.ifCond .lt 40, 3) := by decide +kernel
theorem dX8_feed_40 : decode cX8_feed 40 = .ok (.aload_n 0, 1) := by decide +kernel
theorem dX8_feed_41 : decode cX8_feed 41 = .ok (.getfield 46, 3) := by decide +kernel
theorem dX8_feed_44 : decode cX8_feed 44 = .ok (.aload_n 0, 1) := by decide +kernel
theorem dX8_feed_45 : decode cX8_feed 45 = .ok (.getfield 137, 3) := by decide +kernel
theorem dX8_feed_48 : decode cX8_feed 48 = .ok (.lload_n 2, 1) := by decide +kernel
theorem dX8_feed_49 : decode cX8_feed 49 = .ok (.bipush 8, 2) := by decide +kernel
theorem dX8_feed_51 : decode cX8_feed 51 = .ok (.iload 4, 2) := by decide +kernel
theorem dX8_feed_53 : decode cX8_feed 53 = .ok (.imul, 1) := by decide +kernel
theorem dX8_feed_54 : decode cX8_feed 54 = .ok (.lshr, 1) := by decide +kernel
theorem dX8_feed_55 : decode cX8_feed 55 = .ok (.ldc2_w 141, 3) := by decide +kernel
theorem dX8_feed_58 : decode cX8_feed 58 = .ok (.land, 1) := by decide +kernel
theorem dX8_feed_59 : decode cX8_feed 59 = .ok (.l2i, 1) := by decide +kernel
theorem dX8_feed_60 : decode cX8_feed 60 = .ok (.iastore, 1) := by decide +kernel
theorem dX8_feed_61 : decode cX8_feed 61 = .ok (.aload_n 0, 1) := by decide +kernel
theorem dX8_feed_62 : decode cX8_feed 62 = .ok (.dup, 1) := by decide +kernel
theorem dX8_feed_63 : decode cX8_feed 63 = .ok (.getfield 137, 3) := by decide +kernel
theorem dX8_feed_66 : decode cX8_feed 66 = .ok (.iconst 1, 1) := by decide +kernel
theorem dX8_feed_67 : decode cX8_feed 67 = .ok (.iadd, 1) := by decide +kernel
theorem dX8_feed_68 : decode cX8_feed 68 = .ok (.putfield 137, 3) := by decide +kernel
theorem dX8_feed_71 : decode cX8_feed 71 = .ok (.iinc 4 (-1), 3) := by decide +kernel
theorem dX8_feed_74 : decode cX8_feed 74 = .ok (.goto (-39), 3) := by decide +kernel
theorem dX8_feed_77 : decode cX8_feed 77 = .ok (.aload_n 0, 1) := by decide +kernel
theorem dX8_feed_78 : decode cX8_feed 78 = .ok (.getfield 137, 3) := by decide +kernel
theorem dX8_feed_81 : decode cX8_feed 81 = .ok (.ireturn, 1) := by decide +kernel
theorem dX8_here_0 : decode cX8_here 0 = .ok (.aload_n 0, 1) := by decide +kernel
theorem dX8_here_1 : decode cX8_here 1 = .ok (.getfield 143, 3) := by decide +kernel
theorem dX8_here_4 : decode cX8_here 4 = .ok (.aload_n 0, 1) := by decide +kernel
theorem dX8_here_5 : decode cX8_here 5 = .ok (.getfield 137, 3) := by decide +kernel
theorem dX8_here_8 : decode cX8_here 8 = .ok (.if_icmp .ge 30, 3) := by decide +kernel
theorem dX8_here_11 : decode cX8_here 11 = .ok (.aload_n 0, 1) := by decide +kernel
theorem dX8_here_12 : decode cX8_here 12 = .ok (.getfield 46, 3) := by decide +kernel
theorem dX8_here_15 : decode cX8_here 15 = .ok (.aload_n 0, 1) := by decide +kernel
theorem dX8_here_16 : decode cX8_here 16 = .ok (.getfield 143, 3) := by decide +kernel
theorem dX8_here_19 : decode cX8_here 19 = .ok (.iaload, 1) := by decide +kernel
theorem dX8_here_20 : decode cX8_here 20 = .ok (.bipush 32, 2) := by decide +kernel
theorem dX8_here_22 : decode cX8_here 22 = .ok (.if_icmp .ne 16, 3) := by decide +kernel
theorem dX8_here_25 : decode cX8_here 25 = .ok (.aload_n 0, 1) := by decide +kernel
theorem dX8_here_26 : decode cX8_here 26 = .ok (.dup, 1) := by decide +kernel
theorem dX8_here_27 : decode cX8_here 27 = .ok (.getfield 143, 3) := by decide +kernel
theorem dX8_here_30 : decode cX8_here 30 = .ok (.iconst 1, 1) := by decide +kernel
theorem dX8_here_31 : decode cX8_here 31 = .ok (.iadd, 1) := by decide +kernel
theorem dX8_here_32 : decode cX8_here 32 = .ok (.putfield 143, 3) := by decide +kernel
theorem dX8_here_35 : decode cX8_here 35 = .ok (.goto (-35), 3) := by decide +kernel
theorem dX8_here_38 : decode cX8_here 38 = .ok (.aload_n 0, 1) := by decide +kernel
theorem dX8_here_39 : decode cX8_here 39 = .ok (.getfield 143, 3) := by decide +kernel
theorem dX8_here_42 : decode cX8_here 42 = .ok (.aload_n 0, 1) := by decide +kernel
theorem dX8_here_43 : decode cX8_here 43 = .ok (.getfield 137, 3) := by decide +kernel
theorem dX8_here_46 : decode cX8_here 46 = .ok (.if_icmp .ge 15, 3) := by decide +kernel
theorem dX8_here_49 : decode cX8_here 49 = .ok (.aload_n 0, 1) := by decide +kernel
theorem dX8_here_50 : decode cX8_here 50 = .ok (.getfield 46, 3) := by decide +kernel
theorem dX8_here_53 : decode cX8_here 53 = .ok (.aload_n 0, 1) := by decide +kernel
theorem dX8_here_54 : decode cX8_here 54 = .ok (.getfield 143, 3) := by decide +kernel
theorem dX8_here_57 : decode cX8_here 57 = .ok (.iaload, 1) := by decide +kernel
theorem dX8_here_58 : decode cX8_here 58 = .ok (.goto 4, 3) := by decide +kernel
theorem dX8_here_61 : decode cX8_here 61 = .ok (.iconst (-1), 1) := by decide +kernel
theorem dX8_here_62 : decode cX8_here 62 = .ok (.ireturn, 1) := by decide +kernel
theorem dX8_fails_0 : decode cX8_fails 0 = .ok (.aload_n 0, 1) := by decide +kernel
theorem dX8_fails_1 : decode cX8_fails 1 = .ok (.iload_n 2, 1) := by decide +kernel
theorem dX8_fails_2 : decode cX8_fails 2 = .ok (.putfield 49, 3) := by decide +kernel
theorem dX8_fails_5 : decode cX8_fails 5 = .ok (.iload_n 1, 1) := by decide +kernel
theorem dX8_fails_6 : decode cX8_fails 6 = .ok (.ireturn, 1) := by decide +kernel
theorem dX8_readWord_0 : decode cX8_readWord 0 = .ok (.aload_n 0, 1) := by decide +kernel
theorem dX8_readWord_1 : decode cX8_readWord 1 = .ok (.invokevirtual 146, 3) := by decide +kernel
theorem dX8_readWord_4 : decode cX8_readWord 4 = .ok (.istore_n 1, 1) := by decide +kernel
theorem dX8_readWord_5 : decode cX8_readWord 5 = .ok (.aload_n 0, 1) := by decide +kernel
theorem dX8_readWord_6 : decode cX8_readWord 6 = .ok (.lconst 0, 1) := by decide +kernel
theorem dX8_readWord_7 : decode cX8_readWord 7 = .ok (.putfield 150, 3) := by decide +kernel
theorem dX8_readWord_10 : decode cX8_readWord 10 = .ok (.aload_n 0, 1) := by decide +kernel
theorem dX8_readWord_11 : decode cX8_readWord 11 = .ok (.aload_n 0, 1) := by decide +kernel
theorem dX8_readWord_12 : decode cX8_readWord 12 = .ok (.getfield 143, 3) := by decide +kernel
theorem dX8_readWord_15 : decode cX8_readWord 15 = .ok (.putfield 154, 3) := by decide +kernel
theorem dX8_readWord_18 : decode cX8_readWord 18 = .ok (.aload_n 0, 1) := by decide +kernel
theorem dX8_readWord_19 : decode cX8_readWord 19 = .ok (.getfield 154, 3) := by decide +kernel
theorem dX8_readWord_22 : decode cX8_readWord 22 = .ok (.aload_n 0, 1) := by decide +kernel
theorem dX8_readWord_23 : decode cX8_readWord 23 = .ok (.getfield 137, 3) := by decide +kernel
theorem dX8_readWord_26 : decode cX8_readWord 26 = .ok (.if_icmp .ge 82, 3) := by decide +kernel
theorem dX8_readWord_29 : decode cX8_readWord 29 = .ok (.aload_n 0, 1) := by decide +kernel
theorem dX8_readWord_30 : decode cX8_readWord 30 = .ok (.getfield 46, 3) := by decide +kernel
theorem dX8_readWord_33 : decode cX8_readWord 33 = .ok (.aload_n 0, 1) := by decide +kernel
theorem dX8_readWord_34 : decode cX8_readWord 34 = .ok (.getfield 154, 3) := by decide +kernel
theorem dX8_readWord_37 : decode cX8_readWord 37 = .ok (.iaload, 1) := by decide +kernel
theorem dX8_readWord_38 : decode cX8_readWord 38 = .ok (.i2l, 1) := by decide +kernel
theorem dX8_readWord_39 : decode cX8_readWord 39 = .ok (.ldc2_w 157, 3) := by decide +kernel
theorem dX8_readWord_42 : decode cX8_readWord 42 = .ok (.ldc2_w 159, 3) := by decide +kernel
theorem dX8_readWord_45 : decode cX8_readWord 45 = .ok (.invokestatic 123, 3) := by decide +kernel
theorem dX8_readWord_48 : decode cX8_readWord 48 = .ok (.ifCond .eq 60, 3) := by decide +kernel
theorem dX8_readWord_51 : decode cX8_readWord 51 = .ok (.aload_n 0, 1) := by decide +kernel
theorem dX8_readWord_52 : decode cX8_readWord 52 = .ok (.aload_n 0, 1) := by decide +kernel
theorem dX8_readWord_53 : decode cX8_readWord 53 = .ok (.getfield 150, 3) := by decide +kernel
theorem dX8_readWord_56 : decode cX8_readWord 56 = .ok (.ldc2_w 161, 3) := by decide +kernel
theorem dX8_readWord_59 : decode cX8_readWord 59 = .ok (.lcmp, 1) := by decide +kernel
theorem dX8_readWord_60 : decode cX8_readWord 60 = .ok (.ifCond .le 9, 3) := by decide +kernel
theorem dX8_readWord_63 : decode cX8_readWord 63 = .ok (.ldc2_w 163, 3) := by decide +kernel
theorem dX8_readWord_66 : decode cX8_readWord 66 = .ok (.goto 26, 3) := by decide +kernel
theorem dX8_readWord_69 : decode cX8_readWord 69 = .ok (.ldc2_w 165, 3) := by decide +kernel
theorem dX8_readWord_72 : decode cX8_readWord 72 = .ok (.aload_n 0, 1) := by decide +kernel
theorem dX8_readWord_73 : decode cX8_readWord 73 = .ok (.getfield 150, 3) := by decide +kernel
theorem dX8_readWord_76 : decode cX8_readWord 76 = .ok (.lmul, 1) := by decide +kernel
theorem dX8_readWord_77 : decode cX8_readWord 77 = .ok (.aload_n 0, 1) := by decide +kernel
theorem dX8_readWord_78 : decode cX8_readWord 78 = .ok (.getfield 46, 3) := by decide +kernel
theorem dX8_readWord_81 : decode cX8_readWord 81 = .ok (.aload_n 0, 1) := by decide +kernel
theorem dX8_readWord_82 : decode cX8_readWord 82 = .ok (.getfield 154, 3) := by decide +kernel
theorem dX8_readWord_85 : decode cX8_readWord 85 = .ok (.iaload, 1) := by decide +kernel
theorem dX8_readWord_86 : decode cX8_readWord 86 = .ok (.i2l, 1) := by decide +kernel
theorem dX8_readWord_87 : decode cX8_readWord 87 = .ok (.ladd, 1) := by decide +kernel
theorem dX8_readWord_88 : decode cX8_readWord 88 = .ok (.ldc2_w 167, 3) := by decide +kernel
theorem dX8_readWord_91 : decode cX8_readWord 91 = .ok (.lsub, 1) := by decide +kernel
theorem dX8_readWord_92 : decode cX8_readWord 92 = .ok (.putfield 150, 3) := by decide +kernel
theorem dX8_readWord_95 : decode cX8_readWord 95 = .ok (.aload_n 0, 1) := by decide +kernel
theorem dX8_readWord_96 : decode cX8_readWord 96 = .ok (.dup, 1) := by decide +kernel
theorem dX8_readWord_97 : decode cX8_readWord 97 = .ok (.getfield 154, 3) := by decide +kernel
theorem dX8_readWord_100 : decode cX8_readWord 100 = .ok (.iconst 1, 1) := by decide +kernel
theorem dX8_readWord_101 : decode cX8_readWord 101 = .ok (.iadd, 1) := by decide +kernel
theorem dX8_readWord_102 : decode cX8_readWord 102 = .ok (.putfield 154, 3) := by decide +kernel
theorem dX8_readWord_105 : decode cX8_readWord 105 = .ok (.goto (-87), 3) := by decide +kernel
theorem dX8_readWord_108 : decode cX8_readWord 108 = .ok (.return_, 1) := by decide +kernel
theorem dX8_code_0 : decode cX8_code 0 = .ok (.ldc2_w 165, 3) := by decide +kernel
theorem dX8_code_3 : decode cX8_code 3 = .ok (.ldc2_w 165, 3) := by decide +kernel
theorem dX8_code_6 : decode cX8_code 6 = .ok (.ldc2_w 165, 3) := by decide +kernel
theorem dX8_code_9 : decode cX8_code 9 = .ok (.iload_n 0, 1) := by decide +kernel
theorem dX8_code_10 : decode cX8_code 10 = .ok (.i2l, 1) := by decide +kernel
theorem dX8_code_11 : decode cX8_code 11 = .ok (.ldc2_w 167, 3) := by decide +kernel
theorem dX8_code_14 : decode cX8_code 14 = .ok (.lsub, 1) := by decide +kernel
theorem dX8_code_15 : decode cX8_code 15 = .ok (.lmul, 1) := by decide +kernel
theorem dX8_code_16 : decode cX8_code 16 = .ok (.iload_n 1, 1) := by decide +kernel
theorem dX8_code_17 : decode cX8_code 17 = .ok (.i2l, 1) := by decide +kernel
theorem dX8_code_18 : decode cX8_code 18 = .ok (.ladd, 1) := by decide +kernel
theorem dX8_code_19 : decode cX8_code 19 = .ok (.ldc2_w 167, 3) := by decide +kernel
theorem dX8_code_22 : decode cX8_code 22 = .ok (.lsub, 1) := by decide +kernel
theorem dX8_code_23 : decode cX8_code 23 = .ok (.lmul, 1) := by decide +kernel
theorem dX8_code_24 : decode cX8_code 24 = .ok (.iload_n 2, 1) := by decide +kernel
theorem dX8_code_25 : decode cX8_code 25 = .ok (.i2l, 1) := by decide +kernel
theorem dX8_code_26 : decode cX8_code 26 = .ok (.ladd, 1) := by decide +kernel
theorem dX8_code_27 : decode cX8_code 27 = .ok (.ldc2_w 167, 3) := by decide +kernel
theorem dX8_code_30 : decode cX8_code 30 = .ok (.lsub, 1) := by decide +kernel
theorem dX8_code_31 : decode cX8_code 31 = .ok (.lmul, 1) := by decide +kernel
theorem dX8_code_32 : decode cX8_code 32 = .ok (.iload_n 3, 1) := by decide +kernel
theorem dX8_code_33 : decode cX8_code 33 = .ok (.i2l, 1) := by decide +kernel
theorem dX8_code_34 : decode cX8_code 34 = .ok (.ladd, 1) := by decide +kernel
theorem dX8_code_35 : decode cX8_code 35 = .ok (.ldc2_w 167, 3) := by decide +kernel
theorem dX8_code_38 : decode cX8_code 38 = .ok (.lsub, 1) := by decide +kernel
theorem dX8_code_39 : decode cX8_code 39 = .ok (.lreturn, 1) := by decide +kernel
theorem dX8_longer_0 : decode cX8_longer 0 = .ok (.ldc2_w 165, 3) := by decide +kernel
theorem dX8_longer_3 : decode cX8_longer 3 = .ok (.ldc2_w 165, 3) := by decide +kernel
theorem dX8_longer_6 : decode cX8_longer 6 = .ok (.lload_n 0, 1) := by decide +kernel
theorem dX8_longer_7 : decode cX8_longer 7 = .ok (.lmul, 1) := by decide +kernel
theorem dX8_longer_8 : decode cX8_longer 8 = .ok (.iload_n 2, 1) := by decide +kernel
theorem dX8_longer_9 : decode cX8_longer 9 = .ok (.i2l, 1) := by decide +kernel
theorem dX8_longer_10 : decode cX8_longer 10 = .ok (.ladd, 1) := by decide +kernel
theorem dX8_longer_11 : decode cX8_longer 11 = .ok (.ldc2_w 167, 3) := by decide +kernel
theorem dX8_longer_14 : decode cX8_longer 14 = .ok (.lsub, 1) := by decide +kernel
theorem dX8_longer_15 : decode cX8_longer 15 = .ok (.lmul, 1) := by decide +kernel
theorem dX8_longer_16 : decode cX8_longer 16 = .ok (.iload_n 3, 1) := by decide +kernel
theorem dX8_longer_17 : decode cX8_longer 17 = .ok (.i2l, 1) := by decide +kernel
theorem dX8_longer_18 : decode cX8_longer 18 = .ok (.ladd, 1) := by decide +kernel
theorem dX8_longer_19 : decode cX8_longer 19 = .ok (.ldc2_w 167, 3) := by decide +kernel
theorem dX8_longer_22 : decode cX8_longer 22 = .ok (.lsub, 1) := by decide +kernel
theorem dX8_longer_23 : decode cX8_longer 23 = .ok (.lreturn, 1) := by decide +kernel
theorem dX8_takeNumber_0 : decode cX8_takeNumber 0 = .ok (.aload_n 0, 1) := by decide +kernel
theorem dX8_takeNumber_1 : decode cX8_takeNumber 1 = .ok (.invokevirtual 146, 3) := by decide +kernel
theorem dX8_takeNumber_4 : decode cX8_takeNumber 4 = .ok (.istore_n 3, 1) := by decide +kernel
theorem dX8_takeNumber_5 : decode cX8_takeNumber 5 = .ok (.iload_n 3, 1) := by decide +kernel
theorem dX8_takeNumber_6 : decode cX8_takeNumber 6 = .ok (.i2l, 1) := by decide +kernel
theorem dX8_takeNumber_7 : decode cX8_takeNumber 7 = .ok (.ldc2_w 169, 3) := by decide +kernel
theorem dX8_takeNumber_10 : decode cX8_takeNumber 10 = .ok (.ldc2_w 171, 3) := by decide +kernel
theorem dX8_takeNumber_13 : decode cX8_takeNumber 13 = .ok (.invokestatic 123, 3) := by decide +kernel
theorem dX8_takeNumber_16 : decode cX8_takeNumber 16 = .ok (.ifCond .ne 13, 3) := by decide +kernel
theorem dX8_takeNumber_19 : decode cX8_takeNumber 19 = .ok (.aload_n 0, 1) := by decide +kernel
theorem dX8_takeNumber_20 : decode cX8_takeNumber 20 = .ok (.iconst 1, 1) := by decide +kernel
theorem dX8_takeNumber_21 : decode cX8_takeNumber 21 = .ok (.aload_n 0, 1) := by decide +kernel
theorem dX8_takeNumber_22 : decode cX8_takeNumber 22 = .ok (.getfield 143, 3) := by decide +kernel
theorem dX8_takeNumber_25 : decode cX8_takeNumber 25 = .ok (.invokevirtual 173, 3) := by decide +kernel
theorem dX8_takeNumber_28 : decode cX8_takeNumber 28 = .ok (.ireturn, 1) := by decide +kernel
theorem dX8_takeNumber_29 : decode cX8_takeNumber 29 = .ok (.aload_n 0, 1) := by decide +kernel
theorem dX8_takeNumber_30 : decode cX8_takeNumber 30 = .ok (.aload_n 0, 1) := by decide +kernel
theorem dX8_takeNumber_31 : decode cX8_takeNumber 31 = .ok (.getfield 143, 3) := by decide +kernel
theorem dX8_takeNumber_34 : decode cX8_takeNumber 34 = .ok (.putfield 177, 3) := by decide +kernel
theorem dX8_takeNumber_37 : decode cX8_takeNumber 37 = .ok (.aload_n 0, 1) := by decide +kernel
theorem dX8_takeNumber_38 : decode cX8_takeNumber 38 = .ok (.iconst 0, 1) := by decide +kernel
theorem dX8_takeNumber_39 : decode cX8_takeNumber 39 = .ok (.putfield 180, 3) := by decide +kernel
theorem dX8_takeNumber_42 : decode cX8_takeNumber 42 = .ok (.aload_n 0, 1) := by decide +kernel
theorem dX8_takeNumber_43 : decode cX8_takeNumber 43 = .ok (.getfield 143, 3) := by decide +kernel
theorem dX8_takeNumber_46 : decode cX8_takeNumber 46 = .ok (.aload_n 0, 1) := by decide +kernel
theorem dX8_takeNumber_47 : decode cX8_takeNumber 47 = .ok (.getfield 137, 3) := by decide +kernel
theorem dX8_takeNumber_50 : decode cX8_takeNumber 50 = .ok (.if_icmp .ge 79, 3) := by decide +kernel
theorem dX8_takeNumber_53 : decode cX8_takeNumber 53 = .ok (.aload_n 0, 1) := by decide +kernel
theorem dX8_takeNumber_54 : decode cX8_takeNumber 54 = .ok (.getfield 46, 3) := by decide +kernel
theorem dX8_takeNumber_57 : decode cX8_takeNumber 57 = .ok (.aload_n 0, 1) := by decide +kernel
theorem dX8_takeNumber_58 : decode cX8_takeNumber 58 = .ok (.getfield 143, 3) := by decide +kernel
theorem dX8_takeNumber_61 : decode cX8_takeNumber 61 = .ok (.iaload, 1) := by decide +kernel
theorem dX8_takeNumber_62 : decode cX8_takeNumber 62 = .ok (.i2l, 1) := by decide +kernel
theorem dX8_takeNumber_63 : decode cX8_takeNumber 63 = .ok (.ldc2_w 169, 3) := by decide +kernel
theorem dX8_takeNumber_66 : decode cX8_takeNumber 66 = .ok (.ldc2_w 171, 3) := by decide +kernel
theorem dX8_takeNumber_69 : decode cX8_takeNumber 69 = .ok (.invokestatic 123, 3) := by decide +kernel
theorem dX8_takeNumber_72 : decode cX8_takeNumber 72 = .ok (.ifCond .eq 57, 3) := by decide +kernel
theorem dX8_takeNumber_75 : decode cX8_takeNumber 75 = .ok (.aload_n 0, 1) := by decide +kernel
theorem dX8_takeNumber_76 : decode cX8_takeNumber 76 = .ok (.aload_n 0, 1) := by decide +kernel
theorem dX8_takeNumber_77 : decode cX8_takeNumber 77 = .ok (.getfield 180, 3) := by decide +kernel
theorem dX8_takeNumber_80 : decode cX8_takeNumber 80 = .ok (.sipush 10000, 3) := by decide +kernel
theorem dX8_takeNumber_83 : decode cX8_takeNumber 83 = .ok (.if_icmp .le 10, 3) := by decide +kernel
theorem dX8_takeNumber_86 : decode cX8_takeNumber 86 = .ok (.aload_n 0, 1) := by decide +kernel
theorem dX8_takeNumber_87 : decode cX8_takeNumber 87 = .ok (.getfield 180, 3) := by decide +kernel
theorem dX8_takeNumber_90 : decode cX8_takeNumber 90 = .ok (.goto 23, 3) := by decide +kernel
theorem dX8_takeNumber_93 : decode cX8_takeNumber 93 = .ok (.bipush 10, 2) := by decide +kernel
theorem dX8_takeNumber_95 : decode cX8_takeNumber 95 = .ok (.aload_n 0, 1) := by decide +kernel
theorem dX8_takeNumber_96 : decode cX8_takeNumber 96 = .ok (.getfield 180, 3) := by decide +kernel
theorem dX8_takeNumber_99 : decode cX8_takeNumber 99 = .ok (.imul, 1) := by decide +kernel
theorem dX8_takeNumber_100 : decode cX8_takeNumber 100 = .ok (.aload_n 0, 1) := by decide +kernel
theorem dX8_takeNumber_101 : decode cX8_takeNumber 101 = .ok (.getfield 46, 3) := by decide +kernel
theorem dX8_takeNumber_104 : decode cX8_takeNumber 104 = .ok (.aload_n 0, 1) := by decide +kernel
theorem dX8_takeNumber_105 : decode cX8_takeNumber 105 = .ok (.getfield 143, 3) := by decide +kernel
theorem dX8_takeNumber_108 : decode cX8_takeNumber 108 = .ok (.iaload, 1) := by decide +kernel
theorem dX8_takeNumber_109 : decode cX8_takeNumber 109 = .ok (.iadd, 1) := by decide +kernel
theorem dX8_takeNumber_110 : decode cX8_takeNumber 110 = .ok (.bipush 48, 2) := by decide +kernel
theorem dX8_takeNumber_112 : decode cX8_takeNumber 112 = .ok (.isub, 1) := by decide +kernel
theorem dX8_takeNumber_113 : decode cX8_takeNumber 113 = .ok (.putfield 180, 3) := by decide +kernel
theorem dX8_takeNumber_116 : decode cX8_takeNumber 116 = .ok (.aload_n 0, 1) := by decide +kernel
theorem dX8_takeNumber_117 : decode cX8_takeNumber 117 = .ok (.dup, 1) := by decide +kernel
theorem dX8_takeNumber_118 : decode cX8_takeNumber 118 = .ok (.getfield 143, 3) := by decide +kernel
theorem dX8_takeNumber_121 : decode cX8_takeNumber 121 = .ok (.iconst 1, 1) := by decide +kernel
theorem dX8_takeNumber_122 : decode cX8_takeNumber 122 = .ok (.iadd, 1) := by decide +kernel
theorem dX8_takeNumber_123 : decode cX8_takeNumber 123 = .ok (.putfield 143, 3) := by decide +kernel
theorem dX8_takeNumber_126 : decode cX8_takeNumber 126 = .ok (.goto (-84), 3) := by decide +kernel
theorem dX8_takeNumber_129 : decode cX8_takeNumber 129 = .ok (.aload_n 0, 1) := by decide +kernel
theorem dX8_takeNumber_130 : decode cX8_takeNumber 130 = .ok (.getfield 143, 3) := by decide +kernel
theorem dX8_takeNumber_133 : decode cX8_takeNumber 133 = .ok (.aload_n 0, 1) := by decide +kernel
theorem dX8_takeNumber_134 : decode cX8_takeNumber 134 = .ok (.getfield 177, 3) := by decide +kernel
theorem dX8_takeNumber_137 : decode cX8_takeNumber 137 = .ok (.isub, 1) := by decide +kernel
theorem dX8_takeNumber_138 : decode cX8_takeNumber 138 = .ok (.iconst 3, 1) := by decide +kernel
theorem dX8_takeNumber_139 : decode cX8_takeNumber 139 = .ok (.if_icmp .gt 18, 3) := by decide +kernel
theorem dX8_takeNumber_142 : decode cX8_takeNumber 142 = .ok (.aload_n 0, 1) := by decide +kernel
theorem dX8_takeNumber_143 : decode cX8_takeNumber 143 = .ok (.getfield 180, 3) := by decide +kernel
theorem dX8_takeNumber_146 : decode cX8_takeNumber 146 = .ok (.i2l, 1) := by decide +kernel
theorem dX8_takeNumber_147 : decode cX8_takeNumber 147 = .ok (.iload_n 1, 1) := by decide +kernel
theorem dX8_takeNumber_148 : decode cX8_takeNumber 148 = .ok (.i2l, 1) := by decide +kernel
theorem dX8_takeNumber_149 : decode cX8_takeNumber 149 = .ok (.iload_n 2, 1) := by decide +kernel
theorem dX8_takeNumber_150 : decode cX8_takeNumber 150 = .ok (.i2l, 1) := by decide +kernel
theorem dX8_takeNumber_151 : decode cX8_takeNumber 151 = .ok (.invokestatic 123, 3) := by decide +kernel
theorem dX8_takeNumber_154 : decode cX8_takeNumber 154 = .ok (.ifCond .ne 15, 3) := by decide +kernel
theorem dX8_takeNumber_157 : decode cX8_takeNumber 157 = .ok (.aload_n 0, 1) := by decide +kernel
theorem dX8_takeNumber_158 : decode cX8_takeNumber 158 = .ok (.iconst 2, 1) := by decide +kernel
theorem dX8_takeNumber_159 : decode cX8_takeNumber 159 = .ok (.aload_n 0, 1) := by decide +kernel
theorem dX8_takeNumber_160 : decode cX8_takeNumber 160 = .ok (.getfield 177, 3) := by decide +kernel
theorem dX8_takeNumber_163 : decode cX8_takeNumber 163 = .ok (.invokevirtual 173, 3) := by decide +kernel
theorem dX8_takeNumber_166 : decode cX8_takeNumber 166 = .ok (.goto 4, 3) := by decide +kernel
theorem dX8_takeNumber_169 : decode cX8_takeNumber 169 = .ok (.iconst 0, 1) := by decide +kernel
theorem dX8_takeNumber_170 : decode cX8_takeNumber 170 = .ok (.ireturn, 1) := by decide +kernel
theorem dX8_into_0 : decode cX8_into 0 = .ok (.aload_n 0, 1) := by decide +kernel
theorem dX8_into_1 : decode cX8_into 1 = .ok (.iload_n 3, 1) := by decide +kernel
theorem dX8_into_2 : decode cX8_into 2 = .ok (.iload 4, 2) := by decide +kernel
theorem dX8_into_4 : decode cX8_into 4 = .ok (.invokevirtual 183, 3) := by decide +kernel
theorem dX8_into_7 : decode cX8_into 7 = .ok (.istore 5, 2) := by decide +kernel
theorem dX8_into_9 : decode cX8_into 9 = .ok (.aload_n 1, 1) := by decide +kernel
theorem dX8_into_10 : decode cX8_into 10 = .ok (.iload_n 2, 1) := by decide +kernel
theorem dX8_into_11 : decode cX8_into 11 = .ok (.aload_n 0, 1) := by decide +kernel
theorem dX8_into_12 : decode cX8_into 12 = .ok (.getfield 180, 3) := by decide +kernel
theorem dX8_into_15 : decode cX8_into 15 = .ok (.iastore, 1) := by decide +kernel
theorem dX8_into_16 : decode cX8_into 16 = .ok (.iload 5, 2) := by decide +kernel
theorem dX8_into_18 : decode cX8_into 18 = .ok (.ireturn, 1) := by decide +kernel
theorem dX8_takeRoom_0 : decode cX8_takeRoom 0 = .ok (.aload_n 0, 1) := by decide +kernel
theorem dX8_takeRoom_1 : decode cX8_takeRoom 1 = .ok (.getfield 186, 3) := by decide +kernel
theorem dX8_takeRoom_4 : decode cX8_takeRoom 4 = .ok (.istore_n 1, 1) := by decide +kernel
theorem dX8_takeRoom_5 : decode cX8_takeRoom 5 = .ok (.aload_n 0, 1) := by decide +kernel
theorem dX8_takeRoom_6 : decode cX8_takeRoom 6 = .ok (.dup, 1) := by decide +kernel
theorem dX8_takeRoom_7 : decode cX8_takeRoom 7 = .ok (.getfield 186, 3) := by decide +kernel
theorem dX8_takeRoom_10 : decode cX8_takeRoom 10 = .ok (.iconst 1, 1) := by decide +kernel
theorem dX8_takeRoom_11 : decode cX8_takeRoom 11 = .ok (.iadd, 1) := by decide +kernel
theorem dX8_takeRoom_12 : decode cX8_takeRoom 12 = .ok (.putfield 186, 3) := by decide +kernel
theorem dX8_takeRoom_15 : decode cX8_takeRoom 15 = .ok (.aload_n 0, 1) := by decide +kernel
theorem dX8_takeRoom_16 : decode cX8_takeRoom 16 = .ok (.getfield 53, 3) := by decide +kernel
theorem dX8_takeRoom_19 : decode cX8_takeRoom 19 = .ok (.iload_n 1, 1) := by decide +kernel
theorem dX8_takeRoom_20 : decode cX8_takeRoom 20 = .ok (.iconst 0, 1) := by decide +kernel
theorem dX8_takeRoom_21 : decode cX8_takeRoom 21 = .ok (.iastore, 1) := by decide +kernel
theorem dX8_takeRoom_22 : decode cX8_takeRoom 22 = .ok (.iconst 1, 1) := by decide +kernel
theorem dX8_takeRoom_23 : decode cX8_takeRoom 23 = .ok (.istore_n 2, 1) := by decide +kernel
theorem dX8_takeRoom_24 : decode cX8_takeRoom 24 = .ok (.iload_n 2, 1) := by decide +kernel
theorem dX8_takeRoom_25 : decode cX8_takeRoom 25 = .ok (.ifCond .eq 104, 3) := by decide +kernel
theorem dX8_takeRoom_28 : decode cX8_takeRoom 28 = .ok (.aload_n 0, 1) := by decide +kernel
theorem dX8_takeRoom_29 : decode cX8_takeRoom 29 = .ok (.iconst 0, 1) := by decide +kernel
theorem dX8_takeRoom_30 : decode cX8_takeRoom 30 = .ok (.bipush 40, 2) := by decide +kernel
theorem dX8_takeRoom_32 : decode cX8_takeRoom 32 = .ok (.invokevirtual 183, 3) := by decide +kernel
theorem dX8_takeRoom_35 : decode cX8_takeRoom 35 = .ok (.istore_n 3, 1) := by decide +kernel
theorem dX8_takeRoom_36 : decode cX8_takeRoom 36 = .ok (.iload_n 3, 1) := by decide +kernel
theorem dX8_takeRoom_37 : decode cX8_takeRoom 37 = .ok (.ifCond .le 5, 3) := by decide +kernel
theorem dX8_takeRoom_40 : decode cX8_takeRoom 40 = .ok (.iload_n 3, 1) := by decide +kernel
theorem dX8_takeRoom_41 : decode cX8_takeRoom 41 = .ok (.ireturn, 1) := by decide +kernel
theorem dX8_takeRoom_42 : decode cX8_takeRoom 42 = .ok (.aload_n 0, 1) := by decide +kernel
theorem dX8_takeRoom_43 : decode cX8_takeRoom 43 = .ok (.getfield 53, 3) := by decide +kernel
theorem dX8_takeRoom_46 : decode cX8_takeRoom 46 = .ok (.iload_n 1, 1) := by decide +kernel
theorem dX8_takeRoom_47 : decode cX8_takeRoom 47 = .ok (.iaload, 1) := by decide +kernel
theorem dX8_takeRoom_48 : decode cX8_takeRoom 48 = .ok (.bipush 6, 2) := by decide +kernel
theorem dX8_takeRoom_50 : decode cX8_takeRoom 50 = .ok (.if_icmp .ne 13, 3) := by decide +kernel
theorem dX8_takeRoom_53 : decode cX8_takeRoom 53 = .ok (.aload_n 0, 1) := by decide +kernel
theorem dX8_takeRoom_54 : decode cX8_takeRoom 54 = .ok (.iconst 4, 1) := by decide +kernel
theorem dX8_takeRoom_55 : decode cX8_takeRoom 55 = .ok (.aload_n 0, 1) := by decide +kernel
theorem dX8_takeRoom_56 : decode cX8_takeRoom 56 = .ok (.getfield 177, 3) := by decide +kernel
theorem dX8_takeRoom_59 : decode cX8_takeRoom 59 = .ok (.invokevirtual 173, 3) := by decide +kernel
theorem dX8_takeRoom_62 : decode cX8_takeRoom 62 = .ok (.ireturn, 1) := by decide +kernel
theorem dX8_takeRoom_63 : decode cX8_takeRoom 63 = .ok (.aload_n 0, 1) := by decide +kernel
theorem dX8_takeRoom_64 : decode cX8_takeRoom 64 = .ok (.getfield 56, 3) := by decide +kernel
theorem dX8_takeRoom_67 : decode cX8_takeRoom 67 = .ok (.bipush 6, 2) := by decide +kernel
theorem dX8_takeRoom_69 : decode cX8_takeRoom 69 = .ok (.iload_n 1, 1) := by decide +kernel
theorem dX8_takeRoom_70 : decode cX8_takeRoom 70 = .ok (.imul, 1) := by decide +kernel
theorem dX8_takeRoom_71 : decode cX8_takeRoom 71 = .ok (.aload_n 0, 1) := by decide +kernel
theorem dX8_takeRoom_72 : decode cX8_takeRoom 72 = .ok (.getfield 53, 3) := by decide +kernel
theorem dX8_takeRoom_75 : decode cX8_takeRoom 75 = .ok (.iload_n 1, 1) := by decide +kernel
theorem dX8_takeRoom_76 : decode cX8_takeRoom 76 = .ok (.iaload, 1) := by decide +kernel
theorem dX8_takeRoom_77 : decode cX8_takeRoom 77 = .ok (.iadd, 1) := by decide +kernel
theorem dX8_takeRoom_78 : decode cX8_takeRoom 78 = .ok (.aload_n 0, 1) := by decide +kernel
theorem dX8_takeRoom_79 : decode cX8_takeRoom 79 = .ok (.getfield 180, 3) := by decide +kernel
theorem dX8_takeRoom_82 : decode cX8_takeRoom 82 = .ok (.iastore, 1) := by decide +kernel
theorem dX8_takeRoom_83 : decode cX8_takeRoom 83 = .ok (.aload_n 0, 1) := by decide +kernel
theorem dX8_takeRoom_84 : decode cX8_takeRoom 84 = .ok (.getfield 53, 3) := by decide +kernel
theorem dX8_takeRoom_87 : decode cX8_takeRoom 87 = .ok (.iload_n 1, 1) := by decide +kernel
theorem dX8_takeRoom_88 : decode cX8_takeRoom 88 = .ok (.dup2, 1) := by decide +kernel
theorem dX8_takeRoom_89 : decode cX8_takeRoom 89 = .ok (.iaload, 1) := by decide +kernel
theorem dX8_takeRoom_90 : decode cX8_takeRoom 90 = .ok (.iconst 1, 1) := by decide +kernel
theorem dX8_takeRoom_91 : decode cX8_takeRoom 91 = .ok (.iadd, 1) := by decide +kernel
theorem dX8_takeRoom_92 : decode cX8_takeRoom 92 = .ok (.iastore, 1) := by decide +kernel
theorem dX8_takeRoom_93 : decode cX8_takeRoom 93 = .ok (.aload_n 0, 1) := by decide +kernel
theorem dX8_takeRoom_94 : decode cX8_takeRoom 94 = .ok (.invokevirtual 146, 3) := by decide +kernel
theorem dX8_takeRoom_97 : decode cX8_takeRoom 97 = .ok (.bipush 44, 2) := by decide +kernel
theorem dX8_takeRoom_99 : decode cX8_takeRoom 99 = .ok (.if_icmp .ne 7, 3) := by decide +kernel
theorem dX8_takeRoom_102 : decode cX8_takeRoom 102 = .ok (.iconst 1, 1) := by decide +kernel
theorem dX8_takeRoom_103 : decode cX8_takeRoom 103 = .ok (.goto 4, 3) := by decide +kernel
theorem dX8_takeRoom_106 : decode cX8_takeRoom 106 = .ok (.iconst 0, 1) := by decide +kernel
theorem dX8_takeRoom_107 : decode cX8_takeRoom 107 = .ok (.istore_n 2, 1) := by decide +kernel
theorem dX8_takeRoom_108 : decode cX8_takeRoom 108 = .ok (.aload_n 0, 1) := by decide +kernel
theorem dX8_takeRoom_109 : decode cX8_takeRoom 109 = .ok (.dup, 1) := by decide +kernel
theorem dX8_takeRoom_110 : decode cX8_takeRoom 110 = .ok (.getfield 143, 3) := by decide +kernel
theorem dX8_takeRoom_113 : decode cX8_takeRoom 113 = .ok (.iload_n 2, 1) := by decide +kernel
theorem dX8_takeRoom_114 : decode cX8_takeRoom 114 = .ok (.ifCond .eq 7, 3) := by decide +kernel
theorem dX8_takeRoom_117 : decode cX8_takeRoom 117 = .ok (.iconst 1, 1) := by decide +kernel
theorem dX8_takeRoom_118 : decode cX8_takeRoom 118 = .ok (.goto 4, 3) := by decide +kernel
theorem dX8_takeRoom_121 : decode cX8_takeRoom 121 = .ok (.iconst 0, 1) := by decide +kernel
theorem dX8_takeRoom_122 : decode cX8_takeRoom 122 = .ok (.iadd, 1) := by decide +kernel
theorem dX8_takeRoom_123 : decode cX8_takeRoom 123 = .ok (.putfield 143, 3) := by decide +kernel
theorem dX8_takeRoom_126 : decode cX8_takeRoom 126 = .ok (.goto (-102), 3) := by decide +kernel
theorem dX8_takeRoom_129 : decode cX8_takeRoom 129 = .ok (.iconst 0, 1) := by decide +kernel
theorem dX8_takeRoom_130 : decode cX8_takeRoom 130 = .ok (.ireturn, 1) := by decide +kernel
theorem dX8_takePerson_0 : decode cX8_takePerson 0 = .ok (.aload_n 0, 1) := by decide +kernel
theorem dX8_takePerson_1 : decode cX8_takePerson 1 = .ok (.getfield 189, 3) := by decide +kernel
theorem dX8_takePerson_4 : decode cX8_takePerson 4 = .ok (.istore_n 1, 1) := by decide +kernel
theorem dX8_takePerson_5 : decode cX8_takePerson 5 = .ok (.aload_n 0, 1) := by decide +kernel
theorem dX8_takePerson_6 : decode cX8_takePerson 6 = .ok (.aload_n 0, 1) := by decide +kernel
theorem dX8_takePerson_7 : decode cX8_takePerson 7 = .ok (.getfield 59, 3) := by decide +kernel
theorem dX8_takePerson_10 : decode cX8_takePerson 10 = .ok (.iload_n 1, 1) := by decide +kernel
theorem dX8_takePerson_11 : decode cX8_takePerson 11 = .ok (.iconst 0, 1) := by decide +kernel
theorem dX8_takePerson_12 : decode cX8_takePerson 12 = .ok (.bipush 99, 2) := by decide +kernel
theorem dX8_takePerson_14 : decode cX8_takePerson 14 = .ok (.invokevirtual 192, 3) := by decide +kernel
theorem dX8_takePerson_17 : decode cX8_takePerson 17 = .ok (.istore_n 2, 1) := by decide +kernel
theorem dX8_takePerson_18 : decode cX8_takePerson 18 = .ok (.iconst 0, 1) := by decide +kernel
theorem dX8_takePerson_19 : decode cX8_takePerson 19 = .ok (.istore_n 3, 1) := by decide +kernel
theorem dX8_takePerson_20 : decode cX8_takePerson 20 = .ok (.iload_n 3, 1) := by decide +kernel
theorem dX8_takePerson_21 : decode cX8_takePerson 21 = .ok (.iload_n 1, 1) := by decide +kernel
theorem dX8_takePerson_22 : decode cX8_takePerson 22 = .ok (.if_icmp .ge 40, 3) := by decide +kernel
theorem dX8_takePerson_25 : decode cX8_takePerson 25 = .ok (.iload_n 2, 1) := by decide +kernel
theorem dX8_takePerson_26 : decode cX8_takePerson 26 = .ok (.ifCond .ne 36, 3) := by decide +kernel
theorem dX8_takePerson_29 : decode cX8_takePerson 29 = .ok (.aload_n 0, 1) := by decide +kernel
theorem dX8_takePerson_30 : decode cX8_takePerson 30 = .ok (.getfield 59, 3) := by decide +kernel
theorem dX8_takePerson_33 : decode cX8_takePerson 33 = .ok (.iload_n 3, 1) := by decide +kernel
theorem dX8_takePerson_34 : decode cX8_takePerson 34 = .ok (.iaload, 1) := by decide +kernel
theorem dX8_takePerson_35 : decode cX8_takePerson 35 = .ok (.aload_n 0, 1) := by decide +kernel
theorem dX8_takePerson_36 : decode cX8_takePerson 36 = .ok (.getfield 180, 3) := by decide +kernel
theorem dX8_takePerson_39 : decode cX8_takePerson 39 = .ok (.if_icmp .ne 15, 3) := by decide +kernel
theorem dX8_takePerson_42 : decode cX8_takePerson 42 = .ok (.aload_n 0, 1) := by decide +kernel
theorem dX8_takePerson_43 : decode cX8_takePerson 43 = .ok (.iconst 4, 1) := by decide +kernel
theorem dX8_takePerson_44 : decode cX8_takePerson 44 = .ok (.aload_n 0, 1) := by decide +kernel
theorem dX8_takePerson_45 : decode cX8_takePerson 45 = .ok (.getfield 177, 3) := by decide +kernel
theorem dX8_takePerson_48 : decode cX8_takePerson 48 = .ok (.invokevirtual 173, 3) := by decide +kernel
theorem dX8_takePerson_51 : decode cX8_takePerson 51 = .ok (.goto 4, 3) := by decide +kernel
theorem dX8_takePerson_54 : decode cX8_takePerson 54 = .ok (.iconst 0, 1) := by decide +kernel
theorem dX8_takePerson_55 : decode cX8_takePerson 55 = .ok (.istore_n 2, 1) := by decide +kernel
theorem dX8_takePerson_56 : decode cX8_takePerson 56 = .ok (.iinc 3 1, 3) := by decide +kernel
theorem dX8_takePerson_59 : decode cX8_takePerson 59 = .ok (.goto (-39), 3) := by decide +kernel
theorem dX8_takePerson_62 : decode cX8_takePerson 62 = .ok (.iload_n 2, 1) := by decide +kernel
theorem dX8_takePerson_63 : decode cX8_takePerson 63 = .ok (.ifCond .le 7, 3) := by decide +kernel
theorem dX8_takePerson_66 : decode cX8_takePerson 66 = .ok (.iload_n 2, 1) := by decide +kernel
theorem dX8_takePerson_67 : decode cX8_takePerson 67 = .ok (.goto 16, 3) := by decide +kernel
theorem dX8_takePerson_70 : decode cX8_takePerson 70 = .ok (.aload_n 0, 1) := by decide +kernel
theorem dX8_takePerson_71 : decode cX8_takePerson 71 = .ok (.aload_n 0, 1) := by decide +kernel
theorem dX8_takePerson_72 : decode cX8_takePerson 72 = .ok (.getfield 62, 3) := by decide +kernel
theorem dX8_takePerson_75 : decode cX8_takePerson 75 = .ok (.iload_n 1, 1) := by decide +kernel
theorem dX8_takePerson_76 : decode cX8_takePerson 76 = .ok (.bipush 20, 2) := by decide +kernel
theorem dX8_takePerson_78 : decode cX8_takePerson 78 = .ok (.bipush 90, 2) := by decide +kernel
theorem dX8_takePerson_80 : decode cX8_takePerson 80 = .ok (.invokevirtual 192, 3) := by decide +kernel
theorem dX8_takePerson_83 : decode cX8_takePerson 83 = .ok (.istore_n 2, 1) := by decide +kernel
theorem dX8_takePerson_84 : decode cX8_takePerson 84 = .ok (.iload_n 2, 1) := by decide +kernel
theorem dX8_takePerson_85 : decode cX8_takePerson 85 = .ok (.ifCond .le 7, 3) := by decide +kernel
theorem dX8_takePerson_88 : decode cX8_takePerson 88 = .ok (.iload_n 2, 1) := by decide +kernel
theorem dX8_takePerson_89 : decode cX8_takePerson 89 = .ok (.goto 15, 3) := by decide +kernel
theorem dX8_takePerson_92 : decode cX8_takePerson 92 = .ok (.aload_n 0, 1) := by decide +kernel
theorem dX8_takePerson_93 : decode cX8_takePerson 93 = .ok (.aload_n 0, 1) := by decide +kernel
theorem dX8_takePerson_94 : decode cX8_takePerson 94 = .ok (.getfield 65, 3) := by decide +kernel
theorem dX8_takePerson_97 : decode cX8_takePerson 97 = .ok (.iload_n 1, 1) := by decide +kernel
theorem dX8_takePerson_98 : decode cX8_takePerson 98 = .ok (.iconst 0, 1) := by decide +kernel
theorem dX8_takePerson_99 : decode cX8_takePerson 99 = .ok (.bipush 40, 2) := by decide +kernel
theorem dX8_takePerson_101 : decode cX8_takePerson 101 = .ok (.invokevirtual 192, 3) := by decide +kernel
theorem dX8_takePerson_104 : decode cX8_takePerson 104 = .ok (.istore_n 2, 1) := by decide +kernel
theorem dX8_takePerson_105 : decode cX8_takePerson 105 = .ok (.iload_n 2, 1) := by decide +kernel
theorem dX8_takePerson_106 : decode cX8_takePerson 106 = .ok (.ifCond .le 7, 3) := by decide +kernel
theorem dX8_takePerson_109 : decode cX8_takePerson 109 = .ok (.iload_n 2, 1) := by decide +kernel
theorem dX8_takePerson_110 : decode cX8_takePerson 110 = .ok (.goto 15, 3) := by decide +kernel
theorem dX8_takePerson_113 : decode cX8_takePerson 113 = .ok (.aload_n 0, 1) := by decide +kernel
theorem dX8_takePerson_114 : decode cX8_takePerson 114 = .ok (.aload_n 0, 1) := by decide +kernel
theorem dX8_takePerson_115 : decode cX8_takePerson 115 = .ok (.getfield 68, 3) := by decide +kernel
theorem dX8_takePerson_118 : decode cX8_takePerson 118 = .ok (.iload_n 1, 1) := by decide +kernel
theorem dX8_takePerson_119 : decode cX8_takePerson 119 = .ok (.iconst 0, 1) := by decide +kernel
theorem dX8_takePerson_120 : decode cX8_takePerson 120 = .ok (.bipush 9, 2) := by decide +kernel
theorem dX8_takePerson_122 : decode cX8_takePerson 122 = .ok (.invokevirtual 192, 3) := by decide +kernel
theorem dX8_takePerson_125 : decode cX8_takePerson 125 = .ok (.istore_n 2, 1) := by decide +kernel
theorem dX8_takePerson_126 : decode cX8_takePerson 126 = .ok (.aload_n 0, 1) := by decide +kernel
theorem dX8_takePerson_127 : decode cX8_takePerson 127 = .ok (.dup, 1) := by decide +kernel
theorem dX8_takePerson_128 : decode cX8_takePerson 128 = .ok (.getfield 189, 3) := by decide +kernel
theorem dX8_takePerson_131 : decode cX8_takePerson 131 = .ok (.iconst 1, 1) := by decide +kernel
theorem dX8_takePerson_132 : decode cX8_takePerson 132 = .ok (.iadd, 1) := by decide +kernel
theorem dX8_takePerson_133 : decode cX8_takePerson 133 = .ok (.putfield 189, 3) := by decide +kernel
theorem dX8_takePerson_136 : decode cX8_takePerson 136 = .ok (.iload_n 2, 1) := by decide +kernel
theorem dX8_takePerson_137 : decode cX8_takePerson 137 = .ok (.ireturn, 1) := by decide +kernel
theorem dX8_takeFriends_0 : decode cX8_takeFriends 0 = .ok (.aload_n 0, 1) := by decide +kernel
theorem dX8_takeFriends_1 : decode cX8_takeFriends 1 = .ok (.iconst 0, 1) := by decide +kernel
theorem dX8_takeFriends_2 : decode cX8_takeFriends 2 = .ok (.aload_n 0, 1) := by decide +kernel
theorem dX8_takeFriends_3 : decode cX8_takeFriends 3 = .ok (.getfield 189, 3) := by decide +kernel
theorem dX8_takeFriends_6 : decode cX8_takeFriends 6 = .ok (.iconst 1, 1) := by decide +kernel
theorem dX8_takeFriends_7 : decode cX8_takeFriends 7 = .ok (.isub, 1) := by decide +kernel
theorem dX8_takeFriends_8 : decode cX8_takeFriends 8 = .ok (.invokevirtual 183, 3) := by decide +kernel
theorem dX8_takeFriends_11 : decode cX8_takeFriends 11 = .ok (.istore_n 1, 1) := by decide +kernel
theorem dX8_takeFriends_12 : decode cX8_takeFriends 12 = .ok (.aload_n 0, 1) := by decide +kernel
theorem dX8_takeFriends_13 : decode cX8_takeFriends 13 = .ok (.getfield 180, 3) := by decide +kernel
theorem dX8_takeFriends_16 : decode cX8_takeFriends 16 = .ok (.istore_n 2, 1) := by decide +kernel
theorem dX8_takeFriends_17 : decode cX8_takeFriends 17 = .ok (.iload_n 1, 1) := by decide +kernel
theorem dX8_takeFriends_18 : decode cX8_takeFriends 18 = .ok (.ifCond .le 7, 3) := by decide +kernel
theorem dX8_takeFriends_21 : decode cX8_takeFriends 21 = .ok (.iload_n 1, 1) := by decide +kernel
theorem dX8_takeFriends_22 : decode cX8_takeFriends 22 = .ok (.goto 14, 3) := by decide +kernel
theorem dX8_takeFriends_25 : decode cX8_takeFriends 25 = .ok (.aload_n 0, 1) := by decide +kernel
theorem dX8_takeFriends_26 : decode cX8_takeFriends 26 = .ok (.iconst 0, 1) := by decide +kernel
theorem dX8_takeFriends_27 : decode cX8_takeFriends 27 = .ok (.aload_n 0, 1) := by decide +kernel
theorem dX8_takeFriends_28 : decode cX8_takeFriends 28 = .ok (.getfield 189, 3) := by decide +kernel
theorem dX8_takeFriends_31 : decode cX8_takeFriends 31 = .ok (.iconst 1, 1) := by decide +kernel
theorem dX8_takeFriends_32 : decode cX8_takeFriends 32 = .ok (.isub, 1) := by decide +kernel
theorem dX8_takeFriends_33 : decode cX8_takeFriends 33 = .ok (.invokevirtual 183, 3) := by decide +kernel
theorem dX8_takeFriends_36 : decode cX8_takeFriends 36 = .ok (.istore_n 1, 1) := by decide +kernel
theorem dX8_takeFriends_37 : decode cX8_takeFriends 37 = .ok (.iload_n 1, 1) := by decide +kernel
theorem dX8_takeFriends_38 : decode cX8_takeFriends 38 = .ok (.ifCond .le 5, 3) := by decide +kernel
theorem dX8_takeFriends_41 : decode cX8_takeFriends 41 = .ok (.iload_n 1, 1) := by decide +kernel
theorem dX8_takeFriends_42 : decode cX8_takeFriends 42 = .ok (.ireturn, 1) := by decide +kernel
theorem dX8_takeFriends_43 : decode cX8_takeFriends 43 = .ok (.aload_n 0, 1) := by decide +kernel
theorem dX8_takeFriends_44 : decode cX8_takeFriends 44 = .ok (.getfield 180, 3) := by decide +kernel
theorem dX8_takeFriends_47 : decode cX8_takeFriends 47 = .ok (.istore_n 3, 1) := by decide +kernel
theorem dX8_takeFriends_48 : decode cX8_takeFriends 48 = .ok (.iload_n 2, 1) := by decide +kernel
theorem dX8_takeFriends_49 : decode cX8_takeFriends 49 = .ok (.iload_n 3, 1) := by decide +kernel
theorem dX8_takeFriends_50 : decode cX8_takeFriends 50 = .ok (.if_icmp .eq 17, 3) := by decide +kernel
theorem dX8_takeFriends_53 : decode cX8_takeFriends 53 = .ok (.aload_n 0, 1) := by decide +kernel
theorem dX8_takeFriends_54 : decode cX8_takeFriends 54 = .ok (.getfield 71, 3) := by decide +kernel
theorem dX8_takeFriends_57 : decode cX8_takeFriends 57 = .ok (.bipush 6, 2) := by decide +kernel
theorem dX8_takeFriends_59 : decode cX8_takeFriends 59 = .ok (.iload_n 2, 1) := by decide +kernel
theorem dX8_takeFriends_60 : decode cX8_takeFriends 60 = .ok (.imul, 1) := by decide +kernel
theorem dX8_takeFriends_61 : decode cX8_takeFriends 61 = .ok (.iload_n 3, 1) := by decide +kernel
theorem dX8_takeFriends_62 : decode cX8_takeFriends 62 = .ok (.iadd, 1) := by decide +kernel
theorem dX8_takeFriends_63 : decode cX8_takeFriends 63 = .ok (.iaload, 1) := by decide +kernel
theorem dX8_takeFriends_64 : decode cX8_takeFriends 64 = .ok (.ifCond .le 13, 3) := by decide +kernel
theorem dX8_takeFriends_67 : decode cX8_takeFriends 67 = .ok (.aload_n 0, 1) := by decide +kernel
theorem dX8_takeFriends_68 : decode cX8_takeFriends 68 = .ok (.iconst 4, 1) := by decide +kernel
theorem dX8_takeFriends_69 : decode cX8_takeFriends 69 = .ok (.aload_n 0, 1) := by decide +kernel
theorem dX8_takeFriends_70 : decode cX8_takeFriends 70 = .ok (.getfield 177, 3) := by decide +kernel
theorem dX8_takeFriends_73 : decode cX8_takeFriends 73 = .ok (.invokevirtual 173, 3) := by decide +kernel
theorem dX8_takeFriends_76 : decode cX8_takeFriends 76 = .ok (.ireturn, 1) := by decide +kernel
theorem dX8_takeFriends_77 : decode cX8_takeFriends 77 = .ok (.aload_n 0, 1) := by decide +kernel
theorem dX8_takeFriends_78 : decode cX8_takeFriends 78 = .ok (.aload_n 0, 1) := by decide +kernel
theorem dX8_takeFriends_79 : decode cX8_takeFriends 79 = .ok (.getfield 71, 3) := by decide +kernel
theorem dX8_takeFriends_82 : decode cX8_takeFriends 82 = .ok (.bipush 6, 2) := by decide +kernel
theorem dX8_takeFriends_84 : decode cX8_takeFriends 84 = .ok (.iload_n 2, 1) := by decide +kernel
theorem dX8_takeFriends_85 : decode cX8_takeFriends 85 = .ok (.imul, 1) := by decide +kernel
theorem dX8_takeFriends_86 : decode cX8_takeFriends 86 = .ok (.iload_n 3, 1) := by decide +kernel
theorem dX8_takeFriends_87 : decode cX8_takeFriends 87 = .ok (.iadd, 1) := by decide +kernel
theorem dX8_takeFriends_88 : decode cX8_takeFriends 88 = .ok (.iconst 1, 1) := by decide +kernel
theorem dX8_takeFriends_89 : decode cX8_takeFriends 89 = .ok (.bipush 99, 2) := by decide +kernel
theorem dX8_takeFriends_91 : decode cX8_takeFriends 91 = .ok (.invokevirtual 192, 3) := by decide +kernel
theorem dX8_takeFriends_94 : decode cX8_takeFriends 94 = .ok (.istore_n 1, 1) := by decide +kernel
theorem dX8_takeFriends_95 : decode cX8_takeFriends 95 = .ok (.aload_n 0, 1) := by decide +kernel
theorem dX8_takeFriends_96 : decode cX8_takeFriends 96 = .ok (.getfield 71, 3) := by decide +kernel
theorem dX8_takeFriends_99 : decode cX8_takeFriends 99 = .ok (.bipush 6, 2) := by decide +kernel
theorem dX8_takeFriends_101 : decode cX8_takeFriends 101 = .ok (.iload_n 3, 1) := by decide +kernel
theorem dX8_takeFriends_102 : decode cX8_takeFriends 102 = .ok (.imul, 1) := by decide +kernel
theorem dX8_takeFriends_103 : decode cX8_takeFriends 103 = .ok (.iload_n 2, 1) := by decide +kernel
theorem dX8_takeFriends_104 : decode cX8_takeFriends 104 = .ok (.iadd, 1) := by decide +kernel
theorem dX8_takeFriends_105 : decode cX8_takeFriends 105 = .ok (.aload_n 0, 1) := by decide +kernel
theorem dX8_takeFriends_106 : decode cX8_takeFriends 106 = .ok (.getfield 180, 3) := by decide +kernel
theorem dX8_takeFriends_109 : decode cX8_takeFriends 109 = .ok (.iastore, 1) := by decide +kernel
theorem dX8_takeFriends_110 : decode cX8_takeFriends 110 = .ok (.aload_n 0, 1) := by decide +kernel
theorem dX8_takeFriends_111 : decode cX8_takeFriends 111 = .ok (.dup, 1) := by decide +kernel
theorem dX8_takeFriends_112 : decode cX8_takeFriends 112 = .ok (.getfield 196, 3) := by decide +kernel
theorem dX8_takeFriends_115 : decode cX8_takeFriends 115 = .ok (.iconst 1, 1) := by decide +kernel
theorem dX8_takeFriends_116 : decode cX8_takeFriends 116 = .ok (.iadd, 1) := by decide +kernel
theorem dX8_takeFriends_117 : decode cX8_takeFriends 117 = .ok (.putfield 196, 3) := by decide +kernel
theorem dX8_takeFriends_120 : decode cX8_takeFriends 120 = .ok (.iload_n 1, 1) := by decide +kernel
theorem dX8_takeFriends_121 : decode cX8_takeFriends 121 = .ok (.ireturn, 1) := by decide +kernel
theorem dX8_takeClause_0 : decode cX8_takeClause 0 = .ok (.aload_n 0, 1) := by decide +kernel
theorem dX8_takeClause_1 : decode cX8_takeClause 1 = .ok (.invokevirtual 199, 3) := by decide +kernel
theorem dX8_takeClause_4 : decode cX8_takeClause 4 = .ok (.aload_n 0, 1) := by decide +kernel
theorem dX8_takeClause_5 : decode cX8_takeClause 5 = .ok (.getfield 150, 3) := by decide +kernel
theorem dX8_takeClause_8 : decode cX8_takeClause 8 = .ok (.bipush 114, 2) := by decide +kernel
theorem dX8_takeClause_10 : decode cX8_takeClause 10 = .ok (.bipush 111, 2) := by decide +kernel
theorem dX8_takeClause_12 : decode cX8_takeClause 12 = .ok (.bipush 111, 2) := by decide +kernel
theorem dX8_takeClause_14 : decode cX8_takeClause 14 = .ok (.bipush 109, 2) := by decide +kernel
theorem dX8_takeClause_16 : decode cX8_takeClause 16 = .ok (.invokestatic 202, 3) := by decide +kernel
theorem dX8_takeClause_19 : decode cX8_takeClause 19 = .ok (.lcmp, 1) := by decide +kernel
theorem dX8_takeClause_20 : decode cX8_takeClause 20 = .ok (.ifCond .ne 7, 3) := by decide +kernel
theorem dX8_takeClause_23 : decode cX8_takeClause 23 = .ok (.iconst 0, 1) := by decide +kernel
theorem dX8_takeClause_24 : decode cX8_takeClause 24 = .ok (.goto 76, 3) := by decide +kernel
theorem dX8_takeClause_27 : decode cX8_takeClause 27 = .ok (.aload_n 0, 1) := by decide +kernel
theorem dX8_takeClause_28 : decode cX8_takeClause 28 = .ok (.getfield 150, 3) := by decide +kernel
theorem dX8_takeClause_31 : decode cX8_takeClause 31 = .ok (.bipush 112, 2) := by decide +kernel
theorem dX8_takeClause_33 : decode cX8_takeClause 33 = .ok (.bipush 101, 2) := by decide +kernel
theorem dX8_takeClause_35 : decode cX8_takeClause 35 = .ok (.bipush 114, 2) := by decide +kernel
theorem dX8_takeClause_37 : decode cX8_takeClause 37 = .ok (.bipush 115, 2) := by decide +kernel
theorem dX8_takeClause_39 : decode cX8_takeClause 39 = .ok (.invokestatic 202, 3) := by decide +kernel
theorem dX8_takeClause_42 : decode cX8_takeClause 42 = .ok (.bipush 111, 2) := by decide +kernel
theorem dX8_takeClause_44 : decode cX8_takeClause 44 = .ok (.bipush 110, 2) := by decide +kernel
theorem dX8_takeClause_46 : decode cX8_takeClause 46 = .ok (.invokestatic 206, 3) := by decide +kernel
theorem dX8_takeClause_49 : decode cX8_takeClause 49 = .ok (.lcmp, 1) := by decide +kernel
theorem dX8_takeClause_50 : decode cX8_takeClause 50 = .ok (.ifCond .ne 7, 3) := by decide +kernel
theorem dX8_takeClause_53 : decode cX8_takeClause 53 = .ok (.iconst 1, 1) := by decide +kernel
theorem dX8_takeClause_54 : decode cX8_takeClause 54 = .ok (.goto 46, 3) := by decide +kernel
theorem dX8_takeClause_57 : decode cX8_takeClause 57 = .ok (.aload_n 0, 1) := by decide +kernel
theorem dX8_takeClause_58 : decode cX8_takeClause 58 = .ok (.getfield 150, 3) := by decide +kernel
theorem dX8_takeClause_61 : decode cX8_takeClause 61 = .ok (.ldc2_w 165, 3) := by decide +kernel
theorem dX8_takeClause_64 : decode cX8_takeClause 64 = .ok (.bipush 102, 2) := by decide +kernel
theorem dX8_takeClause_66 : decode cX8_takeClause 66 = .ok (.bipush 114, 2) := by decide +kernel
theorem dX8_takeClause_68 : decode cX8_takeClause 68 = .ok (.bipush 105, 2) := by decide +kernel
theorem dX8_takeClause_70 : decode cX8_takeClause 70 = .ok (.bipush 101, 2) := by decide +kernel
theorem dX8_takeClause_72 : decode cX8_takeClause 72 = .ok (.invokestatic 202, 3) := by decide +kernel
theorem dX8_takeClause_75 : decode cX8_takeClause 75 = .ok (.bipush 110, 2) := by decide +kernel
theorem dX8_takeClause_77 : decode cX8_takeClause 77 = .ok (.bipush 100, 2) := by decide +kernel
theorem dX8_takeClause_79 : decode cX8_takeClause 79 = .ok (.invokestatic 206, 3) := by decide +kernel
theorem dX8_takeClause_82 : decode cX8_takeClause 82 = .ok (.lmul, 1) := by decide +kernel
theorem dX8_takeClause_83 : decode cX8_takeClause 83 = .ok (.ldc2_w 210, 3) := by decide +kernel
theorem dX8_takeClause_86 : decode cX8_takeClause 86 = .ok (.ladd, 1) := by decide +kernel
theorem dX8_takeClause_87 : decode cX8_takeClause 87 = .ok (.ldc2_w 167, 3) := by decide +kernel
theorem dX8_takeClause_90 : decode cX8_takeClause 90 = .ok (.lsub, 1) := by decide +kernel
theorem dX8_takeClause_91 : decode cX8_takeClause 91 = .ok (.lcmp, 1) := by decide +kernel
theorem dX8_takeClause_92 : decode cX8_takeClause 92 = .ok (.ifCond .ne 7, 3) := by decide +kernel
theorem dX8_takeClause_95 : decode cX8_takeClause 95 = .ok (.iconst 2, 1) := by decide +kernel
theorem dX8_takeClause_96 : decode cX8_takeClause 96 = .ok (.goto 4, 3) := by decide +kernel
theorem dX8_takeClause_99 : decode cX8_takeClause 99 = .ok (.iconst (-1), 1) := by decide +kernel
theorem dX8_takeClause_100 : decode cX8_takeClause 100 = .ok (.istore_n 1, 1) := by decide +kernel
theorem dX8_takeClause_101 : decode cX8_takeClause 101 = .ok (.iload_n 1, 1) := by decide +kernel
theorem dX8_takeClause_102 : decode cX8_takeClause 102 = .ok (.ifCond .ge 13, 3) := by decide +kernel
theorem dX8_takeClause_105 : decode cX8_takeClause 105 = .ok (.aload_n 0, 1) := by decide +kernel
theorem dX8_takeClause_106 : decode cX8_takeClause 106 = .ok (.iconst 1, 1) := by decide +kernel
theorem dX8_takeClause_107 : decode cX8_takeClause 107 = .ok (.aload_n 0, 1) := by decide +kernel
theorem dX8_takeClause_108 : decode cX8_takeClause 108 = .ok (.getfield 143, 3) := by decide +kernel
theorem dX8_takeClause_111 : decode cX8_takeClause 111 = .ok (.invokevirtual 173, 3) := by decide +kernel
theorem dX8_takeClause_114 : decode cX8_takeClause 114 = .ok (.ireturn, 1) := by decide +kernel
theorem dX8_takeClause_115 : decode cX8_takeClause 115 = .ok (.iload_n 1, 1) := by decide +kernel
theorem dX8_takeClause_116 : decode cX8_takeClause 116 = .ok (.ifCond .ne 14, 3) := by decide +kernel
theorem dX8_takeClause_119 : decode cX8_takeClause 119 = .ok (.aload_n 0, 1) := by decide +kernel
theorem dX8_takeClause_120 : decode cX8_takeClause 120 = .ok (.getfield 186, 3) := by decide +kernel
theorem dX8_takeClause_123 : decode cX8_takeClause 123 = .ok (.iconst 3, 1) := by decide +kernel
theorem dX8_takeClause_124 : decode cX8_takeClause 124 = .ok (.if_icmp .ne 42, 3) := by decide +kernel
theorem dX8_takeClause_127 : decode cX8_takeClause 127 = .ok (.goto 29, 3) := by decide +kernel
theorem dX8_takeClause_130 : decode cX8_takeClause 130 = .ok (.iload_n 1, 1) := by decide +kernel
theorem dX8_takeClause_131 : decode cX8_takeClause 131 = .ok (.iconst 1, 1) := by decide +kernel
theorem dX8_takeClause_132 : decode cX8_takeClause 132 = .ok (.if_icmp .ne 15, 3) := by decide +kernel
theorem dX8_takeClause_135 : decode cX8_takeClause 135 = .ok (.aload_n 0, 1) := by decide +kernel
theorem dX8_takeClause_136 : decode cX8_takeClause 136 = .ok (.getfield 189, 3) := by decide +kernel
theorem dX8_takeClause_139 : decode cX8_takeClause 139 = .ok (.bipush 6, 2) := by decide +kernel
theorem dX8_takeClause_141 : decode cX8_takeClause 141 = .ok (.if_icmp .ne 25, 3) := by decide +kernel
theorem dX8_takeClause_144 : decode cX8_takeClause 144 = .ok (.goto 12, 3) := by decide +kernel
theorem dX8_takeClause_147 : decode cX8_takeClause 147 = .ok (.aload_n 0, 1) := by decide +kernel
theorem dX8_takeClause_148 : decode cX8_takeClause 148 = .ok (.getfield 196, 3) := by decide +kernel
theorem dX8_takeClause_151 : decode cX8_takeClause 151 = .ok (.bipush 15, 2) := by decide +kernel
theorem dX8_takeClause_153 : decode cX8_takeClause 153 = .ok (.if_icmp .ne 13, 3) := by decide +kernel
theorem dX8_takeClause_156 : decode cX8_takeClause 156 = .ok (.aload_n 0, 1) := by decide +kernel
theorem dX8_takeClause_157 : decode cX8_takeClause 157 = .ok (.iconst 3, 1) := by decide +kernel
theorem dX8_takeClause_158 : decode cX8_takeClause 158 = .ok (.aload_n 0, 1) := by decide +kernel
theorem dX8_takeClause_159 : decode cX8_takeClause 159 = .ok (.getfield 143, 3) := by decide +kernel
theorem dX8_takeClause_162 : decode cX8_takeClause 162 = .ok (.invokevirtual 173, 3) := by decide +kernel
theorem dX8_takeClause_165 : decode cX8_takeClause 165 = .ok (.ireturn, 1) := by decide +kernel
theorem dX8_takeClause_166 : decode cX8_takeClause 166 = .ok (.aload_n 0, 1) := by decide +kernel
theorem dX8_takeClause_167 : decode cX8_takeClause 167 = .ok (.aload_n 0, 1) := by decide +kernel
theorem dX8_takeClause_168 : decode cX8_takeClause 168 = .ok (.getfield 154, 3) := by decide +kernel
theorem dX8_takeClause_171 : decode cX8_takeClause 171 = .ok (.putfield 143, 3) := by decide +kernel
theorem dX8_takeClause_174 : decode cX8_takeClause 174 = .ok (.iload_n 1, 1) := by decide +kernel
theorem dX8_takeClause_175 : decode cX8_takeClause 175 = .ok (.ifCond .ne 10, 3) := by decide +kernel
theorem dX8_takeClause_178 : decode cX8_takeClause 178 = .ok (.aload_n 0, 1) := by decide +kernel
theorem dX8_takeClause_179 : decode cX8_takeClause 179 = .ok (.invokevirtual 212, 3) := by decide +kernel
theorem dX8_takeClause_182 : decode cX8_takeClause 182 = .ok (.goto 19, 3) := by decide +kernel
theorem dX8_takeClause_185 : decode cX8_takeClause 185 = .ok (.iload_n 1, 1) := by decide +kernel
theorem dX8_takeClause_186 : decode cX8_takeClause 186 = .ok (.iconst 1, 1) := by decide +kernel
theorem dX8_takeClause_187 : decode cX8_takeClause 187 = .ok (.if_icmp .ne 10, 3) := by decide +kernel
theorem dX8_takeClause_190 : decode cX8_takeClause 190 = .ok (.aload_n 0, 1) := by decide +kernel
theorem dX8_takeClause_191 : decode cX8_takeClause 191 = .ok (.invokevirtual 215, 3) := by decide +kernel
theorem dX8_takeClause_194 : decode cX8_takeClause 194 = .ok (.goto 7, 3) := by decide +kernel
theorem dX8_takeClause_197 : decode cX8_takeClause 197 = .ok (.aload_n 0, 1) := by decide +kernel
theorem dX8_takeClause_198 : decode cX8_takeClause 198 = .ok (.invokevirtual 218, 3) := by decide +kernel
theorem dX8_takeClause_201 : decode cX8_takeClause 201 = .ok (.istore_n 2, 1) := by decide +kernel
theorem dX8_takeClause_202 : decode cX8_takeClause 202 = .ok (.iload_n 2, 1) := by decide +kernel
theorem dX8_takeClause_203 : decode cX8_takeClause 203 = .ok (.ifCond .ne 22, 3) := by decide +kernel
theorem dX8_takeClause_206 : decode cX8_takeClause 206 = .ok (.aload_n 0, 1) := by decide +kernel
theorem dX8_takeClause_207 : decode cX8_takeClause 207 = .ok (.invokevirtual 146, 3) := by decide +kernel
theorem dX8_takeClause_210 : decode cX8_takeClause 210 = .ok (.bipush 59, 2) := by decide +kernel
theorem dX8_takeClause_212 : decode cX8_takeClause 212 = .ok (.if_icmp .eq 13, 3) := by decide +kernel
theorem dX8_takeClause_215 : decode cX8_takeClause 215 = .ok (.aload_n 0, 1) := by decide +kernel
theorem dX8_takeClause_216 : decode cX8_takeClause 216 = .ok (.iconst 1, 1) := by decide +kernel
theorem dX8_takeClause_217 : decode cX8_takeClause 217 = .ok (.aload_n 0, 1) := by decide +kernel
theorem dX8_takeClause_218 : decode cX8_takeClause 218 = .ok (.getfield 143, 3) := by decide +kernel
theorem dX8_takeClause_221 : decode cX8_takeClause 221 = .ok (.invokevirtual 173, 3) := by decide +kernel
theorem dX8_takeClause_224 : decode cX8_takeClause 224 = .ok (.ireturn, 1) := by decide +kernel
theorem dX8_takeClause_225 : decode cX8_takeClause 225 = .ok (.aload_n 0, 1) := by decide +kernel
theorem dX8_takeClause_226 : decode cX8_takeClause 226 = .ok (.dup, 1) := by decide +kernel
theorem dX8_takeClause_227 : decode cX8_takeClause 227 = .ok (.getfield 143, 3) := by decide +kernel
theorem dX8_takeClause_230 : decode cX8_takeClause 230 = .ok (.iconst 1, 1) := by decide +kernel
theorem dX8_takeClause_231 : decode cX8_takeClause 231 = .ok (.iadd, 1) := by decide +kernel
theorem dX8_takeClause_232 : decode cX8_takeClause 232 = .ok (.putfield 143, 3) := by decide +kernel
theorem dX8_takeClause_235 : decode cX8_takeClause 235 = .ok (.iload_n 2, 1) := by decide +kernel
theorem dX8_takeClause_236 : decode cX8_takeClause 236 = .ok (.ireturn, 1) := by decide +kernel
theorem dX8_house_0 : decode cX8_house 0 = .ok (.aload_n 0, 1) := by decide +kernel
theorem dX8_house_1 : decode cX8_house 1 = .ok (.iconst (-1), 1) := by decide +kernel
theorem dX8_house_2 : decode cX8_house 2 = .ok (.putfield 49, 3) := by decide +kernel
theorem dX8_house_5 : decode cX8_house 5 = .ok (.aload_n 0, 1) := by decide +kernel
theorem dX8_house_6 : decode cX8_house 6 = .ok (.iconst 0, 1) := by decide +kernel
theorem dX8_house_7 : decode cX8_house 7 = .ok (.putfield 143, 3) := by decide +kernel
theorem dX8_house_10 : decode cX8_house 10 = .ok (.aload_n 0, 1) := by decide +kernel
theorem dX8_house_11 : decode cX8_house 11 = .ok (.iconst 0, 1) := by decide +kernel
theorem dX8_house_12 : decode cX8_house 12 = .ok (.putfield 186, 3) := by decide +kernel
theorem dX8_house_15 : decode cX8_house 15 = .ok (.aload_n 0, 1) := by decide +kernel
theorem dX8_house_16 : decode cX8_house 16 = .ok (.iconst 0, 1) := by decide +kernel
theorem dX8_house_17 : decode cX8_house 17 = .ok (.putfield 189, 3) := by decide +kernel
theorem dX8_house_20 : decode cX8_house 20 = .ok (.aload_n 0, 1) := by decide +kernel
theorem dX8_house_21 : decode cX8_house 21 = .ok (.iconst 0, 1) := by decide +kernel
theorem dX8_house_22 : decode cX8_house 22 = .ok (.putfield 196, 3) := by decide +kernel
theorem dX8_house_25 : decode cX8_house 25 = .ok (.iconst 0, 1) := by decide +kernel
theorem dX8_house_26 : decode cX8_house 26 = .ok (.istore_n 1, 1) := by decide +kernel
theorem dX8_house_27 : decode cX8_house 27 = .ok (.iload_n 1, 1) := by decide +kernel
theorem dX8_house_28 : decode cX8_house 28 = .ok (.bipush 36, 2) := by decide +kernel
theorem dX8_house_30 : decode cX8_house 30 = .ok (.if_icmp .ge 16, 3) := by decide +kernel
theorem dX8_house_33 : decode cX8_house 33 = .ok (.aload_n 0, 1) := by decide +kernel
theorem dX8_house_34 : decode cX8_house 34 = .ok (.getfield 71, 3) := by decide +kernel
theorem dX8_house_37 : decode cX8_house 37 = .ok (.iload_n 1, 1) := by decide +kernel
theorem dX8_house_38 : decode cX8_house 38 = .ok (.iconst 0, 1) := by decide +kernel
theorem dX8_house_39 : decode cX8_house 39 = .ok (.iastore, 1) := by decide +kernel
theorem dX8_house_40 : decode cX8_house 40 = .ok (.iinc 1 1, 3) := by decide +kernel
theorem dX8_house_43 : decode cX8_house 43 = .ok (.goto (-16), 3) := by decide +kernel
theorem dX8_house_46 : decode cX8_house 46 = .ok (.iconst 0, 1) := by decide +kernel
theorem dX8_house_47 : decode cX8_house 47 = .ok (.istore_n 1, 1) := by decide +kernel
theorem dX8_house_48 : decode cX8_house 48 = .ok (.iload_n 1, 1) := by decide +kernel
theorem dX8_house_49 : decode cX8_house 49 = .ok (.ifCond .ne 18, 3) := by decide +kernel
theorem dX8_house_52 : decode cX8_house 52 = .ok (.aload_n 0, 1) := by decide +kernel
theorem dX8_house_53 : decode cX8_house 53 = .ok (.invokevirtual 146, 3) := by decide +kernel
theorem dX8_house_56 : decode cX8_house 56 = .ok (.ifCond .lt 11, 3) := by decide +kernel
theorem dX8_house_59 : decode cX8_house 59 = .ok (.aload_n 0, 1) := by decide +kernel
theorem dX8_house_60 : decode cX8_house 60 = .ok (.invokevirtual 221, 3) := by decide +kernel
theorem dX8_house_63 : decode cX8_house 63 = .ok (.istore_n 1, 1) := by decide +kernel
theorem dX8_house_64 : decode cX8_house 64 = .ok (.goto (-16), 3) := by decide +kernel
theorem dX8_house_67 : decode cX8_house 67 = .ok (.aload_n 0, 1) := by decide +kernel
theorem dX8_house_68 : decode cX8_house 68 = .ok (.iconst 0, 1) := by decide +kernel
theorem dX8_house_69 : decode cX8_house 69 = .ok (.putfield 137, 3) := by decide +kernel
theorem dX8_house_72 : decode cX8_house 72 = .ok (.iload_n 1, 1) := by decide +kernel
theorem dX8_house_73 : decode cX8_house 73 = .ok (.ifCond .le 8, 3) := by decide +kernel
theorem dX8_house_76 : decode cX8_house 76 = .ok (.bipush (-10), 2) := by decide +kernel
theorem dX8_house_78 : decode cX8_house 78 = .ok (.iload_n 1, 1) := by decide +kernel
theorem dX8_house_79 : decode cX8_house 79 = .ok (.isub, 1) := by decide +kernel
theorem dX8_house_80 : decode cX8_house 80 = .ok (.ireturn, 1) := by decide +kernel
theorem dX8_house_81 : decode cX8_house 81 = .ok (.aload_n 0, 1) := by decide +kernel
theorem dX8_house_82 : decode cX8_house 82 = .ok (.aload_n 0, 1) := by decide +kernel
theorem dX8_house_83 : decode cX8_house 83 = .ok (.getfield 186, 3) := by decide +kernel
theorem dX8_house_86 : decode cX8_house 86 = .ok (.putfield 120, 3) := by decide +kernel
theorem dX8_house_89 : decode cX8_house 89 = .ok (.aload_n 0, 1) := by decide +kernel
theorem dX8_house_90 : decode cX8_house 90 = .ok (.aload_n 0, 1) := by decide +kernel
theorem dX8_house_91 : decode cX8_house 91 = .ok (.getfield 189, 3) := by decide +kernel
theorem dX8_house_94 : decode cX8_house 94 = .ok (.putfield 127, 3) := by decide +kernel
theorem dX8_house_97 : decode cX8_house 97 = .ok (.aload_n 0, 1) := by decide +kernel
theorem dX8_house_98 : decode cX8_house 98 = .ok (.aload_n 0, 1) := by decide +kernel
theorem dX8_house_99 : decode cX8_house 99 = .ok (.getfield 196, 3) := by decide +kernel
theorem dX8_house_102 : decode cX8_house 102 = .ok (.putfield 224, 3) := by decide +kernel
theorem dX8_house_105 : decode cX8_house 105 = .ok (.iconst 0, 1) := by decide +kernel
theorem dX8_house_106 : decode cX8_house 106 = .ok (.istore_n 2, 1) := by decide +kernel
theorem dX8_house_107 : decode cX8_house 107 = .ok (.iload_n 2, 1) := by decide +kernel
theorem dX8_house_108 : decode cX8_house 108 = .ok (.iconst 3, 1) := by decide +kernel
theorem dX8_house_109 : decode cX8_house 109 = .ok (.if_icmp .ge 21, 3) := by decide +kernel
theorem dX8_house_112 : decode cX8_house 112 = .ok (.aload_n 0, 1) := by decide +kernel
theorem dX8_house_113 : decode cX8_house 113 = .ok (.getfield 7, 3) := by decide +kernel
theorem dX8_house_116 : decode cX8_house 116 = .ok (.iload_n 2, 1) := by decide +kernel
theorem dX8_house_117 : decode cX8_house 117 = .ok (.aload_n 0, 1) := by decide +kernel
theorem dX8_house_118 : decode cX8_house 118 = .ok (.getfield 53, 3) := by decide +kernel
theorem dX8_house_121 : decode cX8_house 121 = .ok (.iload_n 2, 1) := by decide +kernel
theorem dX8_house_122 : decode cX8_house 122 = .ok (.iaload, 1) := by decide +kernel
theorem dX8_house_123 : decode cX8_house 123 = .ok (.iastore, 1) := by decide +kernel
theorem dX8_house_124 : decode cX8_house 124 = .ok (.iinc 2 1, 3) := by decide +kernel
theorem dX8_house_127 : decode cX8_house 127 = .ok (.goto (-20), 3) := by decide +kernel
theorem dX8_house_130 : decode cX8_house 130 = .ok (.iconst 0, 1) := by decide +kernel
theorem dX8_house_131 : decode cX8_house 131 = .ok (.istore_n 2, 1) := by decide +kernel
theorem dX8_house_132 : decode cX8_house 132 = .ok (.iload_n 2, 1) := by decide +kernel
theorem dX8_house_133 : decode cX8_house 133 = .ok (.bipush 18, 2) := by decide +kernel
theorem dX8_house_135 : decode cX8_house 135 = .ok (.if_icmp .ge 21, 3) := by decide +kernel
theorem dX8_house_138 : decode cX8_house 138 = .ok (.aload_n 0, 1) := by decide +kernel
theorem dX8_house_139 : decode cX8_house 139 = .ok (.getfield 13, 3) := by decide +kernel
theorem dX8_house_142 : decode cX8_house 142 = .ok (.iload_n 2, 1) := by decide +kernel
theorem dX8_house_143 : decode cX8_house 143 = .ok (.aload_n 0, 1) := by decide +kernel
theorem dX8_house_144 : decode cX8_house 144 = .ok (.getfield 56, 3) := by decide +kernel
theorem dX8_house_147 : decode cX8_house 147 = .ok (.iload_n 2, 1) := by decide +kernel
theorem dX8_house_148 : decode cX8_house 148 = .ok (.iaload, 1) := by decide +kernel
theorem dX8_house_149 : decode cX8_house 149 = .ok (.iastore, 1) := by decide +kernel
theorem dX8_house_150 : decode cX8_house 150 = .ok (.iinc 2 1, 3) := by decide +kernel
theorem dX8_house_153 : decode cX8_house 153 = .ok (.goto (-21), 3) := by decide +kernel
theorem dX8_house_156 : decode cX8_house 156 = .ok (.iconst 0, 1) := by decide +kernel
theorem dX8_house_157 : decode cX8_house 157 = .ok (.istore_n 2, 1) := by decide +kernel
theorem dX8_house_158 : decode cX8_house 158 = .ok (.iload_n 2, 1) := by decide +kernel
theorem dX8_house_159 : decode cX8_house 159 = .ok (.bipush 6, 2) := by decide +kernel
theorem dX8_house_161 : decode cX8_house 161 = .ok (.if_icmp .ge 57, 3) := by decide +kernel
theorem dX8_house_164 : decode cX8_house 164 = .ok (.aload_n 0, 1) := by decide +kernel
theorem dX8_house_165 : decode cX8_house 165 = .ok (.getfield 16, 3) := by decide +kernel
theorem dX8_house_168 : decode cX8_house 168 = .ok (.iload_n 2, 1) := by decide +kernel
theorem dX8_house_169 : decode cX8_house 169 = .ok (.aload_n 0, 1) := by decide +kernel
theorem dX8_house_170 : decode cX8_house 170 = .ok (.getfield 59, 3) := by decide +kernel
theorem dX8_house_173 : decode cX8_house 173 = .ok (.iload_n 2, 1) := by decide +kernel
theorem dX8_house_174 : decode cX8_house 174 = .ok (.iaload, 1) := by decide +kernel
theorem dX8_house_175 : decode cX8_house 175 = .ok (.iastore, 1) := by decide +kernel
theorem dX8_house_176 : decode cX8_house 176 = .ok (.aload_n 0, 1) := by decide +kernel
theorem dX8_house_177 : decode cX8_house 177 = .ok (.getfield 19, 3) := by decide +kernel
theorem dX8_house_180 : decode cX8_house 180 = .ok (.iload_n 2, 1) := by decide +kernel
theorem dX8_house_181 : decode cX8_house 181 = .ok (.aload_n 0, 1) := by decide +kernel
theorem dX8_house_182 : decode cX8_house 182 = .ok (.getfield 62, 3) := by decide +kernel
theorem dX8_house_185 : decode cX8_house 185 = .ok (.iload_n 2, 1) := by decide +kernel
theorem dX8_house_186 : decode cX8_house 186 = .ok (.iaload, 1) := by decide +kernel
theorem dX8_house_187 : decode cX8_house 187 = .ok (.iastore, 1) := by decide +kernel
theorem dX8_house_188 : decode cX8_house 188 = .ok (.aload_n 0, 1) := by decide +kernel
theorem dX8_house_189 : decode cX8_house 189 = .ok (.getfield 22, 3) := by decide +kernel
theorem dX8_house_192 : decode cX8_house 192 = .ok (.iload_n 2, 1) := by decide +kernel
theorem dX8_house_193 : decode cX8_house 193 = .ok (.aload_n 0, 1) := by decide +kernel
theorem dX8_house_194 : decode cX8_house 194 = .ok (.getfield 65, 3) := by decide +kernel
theorem dX8_house_197 : decode cX8_house 197 = .ok (.iload_n 2, 1) := by decide +kernel
theorem dX8_house_198 : decode cX8_house 198 = .ok (.iaload, 1) := by decide +kernel
theorem dX8_house_199 : decode cX8_house 199 = .ok (.iastore, 1) := by decide +kernel
theorem dX8_house_200 : decode cX8_house 200 = .ok (.aload_n 0, 1) := by decide +kernel
theorem dX8_house_201 : decode cX8_house 201 = .ok (.getfield 25, 3) := by decide +kernel
theorem dX8_house_204 : decode cX8_house 204 = .ok (.iload_n 2, 1) := by decide +kernel
theorem dX8_house_205 : decode cX8_house 205 = .ok (.aload_n 0, 1) := by decide +kernel
theorem dX8_house_206 : decode cX8_house 206 = .ok (.getfield 68, 3) := by decide +kernel
theorem dX8_house_209 : decode cX8_house 209 = .ok (.iload_n 2, 1) := by decide +kernel
theorem dX8_house_210 : decode cX8_house 210 = .ok (.iaload, 1) := by decide +kernel
theorem dX8_house_211 : decode cX8_house 211 = .ok (.iastore, 1) := by decide +kernel
theorem dX8_house_212 : decode cX8_house 212 = .ok (.iinc 2 1, 3) := by decide +kernel
theorem dX8_house_215 : decode cX8_house 215 = .ok (.goto (-57), 3) := by decide +kernel
theorem dX8_house_218 : decode cX8_house 218 = .ok (.iconst 0, 1) := by decide +kernel
theorem dX8_house_219 : decode cX8_house 219 = .ok (.istore_n 2, 1) := by decide +kernel
theorem dX8_house_220 : decode cX8_house 220 = .ok (.iload_n 2, 1) := by decide +kernel
theorem dX8_house_221 : decode cX8_house 221 = .ok (.bipush 36, 2) := by decide +kernel
theorem dX8_house_223 : decode cX8_house 223 = .ok (.if_icmp .ge 21, 3) := by decide +kernel
theorem dX8_house_226 : decode cX8_house 226 = .ok (.aload_n 0, 1) := by decide +kernel
theorem dX8_house_227 : decode cX8_house 227 = .ok (.getfield 28, 3) := by decide +kernel
theorem dX8_house_230 : decode cX8_house 230 = .ok (.iload_n 2, 1) := by decide +kernel
theorem dX8_house_231 : decode cX8_house 231 = .ok (.aload_n 0, 1) := by decide +kernel
theorem dX8_house_232 : decode cX8_house 232 = .ok (.getfield 71, 3) := by decide +kernel
theorem dX8_house_235 : decode cX8_house 235 = .ok (.iload_n 2, 1) := by decide +kernel
theorem dX8_house_236 : decode cX8_house 236 = .ok (.iaload, 1) := by decide +kernel
theorem dX8_house_237 : decode cX8_house 237 = .ok (.iastore, 1) := by decide +kernel
theorem dX8_house_238 : decode cX8_house 238 = .ok (.iinc 2 1, 3) := by decide +kernel
theorem dX8_house_241 : decode cX8_house 241 = .ok (.goto (-21), 3) := by decide +kernel
theorem dX8_house_244 : decode cX8_house 244 = .ok (.aload_n 0, 1) := by decide +kernel
theorem dX8_house_245 : decode cX8_house 245 = .ok (.iconst 0, 1) := by decide +kernel
theorem dX8_house_246 : decode cX8_house 246 = .ok (.putfield 227, 3) := by decide +kernel
theorem dX8_house_249 : decode cX8_house 249 = .ok (.aload_n 0, 1) := by decide +kernel
theorem dX8_house_250 : decode cX8_house 250 = .ok (.getfield 113, 3) := by decide +kernel
theorem dX8_house_253 : decode cX8_house 253 = .ok (.iconst 0, 1) := by decide +kernel
theorem dX8_house_254 : decode cX8_house 254 = .ok (.iconst 0, 1) := by decide +kernel
theorem dX8_house_255 : decode cX8_house 255 = .ok (.bastore, 1) := by decide +kernel
theorem dX8_house_256 : decode cX8_house 256 = .ok (.aload_n 0, 1) := by decide +kernel
theorem dX8_house_257 : decode cX8_house 257 = .ok (.getfield 113, 3) := by decide +kernel
theorem dX8_house_260 : decode cX8_house 260 = .ok (.iconst 1, 1) := by decide +kernel
theorem dX8_house_261 : decode cX8_house 261 = .ok (.iconst 0, 1) := by decide +kernel
theorem dX8_house_262 : decode cX8_house 262 = .ok (.bastore, 1) := by decide +kernel
theorem dX8_house_263 : decode cX8_house 263 = .ok (.aload_n 0, 1) := by decide +kernel
theorem dX8_house_264 : decode cX8_house 264 = .ok (.invokevirtual 117, 3) := by decide +kernel
theorem dX8_house_267 : decode cX8_house 267 = .ok (.aload_n 0, 1) := by decide +kernel
theorem dX8_house_268 : decode cX8_house 268 = .ok (.getfield 127, 3) := by decide +kernel
theorem dX8_house_271 : decode cX8_house 271 = .ok (.ireturn, 1) := by decide +kernel
theorem dX8_fault_0 : decode cX8_fault 0 = .ok (.aload_n 0, 1) := by decide +kernel
theorem dX8_fault_1 : decode cX8_fault 1 = .ok (.getfield 49, 3) := by decide +kernel
theorem dX8_fault_4 : decode cX8_fault 4 = .ok (.ireturn, 1) := by decide +kernel
theorem dX8_isIn_0 : decode cX8_isIn 0 = .ok (.iconst 0, 1) := by decide +kernel
theorem dX8_isIn_1 : decode cX8_isIn 1 = .ok (.istore_n 2, 1) := by decide +kernel
theorem dX8_isIn_2 : decode cX8_isIn 2 = .ok (.iconst 0, 1) := by decide +kernel
theorem dX8_isIn_3 : decode cX8_isIn 3 = .ok (.istore_n 3, 1) := by decide +kernel
theorem dX8_isIn_4 : decode cX8_isIn 4 = .ok (.iload_n 3, 1) := by decide +kernel
theorem dX8_isIn_5 : decode cX8_isIn 5 = .ok (.aload_n 0, 1) := by decide +kernel
theorem dX8_isIn_6 : decode cX8_isIn 6 = .ok (.getfield 127, 3) := by decide +kernel
theorem dX8_isIn_9 : decode cX8_isIn 9 = .ok (.if_icmp .ge 29, 3) := by decide +kernel
theorem dX8_isIn_12 : decode cX8_isIn 12 = .ok (.iload_n 2, 1) := by decide +kernel
theorem dX8_isIn_13 : decode cX8_isIn 13 = .ok (.aload_n 0, 1) := by decide +kernel
theorem dX8_isIn_14 : decode cX8_isIn 14 = .ok (.getfield 37, 3) := by decide +kernel
theorem dX8_isIn_17 : decode cX8_isIn 17 = .ok (.iload_n 3, 1) := by decide +kernel
theorem dX8_isIn_18 : decode cX8_isIn 18 = .ok (.iaload, 1) := by decide +kernel
theorem dX8_isIn_19 : decode cX8_isIn 19 = .ok (.iload_n 1, 1) := by decide +kernel
theorem dX8_isIn_20 : decode cX8_isIn 20 = .ok (.if_icmp .ne 9, 3) := by decide +kernel
theorem dX8_isIn_23 : decode cX8_isIn 23 = .ok (.iconst 1, 1) := by decide +kernel
theorem dX8_isIn_24 : decode cX8_isIn 24 = .ok (.iload_n 3, 1) := by decide +kernel
theorem dX8_isIn_25 : decode cX8_isIn 25 = .ok (.ishl, 1) := by decide +kernel
theorem dX8_isIn_26 : decode cX8_isIn 26 = .ok (.goto 4, 3) := by decide +kernel
theorem dX8_isIn_29 : decode cX8_isIn 29 = .ok (.iconst 0, 1) := by decide +kernel
theorem dX8_isIn_30 : decode cX8_isIn 30 = .ok (.ior, 1) := by decide +kernel
theorem dX8_isIn_31 : decode cX8_isIn 31 = .ok (.istore_n 2, 1) := by decide +kernel
theorem dX8_isIn_32 : decode cX8_isIn 32 = .ok (.iinc 3 1, 3) := by decide +kernel
theorem dX8_isIn_35 : decode cX8_isIn 35 = .ok (.goto (-31), 3) := by decide +kernel
theorem dX8_isIn_38 : decode cX8_isIn 38 = .ok (.iload_n 2, 1) := by decide +kernel
theorem dX8_isIn_39 : decode cX8_isIn 39 = .ok (.ireturn, 1) := by decide +kernel
theorem dX8_somewhere_0 : decode cX8_somewhere 0 = .ok (.iconst 0, 1) := by decide +kernel
theorem dX8_somewhere_1 : decode cX8_somewhere 1 = .ok (.istore_n 1, 1) := by decide +kernel
theorem dX8_somewhere_2 : decode cX8_somewhere 2 = .ok (.iconst 0, 1) := by decide +kernel
theorem dX8_somewhere_3 : decode cX8_somewhere 3 = .ok (.istore_n 2, 1) := by decide +kernel
theorem dX8_somewhere_4 : decode cX8_somewhere 4 = .ok (.iload_n 2, 1) := by decide +kernel
theorem dX8_somewhere_5 : decode cX8_somewhere 5 = .ok (.aload_n 0, 1) := by decide +kernel
theorem dX8_somewhere_6 : decode cX8_somewhere 6 = .ok (.getfield 127, 3) := by decide +kernel
theorem dX8_somewhere_9 : decode cX8_somewhere 9 = .ok (.if_icmp .ge 28, 3) := by decide +kernel
theorem dX8_somewhere_12 : decode cX8_somewhere 12 = .ok (.iload_n 1, 1) := by decide +kernel
theorem dX8_somewhere_13 : decode cX8_somewhere 13 = .ok (.aload_n 0, 1) := by decide +kernel
theorem dX8_somewhere_14 : decode cX8_somewhere 14 = .ok (.getfield 37, 3) := by decide +kernel
theorem dX8_somewhere_17 : decode cX8_somewhere 17 = .ok (.iload_n 2, 1) := by decide +kernel
theorem dX8_somewhere_18 : decode cX8_somewhere 18 = .ok (.iaload, 1) := by decide +kernel
theorem dX8_somewhere_19 : decode cX8_somewhere 19 = .ok (.ifCond .lt 9, 3) := by decide +kernel
theorem dX8_somewhere_22 : decode cX8_somewhere 22 = .ok (.iconst 1, 1) := by decide +kernel
theorem dX8_somewhere_23 : decode cX8_somewhere 23 = .ok (.iload_n 2, 1) := by decide +kernel
theorem dX8_somewhere_24 : decode cX8_somewhere 24 = .ok (.ishl, 1) := by decide +kernel
theorem dX8_somewhere_25 : decode cX8_somewhere 25 = .ok (.goto 4, 3) := by decide +kernel
theorem dX8_somewhere_28 : decode cX8_somewhere 28 = .ok (.iconst 0, 1) := by decide +kernel
theorem dX8_somewhere_29 : decode cX8_somewhere 29 = .ok (.ior, 1) := by decide +kernel
theorem dX8_somewhere_30 : decode cX8_somewhere 30 = .ok (.istore_n 1, 1) := by decide +kernel
theorem dX8_somewhere_31 : decode cX8_somewhere 31 = .ok (.iinc 2 1, 3) := by decide +kernel
theorem dX8_somewhere_34 : decode cX8_somewhere 34 = .ok (.goto (-30), 3) := by decide +kernel
theorem dX8_somewhere_37 : decode cX8_somewhere 37 = .ok (.iload_n 1, 1) := by decide +kernel
theorem dX8_somewhere_38 : decode cX8_somewhere 38 = .ok (.ireturn, 1) := by decide +kernel
theorem dX8_told_0 : decode cX8_told 0 = .ok (.iload_n 1, 1) := by decide +kernel
theorem dX8_told_1 : decode cX8_told 1 = .ok (.tableswitch 78 0 6 #[43, 48, 53, 58, 63, 68, 73], 43) := by decide +kernel
theorem dX8_told_44 : decode cX8_told 44 = .ok (.aload_n 0, 1) := by decide +kernel
theorem dX8_told_45 : decode cX8_told 45 = .ok (.getfield 120, 3) := by decide +kernel
theorem dX8_told_48 : decode cX8_told 48 = .ok (.ireturn, 1) := by decide +kernel
theorem dX8_told_49 : decode cX8_told 49 = .ok (.aload_n 0, 1) := by decide +kernel
theorem dX8_told_50 : decode cX8_told 50 = .ok (.getfield 127, 3) := by decide +kernel
theorem dX8_told_53 : decode cX8_told 53 = .ok (.ireturn, 1) := by decide +kernel
theorem dX8_told_54 : decode cX8_told 54 = .ok (.aload_n 0, 1) := by decide +kernel
theorem dX8_told_55 : decode cX8_told 55 = .ok (.getfield 224, 3) := by decide +kernel
theorem dX8_told_58 : decode cX8_told 58 = .ok (.ireturn, 1) := by decide +kernel
theorem dX8_told_59 : decode cX8_told 59 = .ok (.aload_n 0, 1) := by decide +kernel
theorem dX8_told_60 : decode cX8_told 60 = .ok (.getfield 137, 3) := by decide +kernel
theorem dX8_told_63 : decode cX8_told 63 = .ok (.ireturn, 1) := by decide +kernel
theorem dX8_told_64 : decode cX8_told 64 = .ok (.aload_n 0, 1) := by decide +kernel
theorem dX8_told_65 : decode cX8_told 65 = .ok (.getfield 230, 3) := by decide +kernel
theorem dX8_told_68 : decode cX8_told 68 = .ok (.ireturn, 1) := by decide +kernel
theorem dX8_told_69 : decode cX8_told 69 = .ok (.aload_n 0, 1) := by decide +kernel
theorem dX8_told_70 : decode cX8_told 70 = .ok (.getfield 227, 3) := by decide +kernel
theorem dX8_told_73 : decode cX8_told 73 = .ok (.ireturn, 1) := by decide +kernel
theorem dX8_told_74 : decode cX8_told 74 = .ok (.aload_n 0, 1) := by decide +kernel
theorem dX8_told_75 : decode cX8_told 75 = .ok (.invokevirtual 233, 3) := by decide +kernel
theorem dX8_told_78 : decode cX8_told 78 = .ok (.ireturn, 1) := by decide +kernel
theorem dX8_told_79 : decode cX8_told 79 = .ok (.ldc 136, 2) := by decide +kernel
theorem dX8_told_81 : decode cX8_told 81 = .ok (.ireturn, 1) := by decide +kernel
theorem dX8_whoAt_0 : decode cX8_whoAt 0 = .ok (.iconst (-1), 1) := by decide +kernel
theorem dX8_whoAt_1 : decode cX8_whoAt 1 = .ok (.istore_n 3, 1) := by decide +kernel
theorem dX8_whoAt_2 : decode cX8_whoAt 2 = .ok (.iconst 0, 1) := by decide +kernel
theorem dX8_whoAt_3 : decode cX8_whoAt 3 = .ok (.istore 4, 2) := by decide +kernel
theorem dX8_whoAt_5 : decode cX8_whoAt 5 = .ok (.iload 4, 2) := by decide +kernel
theorem dX8_whoAt_7 : decode cX8_whoAt 7 = .ok (.aload_n 0, 1) := by decide +kernel
theorem dX8_whoAt_8 : decode cX8_whoAt 8 = .ok (.getfield 127, 3) := by decide +kernel
theorem dX8_whoAt_11 : decode cX8_whoAt 11 = .ok (.if_icmp .ge 38, 3) := by decide +kernel
theorem dX8_whoAt_14 : decode cX8_whoAt 14 = .ok (.aload_n 0, 1) := by decide +kernel
theorem dX8_whoAt_15 : decode cX8_whoAt 15 = .ok (.getfield 37, 3) := by decide +kernel
theorem dX8_whoAt_18 : decode cX8_whoAt 18 = .ok (.iload 4, 2) := by decide +kernel
theorem dX8_whoAt_20 : decode cX8_whoAt 20 = .ok (.iaload, 1) := by decide +kernel
theorem dX8_whoAt_21 : decode cX8_whoAt 21 = .ok (.iload_n 1, 1) := by decide +kernel
theorem dX8_whoAt_22 : decode cX8_whoAt 22 = .ok (.if_icmp .ne 19, 3) := by decide +kernel
theorem dX8_whoAt_25 : decode cX8_whoAt 25 = .ok (.aload_n 0, 1) := by decide +kernel
theorem dX8_whoAt_26 : decode cX8_whoAt 26 = .ok (.getfield 40, 3) := by decide +kernel
theorem dX8_whoAt_29 : decode cX8_whoAt 29 = .ok (.iload 4, 2) := by decide +kernel
theorem dX8_whoAt_31 : decode cX8_whoAt 31 = .ok (.iaload, 1) := by decide +kernel
theorem dX8_whoAt_32 : decode cX8_whoAt 32 = .ok (.iload_n 2, 1) := by decide +kernel
theorem dX8_whoAt_33 : decode cX8_whoAt 33 = .ok (.if_icmp .ne 8, 3) := by decide +kernel
theorem dX8_whoAt_36 : decode cX8_whoAt 36 = .ok (.iload 4, 2) := by decide +kernel
theorem dX8_whoAt_38 : decode cX8_whoAt 38 = .ok (.goto 4, 3) := by decide +kernel
theorem dX8_whoAt_41 : decode cX8_whoAt 41 = .ok (.iload_n 3, 1) := by decide +kernel
theorem dX8_whoAt_42 : decode cX8_whoAt 42 = .ok (.istore_n 3, 1) := by decide +kernel
theorem dX8_whoAt_43 : decode cX8_whoAt 43 = .ok (.iinc 4 1, 3) := by decide +kernel
theorem dX8_whoAt_46 : decode cX8_whoAt 46 = .ok (.goto (-41), 3) := by decide +kernel
theorem dX8_whoAt_49 : decode cX8_whoAt 49 = .ok (.iload_n 3, 1) := by decide +kernel
theorem dX8_whoAt_50 : decode cX8_whoAt 50 = .ok (.ireturn, 1) := by decide +kernel
theorem dX8_room_0 : decode cX8_room 0 = .ok (.aload_n 0, 1) := by decide +kernel
theorem dX8_room_1 : decode cX8_room 1 = .ok (.iload_n 1, 1) := by decide +kernel
theorem dX8_room_2 : decode cX8_room 2 = .ok (.invokevirtual 130, 3) := by decide +kernel
theorem dX8_room_5 : decode cX8_room 5 = .ok (.ifCond .eq 17, 3) := by decide +kernel
theorem dX8_room_8 : decode cX8_room 8 = .ok (.iload_n 2, 1) := by decide +kernel
theorem dX8_room_9 : decode cX8_room 9 = .ok (.iconst (-1), 1) := by decide +kernel
theorem dX8_room_10 : decode cX8_room 10 = .ok (.if_icmp .eq 15, 3) := by decide +kernel
theorem dX8_room_13 : decode cX8_room 13 = .ok (.aload_n 0, 1) := by decide +kernel
theorem dX8_room_14 : decode cX8_room 14 = .ok (.iload_n 1, 1) := by decide +kernel
theorem dX8_room_15 : decode cX8_room 15 = .ok (.iload_n 2, 1) := by decide +kernel
theorem dX8_room_16 : decode cX8_room 16 = .ok (.invokevirtual 236, 3) := by decide +kernel
theorem dX8_room_19 : decode cX8_room 19 = .ok (.ifCond .ne 6, 3) := by decide +kernel
theorem dX8_room_22 : decode cX8_room 22 = .ok (.ldc 240, 2) := by decide +kernel
theorem dX8_room_24 : decode cX8_room 24 = .ok (.ireturn, 1) := by decide +kernel
theorem dX8_room_25 : decode cX8_room 25 = .ok (.iload_n 2, 1) := by decide +kernel
theorem dX8_room_26 : decode cX8_room 26 = .ok (.iconst (-1), 1) := by decide +kernel
theorem dX8_room_27 : decode cX8_room 27 = .ok (.if_icmp .ne 10, 3) := by decide +kernel
theorem dX8_room_30 : decode cX8_room 30 = .ok (.aload_n 0, 1) := by decide +kernel
theorem dX8_room_31 : decode cX8_room 31 = .ok (.getfield 7, 3) := by decide +kernel
theorem dX8_room_34 : decode cX8_room 34 = .ok (.iload_n 1, 1) := by decide +kernel
theorem dX8_room_35 : decode cX8_room 35 = .ok (.iaload, 1) := by decide +kernel
theorem dX8_room_36 : decode cX8_room 36 = .ok (.ireturn, 1) := by decide +kernel
theorem dX8_room_37 : decode cX8_room 37 = .ok (.iload_n 3, 1) := by decide +kernel
theorem dX8_room_38 : decode cX8_room 38 = .ok (.ifCond .ne 17, 3) := by decide +kernel
theorem dX8_room_41 : decode cX8_room 41 = .ok (.aload_n 0, 1) := by decide +kernel
theorem dX8_room_42 : decode cX8_room 42 = .ok (.getfield 13, 3) := by decide +kernel
theorem dX8_room_45 : decode cX8_room 45 = .ok (.bipush 6, 2) := by decide +kernel
theorem dX8_room_47 : decode cX8_room 47 = .ok (.iload_n 1, 1) := by decide +kernel
theorem dX8_room_48 : decode cX8_room 48 = .ok (.imul, 1) := by decide +kernel
theorem dX8_room_49 : decode cX8_room 49 = .ok (.iload_n 2, 1) := by decide +kernel
theorem dX8_room_50 : decode cX8_room 50 = .ok (.iadd, 1) := by decide +kernel
theorem dX8_room_51 : decode cX8_room 51 = .ok (.iaload, 1) := by decide +kernel
theorem dX8_room_52 : decode cX8_room 52 = .ok (.goto 19, 3) := by decide +kernel
theorem dX8_room_55 : decode cX8_room 55 = .ok (.iload_n 3, 1) := by decide +kernel
theorem dX8_room_56 : decode cX8_room 56 = .ok (.iconst 1, 1) := by decide +kernel
theorem dX8_room_57 : decode cX8_room 57 = .ok (.if_icmp .ne 12, 3) := by decide +kernel
theorem dX8_room_60 : decode cX8_room 60 = .ok (.aload_n 0, 1) := by decide +kernel
theorem dX8_room_61 : decode cX8_room 61 = .ok (.iload_n 1, 1) := by decide +kernel
theorem dX8_room_62 : decode cX8_room 62 = .ok (.iload_n 2, 1) := by decide +kernel
theorem dX8_room_63 : decode cX8_room 63 = .ok (.invokevirtual 241, 3) := by decide +kernel
theorem dX8_room_66 : decode cX8_room 66 = .ok (.goto 5, 3) := by decide +kernel
theorem dX8_room_69 : decode cX8_room 69 = .ok (.ldc 136, 2) := by decide +kernel
theorem dX8_room_71 : decode cX8_room 71 = .ok (.ireturn, 1) := by decide +kernel
theorem dX8_tallAt_0 : decode cX8_tallAt 0 = .ok (.aload_n 0, 1) := by decide +kernel
theorem dX8_tallAt_1 : decode cX8_tallAt 1 = .ok (.getfield 13, 3) := by decide +kernel
theorem dX8_tallAt_4 : decode cX8_tallAt 4 = .ok (.bipush 6, 2) := by decide +kernel
theorem dX8_tallAt_6 : decode cX8_tallAt 6 = .ok (.iload_n 2, 1) := by decide +kernel
theorem dX8_tallAt_7 : decode cX8_tallAt 7 = .ok (.imul, 1) := by decide +kernel
theorem dX8_tallAt_8 : decode cX8_tallAt 8 = .ok (.iload_n 3, 1) := by decide +kernel
theorem dX8_tallAt_9 : decode cX8_tallAt 9 = .ok (.iadd, 1) := by decide +kernel
theorem dX8_tallAt_10 : decode cX8_tallAt 10 = .ok (.iaload, 1) := by decide +kernel
theorem dX8_tallAt_11 : decode cX8_tallAt 11 = .ok (.aload_n 0, 1) := by decide +kernel
theorem dX8_tallAt_12 : decode cX8_tallAt 12 = .ok (.getfield 34, 3) := by decide +kernel
theorem dX8_tallAt_15 : decode cX8_tallAt 15 = .ok (.iload_n 1, 1) := by decide +kernel
theorem dX8_tallAt_16 : decode cX8_tallAt 16 = .ok (.iaload, 1) := by decide +kernel
theorem dX8_tallAt_17 : decode cX8_tallAt 17 = .ok (.iadd, 1) := by decide +kernel
theorem dX8_tallAt_18 : decode cX8_tallAt 18 = .ok (.ireturn, 1) := by decide +kernel
theorem dX8_headOf_0 : decode cX8_headOf 0 = .ok (.aload_n 0, 1) := by decide +kernel
theorem dX8_headOf_1 : decode cX8_headOf 1 = .ok (.iload_n 1, 1) := by decide +kernel
theorem dX8_headOf_2 : decode cX8_headOf 2 = .ok (.aload_n 0, 1) := by decide +kernel
theorem dX8_headOf_3 : decode cX8_headOf 3 = .ok (.getfield 37, 3) := by decide +kernel
theorem dX8_headOf_6 : decode cX8_headOf 6 = .ok (.iload_n 1, 1) := by decide +kernel
theorem dX8_headOf_7 : decode cX8_headOf 7 = .ok (.iaload, 1) := by decide +kernel
theorem dX8_headOf_8 : decode cX8_headOf 8 = .ok (.aload_n 0, 1) := by decide +kernel
theorem dX8_headOf_9 : decode cX8_headOf 9 = .ok (.getfield 40, 3) := by decide +kernel
theorem dX8_headOf_12 : decode cX8_headOf 12 = .ok (.iload_n 1, 1) := by decide +kernel
theorem dX8_headOf_13 : decode cX8_headOf 13 = .ok (.iaload, 1) := by decide +kernel
theorem dX8_headOf_14 : decode cX8_headOf 14 = .ok (.invokevirtual 244, 3) := by decide +kernel
theorem dX8_headOf_17 : decode cX8_headOf 17 = .ok (.aload_n 0, 1) := by decide +kernel
theorem dX8_headOf_18 : decode cX8_headOf 18 = .ok (.getfield 43, 3) := by decide +kernel
theorem dX8_headOf_21 : decode cX8_headOf 21 = .ok (.iload_n 1, 1) := by decide +kernel
theorem dX8_headOf_22 : decode cX8_headOf 22 = .ok (.iaload, 1) := by decide +kernel
theorem dX8_headOf_23 : decode cX8_headOf 23 = .ok (.isub, 1) := by decide +kernel
theorem dX8_headOf_24 : decode cX8_headOf 24 = .ok (.ireturn, 1) := by decide +kernel
theorem dX8_person_0 : decode cX8_person 0 = .ok (.aload_n 0, 1) := by decide +kernel
theorem dX8_person_1 : decode cX8_person 1 = .ok (.iload_n 1, 1) := by decide +kernel
theorem dX8_person_2 : decode cX8_person 2 = .ok (.invokevirtual 248, 3) := by decide +kernel
theorem dX8_person_5 : decode cX8_person 5 = .ok (.ifCond .ne 6, 3) := by decide +kernel
theorem dX8_person_8 : decode cX8_person 8 = .ok (.ldc 240, 2) := by decide +kernel
theorem dX8_person_10 : decode cX8_person 10 = .ok (.ireturn, 1) := by decide +kernel
theorem dX8_person_11 : decode cX8_person 11 = .ok (.iload_n 2, 1) := by decide +kernel
theorem dX8_person_12 : decode cX8_person 12 = .ok (.tableswitch 116 0 7 #[48, 55, 62, 69, 76, 83, 90, 97], 48) := by decide +kernel
theorem dX8_person_60 : decode cX8_person 60 = .ok (.aload_n 0, 1) := by decide +kernel
theorem dX8_person_61 : decode cX8_person 61 = .ok (.getfield 31, 3) := by decide +kernel
theorem dX8_person_64 : decode cX8_person 64 = .ok (.iload_n 1, 1) := by decide +kernel
theorem dX8_person_65 : decode cX8_person 65 = .ok (.iaload, 1) := by decide +kernel
theorem dX8_person_66 : decode cX8_person 66 = .ok (.ireturn, 1) := by decide +kernel
theorem dX8_person_67 : decode cX8_person 67 = .ok (.aload_n 0, 1) := by decide +kernel
theorem dX8_person_68 : decode cX8_person 68 = .ok (.getfield 34, 3) := by decide +kernel
theorem dX8_person_71 : decode cX8_person 71 = .ok (.iload_n 1, 1) := by decide +kernel
theorem dX8_person_72 : decode cX8_person 72 = .ok (.iaload, 1) := by decide +kernel
theorem dX8_person_73 : decode cX8_person 73 = .ok (.ireturn, 1) := by decide +kernel
theorem dX8_person_74 : decode cX8_person 74 = .ok (.aload_n 0, 1) := by decide +kernel
theorem dX8_person_75 : decode cX8_person 75 = .ok (.getfield 22, 3) := by decide +kernel
theorem dX8_person_78 : decode cX8_person 78 = .ok (.iload_n 1, 1) := by decide +kernel
theorem dX8_person_79 : decode cX8_person 79 = .ok (.iaload, 1) := by decide +kernel
theorem dX8_person_80 : decode cX8_person 80 = .ok (.ireturn, 1) := by decide +kernel
theorem dX8_person_81 : decode cX8_person 81 = .ok (.aload_n 0, 1) := by decide +kernel
theorem dX8_person_82 : decode cX8_person 82 = .ok (.getfield 25, 3) := by decide +kernel
theorem dX8_person_85 : decode cX8_person 85 = .ok (.iload_n 1, 1) := by decide +kernel
theorem dX8_person_86 : decode cX8_person 86 = .ok (.iaload, 1) := by decide +kernel
theorem dX8_person_87 : decode cX8_person 87 = .ok (.ireturn, 1) := by decide +kernel
theorem dX8_person_88 : decode cX8_person 88 = .ok (.aload_n 0, 1) := by decide +kernel
theorem dX8_person_89 : decode cX8_person 89 = .ok (.getfield 37, 3) := by decide +kernel
theorem dX8_person_92 : decode cX8_person 92 = .ok (.iload_n 1, 1) := by decide +kernel
theorem dX8_person_93 : decode cX8_person 93 = .ok (.iaload, 1) := by decide +kernel
theorem dX8_person_94 : decode cX8_person 94 = .ok (.ireturn, 1) := by decide +kernel
theorem dX8_person_95 : decode cX8_person 95 = .ok (.aload_n 0, 1) := by decide +kernel
theorem dX8_person_96 : decode cX8_person 96 = .ok (.getfield 40, 3) := by decide +kernel
theorem dX8_person_99 : decode cX8_person 99 = .ok (.iload_n 1, 1) := by decide +kernel
theorem dX8_person_100 : decode cX8_person 100 = .ok (.iaload, 1) := by decide +kernel
theorem dX8_person_101 : decode cX8_person 101 = .ok (.ireturn, 1) := by decide +kernel
theorem dX8_person_102 : decode cX8_person 102 = .ok (.aload_n 0, 1) := by decide +kernel
theorem dX8_person_103 : decode cX8_person 103 = .ok (.getfield 43, 3) := by decide +kernel
theorem dX8_person_106 : decode cX8_person 106 = .ok (.iload_n 1, 1) := by decide +kernel
theorem dX8_person_107 : decode cX8_person 107 = .ok (.iaload, 1) := by decide +kernel
theorem dX8_person_108 : decode cX8_person 108 = .ok (.ireturn, 1) := by decide +kernel
theorem dX8_person_109 : decode cX8_person 109 = .ok (.aload_n 0, 1) := by decide +kernel
theorem dX8_person_110 : decode cX8_person 110 = .ok (.getfield 37, 3) := by decide +kernel
theorem dX8_person_113 : decode cX8_person 113 = .ok (.iload_n 1, 1) := by decide +kernel
theorem dX8_person_114 : decode cX8_person 114 = .ok (.iaload, 1) := by decide +kernel
theorem dX8_person_115 : decode cX8_person 115 = .ok (.ifCond .ge 7, 3) := by decide +kernel
theorem dX8_person_118 : decode cX8_person 118 = .ok (.iconst (-1), 1) := by decide +kernel
theorem dX8_person_119 : decode cX8_person 119 = .ok (.goto 8, 3) := by decide +kernel
theorem dX8_person_122 : decode cX8_person 122 = .ok (.aload_n 0, 1) := by decide +kernel
theorem dX8_person_123 : decode cX8_person 123 = .ok (.iload_n 1, 1) := by decide +kernel
theorem dX8_person_124 : decode cX8_person 124 = .ok (.invokevirtual 251, 3) := by decide +kernel
theorem dX8_person_127 : decode cX8_person 127 = .ok (.ireturn, 1) := by decide +kernel
theorem dX8_person_128 : decode cX8_person 128 = .ok (.ldc 136, 2) := by decide +kernel
theorem dX8_person_130 : decode cX8_person 130 = .ok (.ireturn, 1) := by decide +kernel
theorem dX8_friends_0 : decode cX8_friends 0 = .ok (.aload_n 0, 1) := by decide +kernel
theorem dX8_friends_1 : decode cX8_friends 1 = .ok (.iload_n 1, 1) := by decide +kernel
theorem dX8_friends_2 : decode cX8_friends 2 = .ok (.invokevirtual 248, 3) := by decide +kernel
theorem dX8_friends_5 : decode cX8_friends 5 = .ok (.ifCond .eq 30, 3) := by decide +kernel
theorem dX8_friends_8 : decode cX8_friends 8 = .ok (.aload_n 0, 1) := by decide +kernel
theorem dX8_friends_9 : decode cX8_friends 9 = .ok (.iload_n 2, 1) := by decide +kernel
theorem dX8_friends_10 : decode cX8_friends 10 = .ok (.invokevirtual 248, 3) := by decide +kernel
theorem dX8_friends_13 : decode cX8_friends 13 = .ok (.ifCond .eq 22, 3) := by decide +kernel
theorem dX8_friends_16 : decode cX8_friends 16 = .ok (.iload_n 1, 1) := by decide +kernel
theorem dX8_friends_17 : decode cX8_friends 17 = .ok (.iload_n 2, 1) := by decide +kernel
theorem dX8_friends_18 : decode cX8_friends 18 = .ok (.if_icmp .eq 17, 3) := by decide +kernel
theorem dX8_friends_21 : decode cX8_friends 21 = .ok (.aload_n 0, 1) := by decide +kernel
theorem dX8_friends_22 : decode cX8_friends 22 = .ok (.getfield 28, 3) := by decide +kernel
theorem dX8_friends_25 : decode cX8_friends 25 = .ok (.bipush 6, 2) := by decide +kernel
theorem dX8_friends_27 : decode cX8_friends 27 = .ok (.iload_n 1, 1) := by decide +kernel
theorem dX8_friends_28 : decode cX8_friends 28 = .ok (.imul, 1) := by decide +kernel
theorem dX8_friends_29 : decode cX8_friends 29 = .ok (.iload_n 2, 1) := by decide +kernel
theorem dX8_friends_30 : decode cX8_friends 30 = .ok (.iadd, 1) := by decide +kernel
theorem dX8_friends_31 : decode cX8_friends 31 = .ok (.iaload, 1) := by decide +kernel
theorem dX8_friends_32 : decode cX8_friends 32 = .ok (.goto 5, 3) := by decide +kernel
theorem dX8_friends_35 : decode cX8_friends 35 = .ok (.ldc 240, 2) := by decide +kernel
theorem dX8_friends_37 : decode cX8_friends 37 = .ok (.ireturn, 1) := by decide +kernel
theorem dX8_law_0 : decode cX8_law 0 = .ok (.iload_n 1, 1) := by decide +kernel
theorem dX8_law_1 : decode cX8_law 1 = .ok (.i2l, 1) := by decide +kernel
theorem dX8_law_2 : decode cX8_law 2 = .ok (.lconst 0, 1) := by decide +kernel
theorem dX8_law_3 : decode cX8_law 3 = .ok (.lconst 1, 1) := by decide +kernel
theorem dX8_law_4 : decode cX8_law 4 = .ok (.invokestatic 123, 3) := by decide +kernel
theorem dX8_law_7 : decode cX8_law 7 = .ok (.ifCond .ne 6, 3) := by decide +kernel
theorem dX8_law_10 : decode cX8_law 10 = .ok (.ldc 136, 2) := by decide +kernel
theorem dX8_law_12 : decode cX8_law 12 = .ok (.ireturn, 1) := by decide +kernel
theorem dX8_law_13 : decode cX8_law 13 = .ok (.aload_n 0, 1) := by decide +kernel
theorem dX8_law_14 : decode cX8_law 14 = .ok (.getfield 230, 3) := by decide +kernel
theorem dX8_law_17 : decode cX8_law 17 = .ok (.istore_n 2, 1) := by decide +kernel
theorem dX8_law_18 : decode cX8_law 18 = .ok (.aload_n 0, 1) := by decide +kernel
theorem dX8_law_19 : decode cX8_law 19 = .ok (.iload_n 1, 1) := by decide +kernel
theorem dX8_law_20 : decode cX8_law 20 = .ok (.putfield 230, 3) := by decide +kernel
theorem dX8_law_23 : decode cX8_law 23 = .ok (.iload_n 2, 1) := by decide +kernel
theorem dX8_law_24 : decode cX8_law 24 = .ok (.ireturn, 1) := by decide +kernel
theorem dX8_mayCome_0 : decode cX8_mayCome 0 = .ok (.aload_n 0, 1) := by decide +kernel
theorem dX8_mayCome_1 : decode cX8_mayCome 1 = .ok (.getfield 37, 3) := by decide +kernel
theorem dX8_mayCome_4 : decode cX8_mayCome 4 = .ok (.iload_n 1, 1) := by decide +kernel
theorem dX8_mayCome_5 : decode cX8_mayCome 5 = .ok (.iaload, 1) := by decide +kernel
theorem dX8_mayCome_6 : decode cX8_mayCome 6 = .ok (.ifCond .ge 16, 3) := by decide +kernel
theorem dX8_mayCome_9 : decode cX8_mayCome 9 = .ok (.aload_n 0, 1) := by decide +kernel
theorem dX8_mayCome_10 : decode cX8_mayCome 10 = .ok (.iload_n 2, 1) := by decide +kernel
theorem dX8_mayCome_11 : decode cX8_mayCome 11 = .ok (.iload_n 3, 1) := by decide +kernel
theorem dX8_mayCome_12 : decode cX8_mayCome 12 = .ok (.invokevirtual 241, 3) := by decide +kernel
theorem dX8_mayCome_15 : decode cX8_mayCome 15 = .ok (.ifCond .ge 7, 3) := by decide +kernel
theorem dX8_mayCome_18 : decode cX8_mayCome 18 = .ok (.iconst 1, 1) := by decide +kernel
theorem dX8_mayCome_19 : decode cX8_mayCome 19 = .ok (.goto 4, 3) := by decide +kernel
theorem dX8_mayCome_22 : decode cX8_mayCome 22 = .ok (.iconst 0, 1) := by decide +kernel
theorem dX8_mayCome_23 : decode cX8_mayCome 23 = .ok (.ireturn, 1) := by decide +kernel
theorem dX8_put_0 : decode cX8_put 0 = .ok (.aload_n 0, 1) := by decide +kernel
theorem dX8_put_1 : decode cX8_put 1 = .ok (.iload_n 1, 1) := by decide +kernel
theorem dX8_put_2 : decode cX8_put 2 = .ok (.invokevirtual 248, 3) := by decide +kernel
theorem dX8_put_5 : decode cX8_put 5 = .ok (.ifCond .eq 12, 3) := by decide +kernel
theorem dX8_put_8 : decode cX8_put 8 = .ok (.aload_n 0, 1) := by decide +kernel
theorem dX8_put_9 : decode cX8_put 9 = .ok (.iload_n 2, 1) := by decide +kernel
theorem dX8_put_10 : decode cX8_put 10 = .ok (.iload_n 3, 1) := by decide +kernel
theorem dX8_put_11 : decode cX8_put 11 = .ok (.invokevirtual 236, 3) := by decide +kernel
theorem dX8_put_14 : decode cX8_put 14 = .ok (.ifCond .ne 6, 3) := by decide +kernel
theorem dX8_put_17 : decode cX8_put 17 = .ok (.ldc 240, 2) := by decide +kernel
theorem dX8_put_19 : decode cX8_put 19 = .ok (.ireturn, 1) := by decide +kernel
theorem dX8_put_20 : decode cX8_put 20 = .ok (.aload_n 0, 1) := by decide +kernel
theorem dX8_put_21 : decode cX8_put 21 = .ok (.iload_n 1, 1) := by decide +kernel
theorem dX8_put_22 : decode cX8_put 22 = .ok (.iload_n 2, 1) := by decide +kernel
theorem dX8_put_23 : decode cX8_put 23 = .ok (.iload_n 3, 1) := by decide +kernel
theorem dX8_put_24 : decode cX8_put 24 = .ok (.invokevirtual 255, 3) := by decide +kernel
theorem dX8_put_27 : decode cX8_put 27 = .ok (.ifCond .ne 7, 3) := by decide +kernel
theorem dX8_put_30 : decode cX8_put 30 = .ok (.ldc_w 259, 3) := by decide +kernel
theorem dX8_put_33 : decode cX8_put 33 = .ok (.ireturn, 1) := by decide +kernel
theorem dX8_put_34 : decode cX8_put 34 = .ok (.aload_n 0, 1) := by decide +kernel
theorem dX8_put_35 : decode cX8_put 35 = .ok (.getfield 37, 3) := by decide +kernel
theorem dX8_put_38 : decode cX8_put 38 = .ok (.iload_n 1, 1) := by decide +kernel
theorem dX8_put_39 : decode cX8_put 39 = .ok (.iload_n 2, 1) := by decide +kernel
theorem dX8_put_40 : decode cX8_put 40 = .ok (.iastore, 1) := by decide +kernel
theorem dX8_put_41 : decode cX8_put 41 = .ok (.aload_n 0, 1) := by decide +kernel
theorem dX8_put_42 : decode cX8_put 42 = .ok (.getfield 40, 3) := by decide +kernel
theorem dX8_put_45 : decode cX8_put 45 = .ok (.iload_n 1, 1) := by decide +kernel
theorem dX8_put_46 : decode cX8_put 46 = .ok (.iload_n 3, 1) := by decide +kernel
theorem dX8_put_47 : decode cX8_put 47 = .ok (.iastore, 1) := by decide +kernel
theorem dX8_put_48 : decode cX8_put 48 = .ok (.aload_n 0, 1) := by decide +kernel
theorem dX8_put_49 : decode cX8_put 49 = .ok (.iload_n 2, 1) := by decide +kernel
theorem dX8_put_50 : decode cX8_put 50 = .ok (.invokevirtual 260, 3) := by decide +kernel
theorem dX8_put_53 : decode cX8_put 53 = .ok (.ireturn, 1) := by decide +kernel
theorem dX8_leaveNow_0 : decode cX8_leaveNow 0 = .ok (.aload_n 0, 1) := by decide +kernel
theorem dX8_leaveNow_1 : decode cX8_leaveNow 1 = .ok (.getfield 37, 3) := by decide +kernel
theorem dX8_leaveNow_4 : decode cX8_leaveNow 4 = .ok (.iload_n 1, 1) := by decide +kernel
theorem dX8_leaveNow_5 : decode cX8_leaveNow 5 = .ok (.iconst (-1), 1) := by decide +kernel
theorem dX8_leaveNow_6 : decode cX8_leaveNow 6 = .ok (.iastore, 1) := by decide +kernel
theorem dX8_leaveNow_7 : decode cX8_leaveNow 7 = .ok (.aload_n 0, 1) := by decide +kernel
theorem dX8_leaveNow_8 : decode cX8_leaveNow 8 = .ok (.getfield 40, 3) := by decide +kernel
theorem dX8_leaveNow_11 : decode cX8_leaveNow 11 = .ok (.iload_n 1, 1) := by decide +kernel
theorem dX8_leaveNow_12 : decode cX8_leaveNow 12 = .ok (.iconst (-1), 1) := by decide +kernel
theorem dX8_leaveNow_13 : decode cX8_leaveNow 13 = .ok (.iastore, 1) := by decide +kernel
theorem dX8_leaveNow_14 : decode cX8_leaveNow 14 = .ok (.aload_n 0, 1) := by decide +kernel
theorem dX8_leaveNow_15 : decode cX8_leaveNow 15 = .ok (.getfield 43, 3) := by decide +kernel
theorem dX8_leaveNow_18 : decode cX8_leaveNow 18 = .ok (.iload_n 1, 1) := by decide +kernel
theorem dX8_leaveNow_19 : decode cX8_leaveNow 19 = .ok (.iconst 0, 1) := by decide +kernel
theorem dX8_leaveNow_20 : decode cX8_leaveNow 20 = .ok (.iastore, 1) := by decide +kernel
theorem dX8_leaveNow_21 : decode cX8_leaveNow 21 = .ok (.return_, 1) := by decide +kernel
theorem dX8_leave_0 : decode cX8_leave 0 = .ok (.aload_n 0, 1) := by decide +kernel
theorem dX8_leave_1 : decode cX8_leave 1 = .ok (.iload_n 1, 1) := by decide +kernel
theorem dX8_leave_2 : decode cX8_leave 2 = .ok (.invokevirtual 248, 3) := by decide +kernel
theorem dX8_leave_5 : decode cX8_leave 5 = .ok (.ifCond .ne 6, 3) := by decide +kernel
theorem dX8_leave_8 : decode cX8_leave 8 = .ok (.ldc 240, 2) := by decide +kernel
theorem dX8_leave_10 : decode cX8_leave 10 = .ok (.ireturn, 1) := by decide +kernel
theorem dX8_leave_11 : decode cX8_leave 11 = .ok (.aload_n 0, 1) := by decide +kernel
theorem dX8_leave_12 : decode cX8_leave 12 = .ok (.getfield 37, 3) := by decide +kernel
theorem dX8_leave_15 : decode cX8_leave 15 = .ok (.iload_n 1, 1) := by decide +kernel
theorem dX8_leave_16 : decode cX8_leave 16 = .ok (.iaload, 1) := by decide +kernel
theorem dX8_leave_17 : decode cX8_leave 17 = .ok (.ifCond .ge 7, 3) := by decide +kernel
theorem dX8_leave_20 : decode cX8_leave 20 = .ok (.ldc_w 259, 3) := by decide +kernel
theorem dX8_leave_23 : decode cX8_leave 23 = .ok (.ireturn, 1) := by decide +kernel
theorem dX8_leave_24 : decode cX8_leave 24 = .ok (.aload_n 0, 1) := by decide +kernel
theorem dX8_leave_25 : decode cX8_leave 25 = .ok (.getfield 37, 3) := by decide +kernel
theorem dX8_leave_28 : decode cX8_leave 28 = .ok (.iload_n 1, 1) := by decide +kernel
theorem dX8_leave_29 : decode cX8_leave 29 = .ok (.iaload, 1) := by decide +kernel
theorem dX8_leave_30 : decode cX8_leave 30 = .ok (.istore_n 2, 1) := by decide +kernel
theorem dX8_leave_31 : decode cX8_leave 31 = .ok (.aload_n 0, 1) := by decide +kernel
theorem dX8_leave_32 : decode cX8_leave 32 = .ok (.iload_n 1, 1) := by decide +kernel
theorem dX8_leave_33 : decode cX8_leave 33 = .ok (.invokevirtual 263, 3) := by decide +kernel
theorem dX8_leave_36 : decode cX8_leave 36 = .ok (.iload_n 2, 1) := by decide +kernel
theorem dX8_leave_37 : decode cX8_leave 37 = .ok (.ireturn, 1) := by decide +kernel
theorem dX8_bend_0 : decode cX8_bend 0 = .ok (.aload_n 0, 1) := by decide +kernel
theorem dX8_bend_1 : decode cX8_bend 1 = .ok (.iload_n 1, 1) := by decide +kernel
theorem dX8_bend_2 : decode cX8_bend 2 = .ok (.invokevirtual 248, 3) := by decide +kernel
theorem dX8_bend_5 : decode cX8_bend 5 = .ok (.ifCond .ne 6, 3) := by decide +kernel
theorem dX8_bend_8 : decode cX8_bend 8 = .ok (.ldc 240, 2) := by decide +kernel
theorem dX8_bend_10 : decode cX8_bend 10 = .ok (.ireturn, 1) := by decide +kernel
theorem dX8_bend_11 : decode cX8_bend 11 = .ok (.iload_n 2, 1) := by decide +kernel
theorem dX8_bend_12 : decode cX8_bend 12 = .ok (.i2l, 1) := by decide +kernel
theorem dX8_bend_13 : decode cX8_bend 13 = .ok (.lconst 0, 1) := by decide +kernel
theorem dX8_bend_14 : decode cX8_bend 14 = .ok (.aload_n 0, 1) := by decide +kernel
theorem dX8_bend_15 : decode cX8_bend 15 = .ok (.getfield 22, 3) := by decide +kernel
theorem dX8_bend_18 : decode cX8_bend 18 = .ok (.iload_n 1, 1) := by decide +kernel
theorem dX8_bend_19 : decode cX8_bend 19 = .ok (.iaload, 1) := by decide +kernel
theorem dX8_bend_20 : decode cX8_bend 20 = .ok (.i2l, 1) := by decide +kernel
theorem dX8_bend_21 : decode cX8_bend 21 = .ok (.invokestatic 123, 3) := by decide +kernel
theorem dX8_bend_24 : decode cX8_bend 24 = .ok (.ifCond .ne 6, 3) := by decide +kernel
theorem dX8_bend_27 : decode cX8_bend 27 = .ok (.ldc 136, 2) := by decide +kernel
theorem dX8_bend_29 : decode cX8_bend 29 = .ok (.ireturn, 1) := by decide +kernel
theorem dX8_bend_30 : decode cX8_bend 30 = .ok (.aload_n 0, 1) := by decide +kernel
theorem dX8_bend_31 : decode cX8_bend 31 = .ok (.getfield 37, 3) := by decide +kernel
theorem dX8_bend_34 : decode cX8_bend 34 = .ok (.iload_n 1, 1) := by decide +kernel
theorem dX8_bend_35 : decode cX8_bend 35 = .ok (.iaload, 1) := by decide +kernel
theorem dX8_bend_36 : decode cX8_bend 36 = .ok (.ifCond .ge 7, 3) := by decide +kernel
theorem dX8_bend_39 : decode cX8_bend 39 = .ok (.ldc_w 259, 3) := by decide +kernel
theorem dX8_bend_42 : decode cX8_bend 42 = .ok (.ireturn, 1) := by decide +kernel
theorem dX8_bend_43 : decode cX8_bend 43 = .ok (.aload_n 0, 1) := by decide +kernel
theorem dX8_bend_44 : decode cX8_bend 44 = .ok (.getfield 43, 3) := by decide +kernel
theorem dX8_bend_47 : decode cX8_bend 47 = .ok (.iload_n 1, 1) := by decide +kernel
theorem dX8_bend_48 : decode cX8_bend 48 = .ok (.iaload, 1) := by decide +kernel
theorem dX8_bend_49 : decode cX8_bend 49 = .ok (.istore_n 3, 1) := by decide +kernel
theorem dX8_bend_50 : decode cX8_bend 50 = .ok (.aload_n 0, 1) := by decide +kernel
theorem dX8_bend_51 : decode cX8_bend 51 = .ok (.getfield 43, 3) := by decide +kernel
theorem dX8_bend_54 : decode cX8_bend 54 = .ok (.iload_n 1, 1) := by decide +kernel
theorem dX8_bend_55 : decode cX8_bend 55 = .ok (.iload_n 2, 1) := by decide +kernel
theorem dX8_bend_56 : decode cX8_bend 56 = .ok (.iastore, 1) := by decide +kernel
theorem dX8_bend_57 : decode cX8_bend 57 = .ok (.iload_n 3, 1) := by decide +kernel
theorem dX8_bend_58 : decode cX8_bend 58 = .ok (.ireturn, 1) := by decide +kernel
theorem dX8_eldest_0 : decode cX8_eldest 0 = .ok (.iconst (-1), 1) := by decide +kernel
theorem dX8_eldest_1 : decode cX8_eldest 1 = .ok (.istore_n 2, 1) := by decide +kernel
theorem dX8_eldest_2 : decode cX8_eldest 2 = .ok (.iconst 0, 1) := by decide +kernel
theorem dX8_eldest_3 : decode cX8_eldest 3 = .ok (.istore_n 3, 1) := by decide +kernel
theorem dX8_eldest_4 : decode cX8_eldest 4 = .ok (.iload_n 3, 1) := by decide +kernel
theorem dX8_eldest_5 : decode cX8_eldest 5 = .ok (.aload_n 0, 1) := by decide +kernel
theorem dX8_eldest_6 : decode cX8_eldest 6 = .ok (.getfield 127, 3) := by decide +kernel
theorem dX8_eldest_9 : decode cX8_eldest 9 = .ok (.if_icmp .ge 42, 3) := by decide +kernel
theorem dX8_eldest_12 : decode cX8_eldest 12 = .ok (.iload_n 1, 1) := by decide +kernel
theorem dX8_eldest_13 : decode cX8_eldest 13 = .ok (.iload_n 3, 1) := by decide +kernel
theorem dX8_eldest_14 : decode cX8_eldest 14 = .ok (.invokestatic 267, 3) := by decide +kernel
theorem dX8_eldest_17 : decode cX8_eldest 17 = .ok (.ifCond .eq 26, 3) := by decide +kernel
theorem dX8_eldest_20 : decode cX8_eldest 20 = .ok (.iload_n 2, 1) := by decide +kernel
theorem dX8_eldest_21 : decode cX8_eldest 21 = .ok (.ifCond .lt 18, 3) := by decide +kernel
theorem dX8_eldest_24 : decode cX8_eldest 24 = .ok (.aload_n 0, 1) := by decide +kernel
theorem dX8_eldest_25 : decode cX8_eldest 25 = .ok (.getfield 31, 3) := by decide +kernel
theorem dX8_eldest_28 : decode cX8_eldest 28 = .ok (.iload_n 3, 1) := by decide +kernel
theorem dX8_eldest_29 : decode cX8_eldest 29 = .ok (.iaload, 1) := by decide +kernel
theorem dX8_eldest_30 : decode cX8_eldest 30 = .ok (.aload_n 0, 1) := by decide +kernel
theorem dX8_eldest_31 : decode cX8_eldest 31 = .ok (.getfield 31, 3) := by decide +kernel
theorem dX8_eldest_34 : decode cX8_eldest 34 = .ok (.iload_n 2, 1) := by decide +kernel
theorem dX8_eldest_35 : decode cX8_eldest 35 = .ok (.iaload, 1) := by decide +kernel
theorem dX8_eldest_36 : decode cX8_eldest 36 = .ok (.if_icmp .le 7, 3) := by decide +kernel
theorem dX8_eldest_39 : decode cX8_eldest 39 = .ok (.iload_n 3, 1) := by decide +kernel
theorem dX8_eldest_40 : decode cX8_eldest 40 = .ok (.goto 4, 3) := by decide +kernel
theorem dX8_eldest_43 : decode cX8_eldest 43 = .ok (.iload_n 2, 1) := by decide +kernel
theorem dX8_eldest_44 : decode cX8_eldest 44 = .ok (.istore_n 2, 1) := by decide +kernel
theorem dX8_eldest_45 : decode cX8_eldest 45 = .ok (.iinc 3 1, 3) := by decide +kernel
theorem dX8_eldest_48 : decode cX8_eldest 48 = .ok (.goto (-44), 3) := by decide +kernel
theorem dX8_eldest_51 : decode cX8_eldest 51 = .ok (.iload_n 2, 1) := by decide +kernel
theorem dX8_eldest_52 : decode cX8_eldest 52 = .ok (.ireturn, 1) := by decide +kernel
theorem dX8_tooHigh_0 : decode cX8_tooHigh 0 = .ok (.aload_n 0, 1) := by decide +kernel
theorem dX8_tooHigh_1 : decode cX8_tooHigh 1 = .ok (.aload_n 0, 1) := by decide +kernel
theorem dX8_tooHigh_2 : decode cX8_tooHigh 2 = .ok (.iload_n 2, 1) := by decide +kernel
theorem dX8_tooHigh_3 : decode cX8_tooHigh 3 = .ok (.invokevirtual 260, 3) := by decide +kernel
theorem dX8_tooHigh_6 : decode cX8_tooHigh 6 = .ok (.invokevirtual 270, 3) := by decide +kernel
theorem dX8_tooHigh_9 : decode cX8_tooHigh 9 = .ok (.istore_n 3, 1) := by decide +kernel
theorem dX8_tooHigh_10 : decode cX8_tooHigh 10 = .ok (.iconst 0, 1) := by decide +kernel
theorem dX8_tooHigh_11 : decode cX8_tooHigh 11 = .ok (.istore 4, 2) := by decide +kernel
theorem dX8_tooHigh_13 : decode cX8_tooHigh 13 = .ok (.iconst 0, 1) := by decide +kernel
theorem dX8_tooHigh_14 : decode cX8_tooHigh 14 = .ok (.istore 5, 2) := by decide +kernel
theorem dX8_tooHigh_16 : decode cX8_tooHigh 16 = .ok (.iload 5, 2) := by decide +kernel
theorem dX8_tooHigh_18 : decode cX8_tooHigh 18 = .ok (.aload_n 0, 1) := by decide +kernel
theorem dX8_tooHigh_19 : decode cX8_tooHigh 19 = .ok (.getfield 127, 3) := by decide +kernel
theorem dX8_tooHigh_22 : decode cX8_tooHigh 22 = .ok (.if_icmp .ge 98, 3) := by decide +kernel
theorem dX8_tooHigh_25 : decode cX8_tooHigh 25 = .ok (.aload_n 0, 1) := by decide +kernel
theorem dX8_tooHigh_26 : decode cX8_tooHigh 26 = .ok (.getfield 37, 3) := by decide +kernel
theorem dX8_tooHigh_29 : decode cX8_tooHigh 29 = .ok (.iload 5, 2) := by decide +kernel
theorem dX8_tooHigh_31 : decode cX8_tooHigh 31 = .ok (.iaload, 1) := by decide +kernel
theorem dX8_tooHigh_32 : decode cX8_tooHigh 32 = .ok (.iload_n 2, 1) := by decide +kernel
theorem dX8_tooHigh_33 : decode cX8_tooHigh 33 = .ok (.if_icmp .ne 39, 3) := by decide +kernel
theorem dX8_tooHigh_36 : decode cX8_tooHigh 36 = .ok (.aload_n 0, 1) := by decide +kernel
theorem dX8_tooHigh_37 : decode cX8_tooHigh 37 = .ok (.getfield 230, 3) := by decide +kernel
theorem dX8_tooHigh_40 : decode cX8_tooHigh 40 = .ok (.ifCond .ne 12, 3) := by decide +kernel
theorem dX8_tooHigh_43 : decode cX8_tooHigh 43 = .ok (.iload 5, 2) := by decide +kernel
theorem dX8_tooHigh_45 : decode cX8_tooHigh 45 = .ok (.iload_n 3, 1) := by decide +kernel
theorem dX8_tooHigh_46 : decode cX8_tooHigh 46 = .ok (.if_icmp .ne 26, 3) := by decide +kernel
theorem dX8_tooHigh_49 : decode cX8_tooHigh 49 = .ok (.goto 19, 3) := by decide +kernel
theorem dX8_tooHigh_52 : decode cX8_tooHigh 52 = .ok (.aload_n 0, 1) := by decide +kernel
theorem dX8_tooHigh_53 : decode cX8_tooHigh 53 = .ok (.getfield 31, 3) := by decide +kernel
theorem dX8_tooHigh_56 : decode cX8_tooHigh 56 = .ok (.iload 5, 2) := by decide +kernel
theorem dX8_tooHigh_58 : decode cX8_tooHigh 58 = .ok (.iaload, 1) := by decide +kernel
theorem dX8_tooHigh_59 : decode cX8_tooHigh 59 = .ok (.aload_n 0, 1) := by decide +kernel
theorem dX8_tooHigh_60 : decode cX8_tooHigh 60 = .ok (.getfield 31, 3) := by decide +kernel
theorem dX8_tooHigh_63 : decode cX8_tooHigh 63 = .ok (.iload_n 1, 1) := by decide +kernel
theorem dX8_tooHigh_64 : decode cX8_tooHigh 64 = .ok (.iaload, 1) := by decide +kernel
theorem dX8_tooHigh_65 : decode cX8_tooHigh 65 = .ok (.if_icmp .le 7, 3) := by decide +kernel
theorem dX8_tooHigh_68 : decode cX8_tooHigh 68 = .ok (.iconst 1, 1) := by decide +kernel
theorem dX8_tooHigh_69 : decode cX8_tooHigh 69 = .ok (.goto 4, 3) := by decide +kernel
theorem dX8_tooHigh_72 : decode cX8_tooHigh 72 = .ok (.iconst 0, 1) := by decide +kernel
theorem dX8_tooHigh_73 : decode cX8_tooHigh 73 = .ok (.istore 6, 2) := by decide +kernel
theorem dX8_tooHigh_75 : decode cX8_tooHigh 75 = .ok (.iload 6, 2) := by decide +kernel
theorem dX8_tooHigh_77 : decode cX8_tooHigh 77 = .ok (.ifCond .eq 18, 3) := by decide +kernel
theorem dX8_tooHigh_80 : decode cX8_tooHigh 80 = .ok (.aload_n 0, 1) := by decide +kernel
theorem dX8_tooHigh_81 : decode cX8_tooHigh 81 = .ok (.iload_n 1, 1) := by decide +kernel
theorem dX8_tooHigh_82 : decode cX8_tooHigh 82 = .ok (.invokevirtual 251, 3) := by decide +kernel
theorem dX8_tooHigh_85 : decode cX8_tooHigh 85 = .ok (.aload_n 0, 1) := by decide +kernel
theorem dX8_tooHigh_86 : decode cX8_tooHigh 86 = .ok (.iload 5, 2) := by decide +kernel
theorem dX8_tooHigh_88 : decode cX8_tooHigh 88 = .ok (.invokevirtual 251, 3) := by decide +kernel
theorem dX8_tooHigh_91 : decode cX8_tooHigh 91 = .ok (.isub, 1) := by decide +kernel
theorem dX8_tooHigh_92 : decode cX8_tooHigh 92 = .ok (.goto 4, 3) := by decide +kernel
theorem dX8_tooHigh_95 : decode cX8_tooHigh 95 = .ok (.iconst 0, 1) := by decide +kernel
theorem dX8_tooHigh_96 : decode cX8_tooHigh 96 = .ok (.istore 7, 2) := by decide +kernel
theorem dX8_tooHigh_98 : decode cX8_tooHigh 98 = .ok (.iload 7, 2) := by decide +kernel
theorem dX8_tooHigh_100 : decode cX8_tooHigh 100 = .ok (.iload 4, 2) := by decide +kernel
theorem dX8_tooHigh_102 : decode cX8_tooHigh 102 = .ok (.if_icmp .le 8, 3) := by decide +kernel
theorem dX8_tooHigh_105 : decode cX8_tooHigh 105 = .ok (.iload 7, 2) := by decide +kernel
theorem dX8_tooHigh_107 : decode cX8_tooHigh 107 = .ok (.goto 5, 3) := by decide +kernel
theorem dX8_tooHigh_110 : decode cX8_tooHigh 110 = .ok (.iload 4, 2) := by decide +kernel
theorem dX8_tooHigh_112 : decode cX8_tooHigh 112 = .ok (.istore 4, 2) := by decide +kernel
theorem dX8_tooHigh_114 : decode cX8_tooHigh 114 = .ok (.iinc 5 1, 3) := by decide +kernel
theorem dX8_tooHigh_117 : decode cX8_tooHigh 117 = .ok (.goto (-101), 3) := by decide +kernel
theorem dX8_tooHigh_120 : decode cX8_tooHigh 120 = .ok (.iload 4, 2) := by decide +kernel
theorem dX8_tooHigh_122 : decode cX8_tooHigh 122 = .ok (.ireturn, 1) := by decide +kernel
theorem dX8_firstFault_0 : decode cX8_firstFault 0 = .ok (.iconst (-1), 1) := by decide +kernel
theorem dX8_firstFault_1 : decode cX8_firstFault 1 = .ok (.istore_n 2, 1) := by decide +kernel
theorem dX8_firstFault_2 : decode cX8_firstFault 2 = .ok (.aload_n 0, 1) := by decide +kernel
theorem dX8_firstFault_3 : decode cX8_firstFault 3 = .ok (.getfield 127, 3) := by decide +kernel
theorem dX8_firstFault_6 : decode cX8_firstFault 6 = .ok (.iconst 1, 1) := by decide +kernel
theorem dX8_firstFault_7 : decode cX8_firstFault 7 = .ok (.isub, 1) := by decide +kernel
theorem dX8_firstFault_8 : decode cX8_firstFault 8 = .ok (.istore_n 3, 1) := by decide +kernel
theorem dX8_firstFault_9 : decode cX8_firstFault 9 = .ok (.iload_n 3, 1) := by decide +kernel
theorem dX8_firstFault_10 : decode cX8_firstFault 10 = .ok (.ifCond .lt 34, 3) := by decide +kernel
theorem dX8_firstFault_13 : decode cX8_firstFault 13 = .ok (.aload_n 0, 1) := by decide +kernel
theorem dX8_firstFault_14 : decode cX8_firstFault 14 = .ok (.getfield 37, 3) := by decide +kernel
theorem dX8_firstFault_17 : decode cX8_firstFault 17 = .ok (.iload_n 3, 1) := by decide +kernel
theorem dX8_firstFault_18 : decode cX8_firstFault 18 = .ok (.iaload, 1) := by decide +kernel
theorem dX8_firstFault_19 : decode cX8_firstFault 19 = .ok (.iload_n 1, 1) := by decide +kernel
theorem dX8_firstFault_20 : decode cX8_firstFault 20 = .ok (.if_icmp .ne 16, 3) := by decide +kernel
theorem dX8_firstFault_23 : decode cX8_firstFault 23 = .ok (.aload_n 0, 1) := by decide +kernel
theorem dX8_firstFault_24 : decode cX8_firstFault 24 = .ok (.iload_n 3, 1) := by decide +kernel
theorem dX8_firstFault_25 : decode cX8_firstFault 25 = .ok (.iload_n 1, 1) := by decide +kernel
theorem dX8_firstFault_26 : decode cX8_firstFault 26 = .ok (.invokevirtual 273, 3) := by decide +kernel
theorem dX8_firstFault_29 : decode cX8_firstFault 29 = .ok (.ifCond .le 7, 3) := by decide +kernel
theorem dX8_firstFault_32 : decode cX8_firstFault 32 = .ok (.iload_n 3, 1) := by decide +kernel
theorem dX8_firstFault_33 : decode cX8_firstFault 33 = .ok (.goto 4, 3) := by decide +kernel
theorem dX8_firstFault_36 : decode cX8_firstFault 36 = .ok (.iload_n 2, 1) := by decide +kernel
theorem dX8_firstFault_37 : decode cX8_firstFault 37 = .ok (.istore_n 2, 1) := by decide +kernel
theorem dX8_firstFault_38 : decode cX8_firstFault 38 = .ok (.iinc 3 (-1), 3) := by decide +kernel
theorem dX8_firstFault_41 : decode cX8_firstFault 41 = .ok (.goto (-32), 3) := by decide +kernel
theorem dX8_firstFault_44 : decode cX8_firstFault 44 = .ok (.iload_n 2, 1) := by decide +kernel
theorem dX8_firstFault_45 : decode cX8_firstFault 45 = .ok (.ireturn, 1) := by decide +kernel
theorem dX8_first_0 : decode cX8_first 0 = .ok (.aload_n 0, 1) := by decide +kernel
theorem dX8_first_1 : decode cX8_first 1 = .ok (.iload_n 1, 1) := by decide +kernel
theorem dX8_first_2 : decode cX8_first 2 = .ok (.invokevirtual 130, 3) := by decide +kernel
theorem dX8_first_5 : decode cX8_first 5 = .ok (.ifCond .ne 6, 3) := by decide +kernel
theorem dX8_first_8 : decode cX8_first 8 = .ok (.ldc 240, 2) := by decide +kernel
theorem dX8_first_10 : decode cX8_first 10 = .ok (.ireturn, 1) := by decide +kernel
theorem dX8_first_11 : decode cX8_first 11 = .ok (.iload_n 2, 1) := by decide +kernel
theorem dX8_first_12 : decode cX8_first 12 = .ok (.i2l, 1) := by decide +kernel
theorem dX8_first_13 : decode cX8_first 13 = .ok (.lconst 0, 1) := by decide +kernel
theorem dX8_first_14 : decode cX8_first 14 = .ok (.lconst 1, 1) := by decide +kernel
theorem dX8_first_15 : decode cX8_first 15 = .ok (.invokestatic 123, 3) := by decide +kernel
theorem dX8_first_18 : decode cX8_first 18 = .ok (.ifCond .ne 6, 3) := by decide +kernel
theorem dX8_first_21 : decode cX8_first 21 = .ok (.ldc 136, 2) := by decide +kernel
theorem dX8_first_23 : decode cX8_first 23 = .ok (.ireturn, 1) := by decide +kernel
theorem dX8_first_24 : decode cX8_first 24 = .ok (.aload_n 0, 1) := by decide +kernel
theorem dX8_first_25 : decode cX8_first 25 = .ok (.iload_n 1, 1) := by decide +kernel
theorem dX8_first_26 : decode cX8_first 26 = .ok (.invokevirtual 276, 3) := by decide +kernel
theorem dX8_first_29 : decode cX8_first 29 = .ok (.istore_n 3, 1) := by decide +kernel
theorem dX8_first_30 : decode cX8_first 30 = .ok (.iload_n 3, 1) := by decide +kernel
theorem dX8_first_31 : decode cX8_first 31 = .ok (.ifCond .ge 7, 3) := by decide +kernel
theorem dX8_first_34 : decode cX8_first 34 = .ok (.iconst (-1), 1) := by decide +kernel
theorem dX8_first_35 : decode cX8_first 35 = .ok (.goto 17, 3) := by decide +kernel
theorem dX8_first_38 : decode cX8_first 38 = .ok (.iload_n 2, 1) := by decide +kernel
theorem dX8_first_39 : decode cX8_first 39 = .ok (.ifCond .ne 7, 3) := by decide +kernel
theorem dX8_first_42 : decode cX8_first 42 = .ok (.iload_n 3, 1) := by decide +kernel
theorem dX8_first_43 : decode cX8_first 43 = .ok (.goto 9, 3) := by decide +kernel
theorem dX8_first_46 : decode cX8_first 46 = .ok (.aload_n 0, 1) := by decide +kernel
theorem dX8_first_47 : decode cX8_first 47 = .ok (.iload_n 3, 1) := by decide +kernel
theorem dX8_first_48 : decode cX8_first 48 = .ok (.iload_n 1, 1) := by decide +kernel
theorem dX8_first_49 : decode cX8_first 49 = .ok (.invokevirtual 273, 3) := by decide +kernel
theorem dX8_first_52 : decode cX8_first 52 = .ok (.ireturn, 1) := by decide +kernel
theorem dX8_bowAll_0 : decode cX8_bowAll 0 = .ok (.iload_n 1, 1) := by decide +kernel
theorem dX8_bowAll_1 : decode cX8_bowAll 1 = .ok (.istore_n 2, 1) := by decide +kernel
theorem dX8_bowAll_2 : decode cX8_bowAll 2 = .ok (.ldc_w 279, 3) := by decide +kernel
theorem dX8_bowAll_5 : decode cX8_bowAll 5 = .ok (.istore_n 3, 1) := by decide +kernel
theorem dX8_bowAll_6 : decode cX8_bowAll 6 = .ok (.iconst 0, 1) := by decide +kernel
theorem dX8_bowAll_7 : decode cX8_bowAll 7 = .ok (.istore 4, 2) := by decide +kernel
theorem dX8_bowAll_9 : decode cX8_bowAll 9 = .ok (.iload_n 2, 1) := by decide +kernel
theorem dX8_bowAll_10 : decode cX8_bowAll 10 = .ok (.ifCond .eq 149, 3) := by decide +kernel
theorem dX8_bowAll_13 : decode cX8_bowAll 13 = .ok (.aload_n 0, 1) := by decide +kernel
theorem dX8_bowAll_14 : decode cX8_bowAll 14 = .ok (.iload_n 2, 1) := by decide +kernel
theorem dX8_bowAll_15 : decode cX8_bowAll 15 = .ok (.invokevirtual 270, 3) := by decide +kernel
theorem dX8_bowAll_18 : decode cX8_bowAll 18 = .ok (.istore 5, 2) := by decide +kernel
theorem dX8_bowAll_20 : decode cX8_bowAll 20 = .ok (.iload_n 2, 1) := by decide +kernel
theorem dX8_bowAll_21 : decode cX8_bowAll 21 = .ok (.iconst 1, 1) := by decide +kernel
theorem dX8_bowAll_22 : decode cX8_bowAll 22 = .ok (.iload 5, 2) := by decide +kernel
theorem dX8_bowAll_24 : decode cX8_bowAll 24 = .ok (.ishl, 1) := by decide +kernel
theorem dX8_bowAll_25 : decode cX8_bowAll 25 = .ok (.iconst (-1), 1) := by decide +kernel
theorem dX8_bowAll_26 : decode cX8_bowAll 26 = .ok (.ixor, 1) := by decide +kernel
theorem dX8_bowAll_27 : decode cX8_bowAll 27 = .ok (.iand, 1) := by decide +kernel
theorem dX8_bowAll_28 : decode cX8_bowAll 28 = .ok (.istore_n 2, 1) := by decide +kernel
theorem dX8_bowAll_29 : decode cX8_bowAll 29 = .ok (.aload_n 0, 1) := by decide +kernel
theorem dX8_bowAll_30 : decode cX8_bowAll 30 = .ok (.getfield 74, 3) := by decide +kernel
theorem dX8_bowAll_33 : decode cX8_bowAll 33 = .ok (.iload 5, 2) := by decide +kernel
theorem dX8_bowAll_35 : decode cX8_bowAll 35 = .ok (.iaload, 1) := by decide +kernel
theorem dX8_bowAll_36 : decode cX8_bowAll 36 = .ok (.iload_n 3, 1) := by decide +kernel
theorem dX8_bowAll_37 : decode cX8_bowAll 37 = .ok (.if_icmp .le 15, 3) := by decide +kernel
theorem dX8_bowAll_40 : decode cX8_bowAll 40 = .ok (.aload_n 0, 1) := by decide +kernel
theorem dX8_bowAll_41 : decode cX8_bowAll 41 = .ok (.getfield 74, 3) := by decide +kernel
theorem dX8_bowAll_44 : decode cX8_bowAll 44 = .ok (.iload 5, 2) := by decide +kernel
theorem dX8_bowAll_46 : decode cX8_bowAll 46 = .ok (.iaload, 1) := by decide +kernel
theorem dX8_bowAll_47 : decode cX8_bowAll 47 = .ok (.iload_n 3, 1) := by decide +kernel
theorem dX8_bowAll_48 : decode cX8_bowAll 48 = .ok (.isub, 1) := by decide +kernel
theorem dX8_bowAll_49 : decode cX8_bowAll 49 = .ok (.goto 4, 3) := by decide +kernel
theorem dX8_bowAll_52 : decode cX8_bowAll 52 = .ok (.iconst 0, 1) := by decide +kernel
theorem dX8_bowAll_53 : decode cX8_bowAll 53 = .ok (.istore 6, 2) := by decide +kernel
theorem dX8_bowAll_55 : decode cX8_bowAll 55 = .ok (.aload_n 0, 1) := by decide +kernel
theorem dX8_bowAll_56 : decode cX8_bowAll 56 = .ok (.getfield 77, 3) := by decide +kernel
theorem dX8_bowAll_59 : decode cX8_bowAll 59 = .ok (.iload 5, 2) := by decide +kernel
theorem dX8_bowAll_61 : decode cX8_bowAll 61 = .ok (.iload 6, 2) := by decide +kernel
theorem dX8_bowAll_63 : decode cX8_bowAll 63 = .ok (.aload_n 0, 1) := by decide +kernel
theorem dX8_bowAll_64 : decode cX8_bowAll 64 = .ok (.getfield 22, 3) := by decide +kernel
theorem dX8_bowAll_67 : decode cX8_bowAll 67 = .ok (.iload 5, 2) := by decide +kernel
theorem dX8_bowAll_69 : decode cX8_bowAll 69 = .ok (.iaload, 1) := by decide +kernel
theorem dX8_bowAll_70 : decode cX8_bowAll 70 = .ok (.if_icmp .le 13, 3) := by decide +kernel
theorem dX8_bowAll_73 : decode cX8_bowAll 73 = .ok (.aload_n 0, 1) := by decide +kernel
theorem dX8_bowAll_74 : decode cX8_bowAll 74 = .ok (.getfield 22, 3) := by decide +kernel
theorem dX8_bowAll_77 : decode cX8_bowAll 77 = .ok (.iload 5, 2) := by decide +kernel
theorem dX8_bowAll_79 : decode cX8_bowAll 79 = .ok (.iaload, 1) := by decide +kernel
theorem dX8_bowAll_80 : decode cX8_bowAll 80 = .ok (.goto 5, 3) := by decide +kernel
theorem dX8_bowAll_83 : decode cX8_bowAll 83 = .ok (.iload 6, 2) := by decide +kernel
theorem dX8_bowAll_85 : decode cX8_bowAll 85 = .ok (.iastore, 1) := by decide +kernel
theorem dX8_bowAll_86 : decode cX8_bowAll 86 = .ok (.iload 4, 2) := by decide +kernel
theorem dX8_bowAll_88 : decode cX8_bowAll 88 = .ok (.iload 6, 2) := by decide +kernel
theorem dX8_bowAll_90 : decode cX8_bowAll 90 = .ok (.aload_n 0, 1) := by decide +kernel
theorem dX8_bowAll_91 : decode cX8_bowAll 91 = .ok (.getfield 22, 3) := by decide +kernel
theorem dX8_bowAll_94 : decode cX8_bowAll 94 = .ok (.iload 5, 2) := by decide +kernel
theorem dX8_bowAll_96 : decode cX8_bowAll 96 = .ok (.iaload, 1) := by decide +kernel
theorem dX8_bowAll_97 : decode cX8_bowAll 97 = .ok (.if_icmp .le 10, 3) := by decide +kernel
theorem dX8_bowAll_100 : decode cX8_bowAll 100 = .ok (.iconst 1, 1) := by decide +kernel
theorem dX8_bowAll_101 : decode cX8_bowAll 101 = .ok (.iload 5, 2) := by decide +kernel
theorem dX8_bowAll_103 : decode cX8_bowAll 103 = .ok (.ishl, 1) := by decide +kernel
theorem dX8_bowAll_104 : decode cX8_bowAll 104 = .ok (.goto 4, 3) := by decide +kernel
theorem dX8_bowAll_107 : decode cX8_bowAll 107 = .ok (.iconst 0, 1) := by decide +kernel
theorem dX8_bowAll_108 : decode cX8_bowAll 108 = .ok (.ior, 1) := by decide +kernel
theorem dX8_bowAll_109 : decode cX8_bowAll 109 = .ok (.istore 4, 2) := by decide +kernel
theorem dX8_bowAll_111 : decode cX8_bowAll 111 = .ok (.aload_n 0, 1) := by decide +kernel
theorem dX8_bowAll_112 : decode cX8_bowAll 112 = .ok (.getfield 74, 3) := by decide +kernel
theorem dX8_bowAll_115 : decode cX8_bowAll 115 = .ok (.iload 5, 2) := by decide +kernel
theorem dX8_bowAll_117 : decode cX8_bowAll 117 = .ok (.iaload, 1) := by decide +kernel
theorem dX8_bowAll_118 : decode cX8_bowAll 118 = .ok (.aload_n 0, 1) := by decide +kernel
theorem dX8_bowAll_119 : decode cX8_bowAll 119 = .ok (.getfield 77, 3) := by decide +kernel
theorem dX8_bowAll_122 : decode cX8_bowAll 122 = .ok (.iload 5, 2) := by decide +kernel
