theorem dX8_init_0 : decode cX8_init 0 = .ok (.aload_n 0, 1) := by decide +kernel
theorem dX8_init_1 : decode cX8_init 1 = .ok (.invokespecial 1, 3) := by decide +kernel
theorem dX8_init_4 : decode cX8_init 4 = .ok (.aload_n 0, 1) := by decide +kernel
theorem dX8_init_5 : decode cX8_init 5 = .ok (.bipush 51, 2) := by decide +kernel
theorem dX8_init_7 : decode cX8_init 7 = .ok (.newarray .int, 2) := by decide +kernel
theorem dX8_init_9 : decode cX8_init 9 = .ok (.putfield 7, 3) := by decide +kernel
theorem dX8_init_12 : decode cX8_init 12 = .ok (.aload_n 0, 1) := by decide +kernel
theorem dX8_init_13 : decode cX8_init 13 = .ok (.sipush 204, 3) := by decide +kernel
theorem dX8_init_16 : decode cX8_init 16 = .ok (.newarray .int, 2) := by decide +kernel
theorem dX8_init_18 : decode cX8_init 18 = .ok (.putfield 13, 3) := by decide +kernel
theorem dX8_init_21 : decode cX8_init 21 = .ok (.aload_n 0, 1) := by decide +kernel
theorem dX8_init_22 : decode cX8_init 22 = .ok (.bipush 9, 2) := by decide +kernel
theorem dX8_init_24 : decode cX8_init 24 = .ok (.newarray .int, 2) := by decide +kernel
theorem dX8_init_26 : decode cX8_init 26 = .ok (.putfield 16, 3) := by decide +kernel
theorem dX8_init_29 : decode cX8_init 29 = .ok (.aload_n 0, 1) := by decide +kernel
theorem dX8_init_30 : decode cX8_init 30 = .ok (.bipush 9, 2) := by decide +kernel
theorem dX8_init_32 : decode cX8_init 32 = .ok (.newarray .int, 2) := by decide +kernel
theorem dX8_init_34 : decode cX8_init 34 = .ok (.putfield 19, 3) := by decide +kernel
theorem dX8_init_37 : decode cX8_init 37 = .ok (.aload_n 0, 1) := by decide +kernel
theorem dX8_init_38 : decode cX8_init 38 = .ok (.bipush 10, 2) := by decide +kernel
theorem dX8_init_40 : decode cX8_init 40 = .ok (.newarray .int, 2) := by decide +kernel
theorem dX8_init_42 : decode cX8_init 42 = .ok (.putfield 22, 3) := by decide +kernel
theorem dX8_init_45 : decode cX8_init 45 = .ok (.aload_n 0, 1) := by decide +kernel
theorem dX8_init_46 : decode cX8_init 46 = .ok (.bipush 11, 2) := by decide +kernel
theorem dX8_init_48 : decode cX8_init 48 = .ok (.newarray .int, 2) := by decide +kernel
theorem dX8_init_50 : decode cX8_init 50 = .ok (.putfield 25, 3) := by decide +kernel
theorem dX8_init_53 : decode cX8_init 53 = .ok (.aload_n 0, 1) := by decide +kernel
theorem dX8_init_54 : decode cX8_init 54 = .ok (.bipush 9, 2) := by decide +kernel
theorem dX8_init_56 : decode cX8_init 56 = .ok (.newarray .int, 2) := by decide +kernel
theorem dX8_init_58 : decode cX8_init 58 = .ok (.putfield 28, 3) := by decide +kernel
theorem dX8_init_61 : decode cX8_init 61 = .ok (.aload_n 0, 1) := by decide +kernel
theorem dX8_init_62 : decode cX8_init 62 = .ok (.bipush 9, 2) := by decide +kernel
theorem dX8_init_64 : decode cX8_init 64 = .ok (.newarray .int, 2) := by decide +kernel
theorem dX8_init_66 : decode cX8_init 66 = .ok (.putfield 31, 3) := by decide +kernel
theorem dX8_init_69 : decode cX8_init 69 = .ok (.aload_n 0, 1) := by decide +kernel
theorem dX8_init_70 : decode cX8_init 70 = .ok (.bipush 10, 2) := by decide +kernel
theorem dX8_init_72 : decode cX8_init 72 = .ok (.newarray .int, 2) := by decide +kernel
theorem dX8_init_74 : decode cX8_init 74 = .ok (.putfield 34, 3) := by decide +kernel
theorem dX8_init_77 : decode cX8_init 77 = .ok (.aload_n 0, 1) := by decide +kernel
theorem dX8_init_78 : decode cX8_init 78 = .ok (.bipush 11, 2) := by decide +kernel
theorem dX8_init_80 : decode cX8_init 80 = .ok (.newarray .int, 2) := by decide +kernel
theorem dX8_init_82 : decode cX8_init 82 = .ok (.putfield 37, 3) := by decide +kernel
theorem dX8_init_85 : decode cX8_init 85 = .ok (.aload_n 0, 1) := by decide +kernel
theorem dX8_init_86 : decode cX8_init 86 = .ok (.sipush 200, 3) := by decide +kernel
theorem dX8_init_89 : decode cX8_init 89 = .ok (.newarray .int, 2) := by decide +kernel
theorem dX8_init_91 : decode cX8_init 91 = .ok (.putfield 40, 3) := by decide +kernel
theorem dX8_init_94 : decode cX8_init 94 = .ok (.aload_n 0, 1) := by decide +kernel
theorem dX8_init_95 : decode cX8_init 95 = .ok (.sipush 1210, 3) := by decide +kernel
theorem dX8_init_98 : decode cX8_init 98 = .ok (.newarray .int, 2) := by decide +kernel
theorem dX8_init_100 : decode cX8_init 100 = .ok (.putfield 43, 3) := by decide +kernel
theorem dX8_init_103 : decode cX8_init 103 = .ok (.aload_n 0, 1) := by decide +kernel
theorem dX8_init_104 : decode cX8_init 104 = .ok (.bipush 121, 2) := by decide +kernel
theorem dX8_init_106 : decode cX8_init 106 = .ok (.newarray .int, 2) := by decide +kernel
theorem dX8_init_108 : decode cX8_init 108 = .ok (.putfield 46, 3) := by decide +kernel
theorem dX8_init_111 : decode cX8_init 111 = .ok (.aload_n 0, 1) := by decide +kernel
theorem dX8_init_112 : decode cX8_init 112 = .ok (.bipush 10, 2) := by decide +kernel
theorem dX8_init_114 : decode cX8_init 114 = .ok (.newarray .int, 2) := by decide +kernel
theorem dX8_init_116 : decode cX8_init 116 = .ok (.putfield 49, 3) := by decide +kernel
theorem dX8_init_119 : decode cX8_init 119 = .ok (.aload_n 0, 1) := by decide +kernel
theorem dX8_init_120 : decode cX8_init 120 = .ok (.bipush 10, 2) := by decide +kernel
theorem dX8_init_122 : decode cX8_init 122 = .ok (.newarray .int, 2) := by decide +kernel
theorem dX8_init_124 : decode cX8_init 124 = .ok (.putfield 52, 3) := by decide +kernel
theorem dX8_init_127 : decode cX8_init 127 = .ok (.aload_n 0, 1) := by decide +kernel
theorem dX8_init_128 : decode cX8_init 128 = .ok (.bipush 10, 2) := by decide +kernel
theorem dX8_init_130 : decode cX8_init 130 = .ok (.newarray .int, 2) := by decide +kernel
theorem dX8_init_132 : decode cX8_init 132 = .ok (.putfield 55, 3) := by decide +kernel
theorem dX8_init_135 : decode cX8_init 135 = .ok (.aload_n 0, 1) := by decide +kernel
theorem dX8_init_136 : decode cX8_init 136 = .ok (.bipush 10, 2) := by decide +kernel
theorem dX8_init_138 : decode cX8_init 138 = .ok (.newarray .int, 2) := by decide +kernel
theorem dX8_init_140 : decode cX8_init 140 = .ok (.putfield 58, 3) := by decide +kernel
theorem dX8_init_143 : decode cX8_init 143 = .ok (.aload_n 0, 1) := by decide +kernel
theorem dX8_init_144 : decode cX8_init 144 = .ok (.bipush 10, 2) := by decide +kernel
theorem dX8_init_146 : decode cX8_init 146 = .ok (.newarray .int, 2) := by decide +kernel
theorem dX8_init_148 : decode cX8_init 148 = .ok (.putfield 61, 3) := by decide +kernel
theorem dX8_init_151 : decode cX8_init 151 = .ok (.aload_n 0, 1) := by decide +kernel
theorem dX8_init_152 : decode cX8_init 152 = .ok (.bipush 60, 2) := by decide +kernel
theorem dX8_init_154 : decode cX8_init 154 = .ok (.newarray .int, 2) := by decide +kernel
theorem dX8_init_156 : decode cX8_init 156 = .ok (.putfield 64, 3) := by decide +kernel
theorem dX8_init_159 : decode cX8_init 159 = .ok (.aload_n 0, 1) := by decide +kernel
theorem dX8_init_160 : decode cX8_init 160 = .ok (.bipush 10, 2) := by decide +kernel
theorem dX8_init_162 : decode cX8_init 162 = .ok (.newarray .int, 2) := by decide +kernel
theorem dX8_init_164 : decode cX8_init 164 = .ok (.putfield 67, 3) := by decide +kernel
theorem dX8_init_167 : decode cX8_init 167 = .ok (.aload_n 0, 1) := by decide +kernel
theorem dX8_init_168 : decode cX8_init 168 = .ok (.bipush 10, 2) := by decide +kernel
theorem dX8_init_170 : decode cX8_init 170 = .ok (.newarray .long, 2) := by decide +kernel
theorem dX8_init_172 : decode cX8_init 172 = .ok (.putfield 70, 3) := by decide +kernel
theorem dX8_init_175 : decode cX8_init 175 = .ok (.aload_n 0, 1) := by decide +kernel
theorem dX8_init_176 : decode cX8_init 176 = .ok (.sipush 300, 3) := by decide +kernel
theorem dX8_init_179 : decode cX8_init 179 = .ok (.newarray .long, 2) := by decide +kernel
theorem dX8_init_181 : decode cX8_init 181 = .ok (.putfield 74, 3) := by decide +kernel
theorem dX8_init_184 : decode cX8_init 184 = .ok (.aload_n 0, 1) := by decide +kernel
theorem dX8_init_185 : decode cX8_init 185 = .ok (.invokevirtual 77, 3) := by decide +kernel
theorem dX8_init_188 : decode cX8_init 188 = .ok (.aload_n 0, 1) := by decide +kernel
theorem dX8_init_189 : decode cX8_init 189 = .ok (.iconst 0, 1) := by decide +kernel
theorem dX8_init_190 : decode cX8_init 190 = .ok (.iconst 4, 1) := by decide +kernel
theorem dX8_init_191 : decode cX8_init 191 = .ok (.iconst 0, 1) := by decide +kernel
theorem dX8_init_192 : decode cX8_init 192 = .ok (.invokevirtual 80, 3) := by decide +kernel
theorem dX8_init_195 : decode cX8_init 195 = .ok (.aload_n 0, 1) := by decide +kernel
theorem dX8_init_196 : decode cX8_init 196 = .ok (.iconst 1, 1) := by decide +kernel
theorem dX8_init_197 : decode cX8_init 197 = .ok (.iconst 4, 1) := by decide +kernel
theorem dX8_init_198 : decode cX8_init 198 = .ok (.iconst 0, 1) := by decide +kernel
theorem dX8_init_199 : decode cX8_init 199 = .ok (.invokevirtual 80, 3) := by decide +kernel
theorem dX8_init_202 : decode cX8_init 202 = .ok (.aload_n 0, 1) := by decide +kernel
theorem dX8_init_203 : decode cX8_init 203 = .ok (.iconst 2, 1) := by decide +kernel
theorem dX8_init_204 : decode cX8_init 204 = .ok (.bipush 6, 2) := by decide +kernel
theorem dX8_init_206 : decode cX8_init 206 = .ok (.iconst 0, 1) := by decide +kernel
theorem dX8_init_207 : decode cX8_init 207 = .ok (.invokevirtual 80, 3) := by decide +kernel
theorem dX8_init_210 : decode cX8_init 210 = .ok (.aload_n 0, 1) := by decide +kernel
theorem dX8_init_211 : decode cX8_init 211 = .ok (.bipush 7, 2) := by decide +kernel
theorem dX8_init_213 : decode cX8_init 213 = .ok (.iconst 2, 1) := by decide +kernel
theorem dX8_init_214 : decode cX8_init 214 = .ok (.iconst 2, 1) := by decide +kernel
theorem dX8_init_215 : decode cX8_init 215 = .ok (.invokevirtual 80, 3) := by decide +kernel
theorem dX8_init_218 : decode cX8_init 218 = .ok (.aload_n 0, 1) := by decide +kernel
theorem dX8_init_219 : decode cX8_init 219 = .ok (.iconst 4, 1) := by decide +kernel
theorem dX8_init_220 : decode cX8_init 220 = .ok (.putfield 84, 3) := by decide +kernel
theorem dX8_init_223 : decode cX8_init 223 = .ok (.iconst 0, 1) := by decide +kernel
theorem dX8_init_224 : decode cX8_init 224 = .ok (.istore_n 1, 1) := by decide +kernel
theorem dX8_init_225 : decode cX8_init 225 = .ok (.iload_n 1, 1) := by decide +kernel
theorem dX8_init_226 : decode cX8_init 226 = .ok (.iconst 5, 1) := by decide +kernel
theorem dX8_init_227 : decode cX8_init 227 = .ok (.if_icmp .ge 16, 3) := by decide +kernel
theorem dX8_init_230 : decode cX8_init 230 = .ok (.aload_n 0, 1) := by decide +kernel
theorem dX8_init_231 : decode cX8_init 231 = .ok (.getfield 37, 3) := by decide +kernel
theorem dX8_init_234 : decode cX8_init 234 = .ok (.iload_n 1, 1) := by decide +kernel
theorem dX8_init_235 : decode cX8_init 235 = .ok (.iload_n 1, 1) := by decide +kernel
theorem dX8_init_236 : decode cX8_init 236 = .ok (.iastore, 1) := by decide +kernel
theorem dX8_init_237 : decode cX8_init 237 = .ok (.iinc 1 1, 3) := by decide +kernel
theorem dX8_init_240 : decode cX8_init 240 = .ok (.goto (-15), 3) := by decide +kernel
theorem dX8_init_243 : decode cX8_init 243 = .ok (.aload_n 0, 1) := by decide +kernel
theorem dX8_init_244 : decode cX8_init 244 = .ok (.getfield 34, 3) := by decide +kernel
theorem dX8_init_247 : decode cX8_init 247 = .ok (.iconst 0, 1) := by decide +kernel
theorem dX8_init_248 : decode cX8_init 248 = .ok (.iconst 1, 1) := by decide +kernel
theorem dX8_init_249 : decode cX8_init 249 = .ok (.iastore, 1) := by decide +kernel
theorem dX8_init_250 : decode cX8_init 250 = .ok (.aload_n 0, 1) := by decide +kernel
theorem dX8_init_251 : decode cX8_init 251 = .ok (.getfield 34, 3) := by decide +kernel
theorem dX8_init_254 : decode cX8_init 254 = .ok (.iconst 1, 1) := by decide +kernel
theorem dX8_init_255 : decode cX8_init 255 = .ok (.iconst 2, 1) := by decide +kernel
theorem dX8_init_256 : decode cX8_init 256 = .ok (.iastore, 1) := by decide +kernel
theorem dX8_init_257 : decode cX8_init 257 = .ok (.aload_n 0, 1) := by decide +kernel
theorem dX8_init_258 : decode cX8_init 258 = .ok (.getfield 34, 3) := by decide +kernel
theorem dX8_init_261 : decode cX8_init 261 = .ok (.iconst 2, 1) := by decide +kernel
theorem dX8_init_262 : decode cX8_init 262 = .ok (.iconst 0, 1) := by decide +kernel
theorem dX8_init_263 : decode cX8_init 263 = .ok (.iastore, 1) := by decide +kernel
theorem dX8_init_264 : decode cX8_init 264 = .ok (.aload_n 0, 1) := by decide +kernel
theorem dX8_init_265 : decode cX8_init 265 = .ok (.getfield 34, 3) := by decide +kernel
theorem dX8_init_268 : decode cX8_init 268 = .ok (.iconst 3, 1) := by decide +kernel
theorem dX8_init_269 : decode cX8_init 269 = .ok (.bipush 7, 2) := by decide +kernel
theorem dX8_init_271 : decode cX8_init 271 = .ok (.iastore, 1) := by decide +kernel
theorem dX8_init_272 : decode cX8_init 272 = .ok (.aload_n 0, 1) := by decide +kernel
theorem dX8_init_273 : decode cX8_init 273 = .ok (.invokevirtual 88, 3) := by decide +kernel
theorem dX8_init_276 : decode cX8_init 276 = .ok (.return_, 1) := by decide +kernel
theorem dX8_in_0 : decode cX8_in 0 = .ok (.iload_n 0, 1) := by decide +kernel
theorem dX8_in_1 : decode cX8_in 1 = .ok (.iload_n 1, 1) := by decide +kernel
theorem dX8_in_2 : decode cX8_in 2 = .ok (.if_icmp .lt 12, 3) := by decide +kernel
theorem dX8_in_5 : decode cX8_in 5 = .ok (.iload_n 0, 1) := by decide +kernel
theorem dX8_in_6 : decode cX8_in 6 = .ok (.iload_n 2, 1) := by decide +kernel
theorem dX8_in_7 : decode cX8_in 7 = .ok (.if_icmp .gt 7, 3) := by decide +kernel
theorem dX8_in_10 : decode cX8_in 10 = .ok (.iconst 1, 1) := by decide +kernel
theorem dX8_in_11 : decode cX8_in 11 = .ok (.goto 4, 3) := by decide +kernel
theorem dX8_in_14 : decode cX8_in 14 = .ok (.iconst 0, 1) := by decide +kernel
theorem dX8_in_15 : decode cX8_in 15 = .ok (.ireturn, 1) := by decide +kernel
theorem dX8_append_0 : decode cX8_append 0 = .ok (.iload_n 1, 1) := by decide +kernel
theorem dX8_append_1 : decode cX8_append 1 = .ok (.bipush 32, 2) := by decide +kernel
theorem dX8_append_3 : decode cX8_append 3 = .ok (.bipush 126, 2) := by decide +kernel
theorem dX8_append_5 : decode cX8_append 5 = .ok (.invokestatic 91, 3) := by decide +kernel
theorem dX8_append_8 : decode cX8_append 8 = .ok (.ifCond .ne 5, 3) := by decide +kernel
theorem dX8_append_11 : decode cX8_append 11 = .ok (.iconst (-1), 1) := by decide +kernel
theorem dX8_append_12 : decode cX8_append 12 = .ok (.ireturn, 1) := by decide +kernel
theorem dX8_append_13 : decode cX8_append 13 = .ok (.aload_n 0, 1) := by decide +kernel
theorem dX8_append_14 : decode cX8_append 14 = .ok (.getfield 95, 3) := by decide +kernel
theorem dX8_append_17 : decode cX8_append 17 = .ok (.sipush 200, 3) := by decide +kernel
theorem dX8_append_20 : decode cX8_append 20 = .ok (.if_icmp .ne 6, 3) := by decide +kernel
theorem dX8_append_23 : decode cX8_append 23 = .ok (.bipush (-3), 2) := by decide +kernel
theorem dX8_append_25 : decode cX8_append 25 = .ok (.ireturn, 1) := by decide +kernel
theorem dX8_append_26 : decode cX8_append 26 = .ok (.aload_n 0, 1) := by decide +kernel
theorem dX8_append_27 : decode cX8_append 27 = .ok (.getfield 40, 3) := by decide +kernel
theorem dX8_append_30 : decode cX8_append 30 = .ok (.aload_n 0, 1) := by decide +kernel
theorem dX8_append_31 : decode cX8_append 31 = .ok (.getfield 95, 3) := by decide +kernel
theorem dX8_append_34 : decode cX8_append 34 = .ok (.iload_n 1, 1) := by decide +kernel
theorem dX8_append_35 : decode cX8_append 35 = .ok (.iastore, 1) := by decide +kernel
theorem dX8_append_36 : decode cX8_append 36 = .ok (.aload_n 0, 1) := by decide +kernel
theorem dX8_append_37 : decode cX8_append 37 = .ok (.dup, 1) := by decide +kernel
theorem dX8_append_38 : decode cX8_append 38 = .ok (.getfield 95, 3) := by decide +kernel
theorem dX8_append_41 : decode cX8_append 41 = .ok (.iconst 1, 1) := by decide +kernel
theorem dX8_append_42 : decode cX8_append 42 = .ok (.iadd, 1) := by decide +kernel
theorem dX8_append_43 : decode cX8_append 43 = .ok (.putfield 95, 3) := by decide +kernel
theorem dX8_append_46 : decode cX8_append 46 = .ok (.aload_n 0, 1) := by decide +kernel
theorem dX8_append_47 : decode cX8_append 47 = .ok (.getfield 95, 3) := by decide +kernel
theorem dX8_append_50 : decode cX8_append 50 = .ok (.ireturn, 1) := by decide +kernel
theorem dX8_clearText_0 : decode cX8_clearText 0 = .ok (.aload_n 0, 1) := by decide +kernel
theorem dX8_clearText_1 : decode cX8_clearText 1 = .ok (.getfield 95, 3) := by decide +kernel
theorem dX8_clearText_4 : decode cX8_clearText 4 = .ok (.istore_n 1, 1) := by decide +kernel
theorem dX8_clearText_5 : decode cX8_clearText 5 = .ok (.aload_n 0, 1) := by decide +kernel
theorem dX8_clearText_6 : decode cX8_clearText 6 = .ok (.iconst 0, 1) := by decide +kernel
theorem dX8_clearText_7 : decode cX8_clearText 7 = .ok (.putfield 95, 3) := by decide +kernel
theorem dX8_clearText_10 : decode cX8_clearText 10 = .ok (.iload_n 1, 1) := by decide +kernel
theorem dX8_clearText_11 : decode cX8_clearText 11 = .ok (.ireturn, 1) := by decide +kernel
theorem dX8_resetReading_0 : decode cX8_resetReading 0 = .ok (.iconst 0, 1) := by decide +kernel
theorem dX8_resetReading_1 : decode cX8_resetReading 1 = .ok (.istore_n 1, 1) := by decide +kernel
theorem dX8_resetReading_2 : decode cX8_resetReading 2 = .ok (.iload_n 1, 1) := by decide +kernel
theorem dX8_resetReading_3 : decode cX8_resetReading 3 = .ok (.bipush 9, 2) := by decide +kernel
theorem dX8_resetReading_5 : decode cX8_resetReading 5 = .ok (.if_icmp .ge 24, 3) := by decide +kernel
theorem dX8_resetReading_8 : decode cX8_resetReading 8 = .ok (.aload_n 0, 1) := by decide +kernel
theorem dX8_resetReading_9 : decode cX8_resetReading 9 = .ok (.getfield 28, 3) := by decide +kernel
theorem dX8_resetReading_12 : decode cX8_resetReading 12 = .ok (.iload_n 1, 1) := by decide +kernel
theorem dX8_resetReading_13 : decode cX8_resetReading 13 = .ok (.bipush (-4), 2) := by decide +kernel
theorem dX8_resetReading_15 : decode cX8_resetReading 15 = .ok (.iastore, 1) := by decide +kernel
theorem dX8_resetReading_16 : decode cX8_resetReading 16 = .ok (.aload_n 0, 1) := by decide +kernel
theorem dX8_resetReading_17 : decode cX8_resetReading 17 = .ok (.getfield 31, 3) := by decide +kernel
theorem dX8_resetReading_20 : decode cX8_resetReading 20 = .ok (.iload_n 1, 1) := by decide +kernel
theorem dX8_resetReading_21 : decode cX8_resetReading 21 = .ok (.iconst 0, 1) := by decide +kernel
theorem dX8_resetReading_22 : decode cX8_resetReading 22 = .ok (.iastore, 1) := by decide +kernel
theorem dX8_resetReading_23 : decode cX8_resetReading 23 = .ok (.iinc 1 1, 3) := by decide +kernel
theorem dX8_resetReading_26 : decode cX8_resetReading 26 = .ok (.goto (-24), 3) := by decide +kernel
theorem dX8_resetReading_29 : decode cX8_resetReading 29 = .ok (.aload_n 0, 1) := by decide +kernel
theorem dX8_resetReading_30 : decode cX8_resetReading 30 = .ok (.bipush (-4), 2) := by decide +kernel
theorem dX8_resetReading_32 : decode cX8_resetReading 32 = .ok (.putfield 84, 3) := by decide +kernel
theorem dX8_resetReading_35 : decode cX8_resetReading 35 = .ok (.return_, 1) := by decide +kernel
theorem dX8_declare_0 : decode cX8_declare 0 = .ok (.aload_n 0, 1) := by decide +kernel
theorem dX8_declare_1 : decode cX8_declare 1 = .ok (.getfield 28, 3) := by decide +kernel
theorem dX8_declare_4 : decode cX8_declare 4 = .ok (.iload_n 1, 1) := by decide +kernel
theorem dX8_declare_5 : decode cX8_declare 5 = .ok (.iload_n 2, 1) := by decide +kernel
theorem dX8_declare_6 : decode cX8_declare 6 = .ok (.iastore, 1) := by decide +kernel
theorem dX8_declare_7 : decode cX8_declare 7 = .ok (.aload_n 0, 1) := by decide +kernel
theorem dX8_declare_8 : decode cX8_declare 8 = .ok (.getfield 31, 3) := by decide +kernel
theorem dX8_declare_11 : decode cX8_declare 11 = .ok (.iload_n 1, 1) := by decide +kernel
theorem dX8_declare_12 : decode cX8_declare 12 = .ok (.iload_n 3, 1) := by decide +kernel
theorem dX8_declare_13 : decode cX8_declare 13 = .ok (.iastore, 1) := by decide +kernel
theorem dX8_declare_14 : decode cX8_declare 14 = .ok (.return_, 1) := by decide +kernel
theorem dX8_characterAt_0 : decode cX8_characterAt 0 = .ok (.iload_n 1, 1) := by decide +kernel
theorem dX8_characterAt_1 : decode cX8_characterAt 1 = .ok (.aload_n 0, 1) := by decide +kernel
theorem dX8_characterAt_2 : decode cX8_characterAt 2 = .ok (.getfield 95, 3) := by decide +kernel
theorem dX8_characterAt_5 : decode cX8_characterAt 5 = .ok (.if_icmp .ge 12, 3) := by decide +kernel
theorem dX8_characterAt_8 : decode cX8_characterAt 8 = .ok (.aload_n 0, 1) := by decide +kernel
theorem dX8_characterAt_9 : decode cX8_characterAt 9 = .ok (.getfield 40, 3) := by decide +kernel
theorem dX8_characterAt_12 : decode cX8_characterAt 12 = .ok (.iload_n 1, 1) := by decide +kernel
theorem dX8_characterAt_13 : decode cX8_characterAt 13 = .ok (.iaload, 1) := by decide +kernel
theorem dX8_characterAt_14 : decode cX8_characterAt 14 = .ok (.goto 4, 3) := by decide +kernel
theorem dX8_characterAt_17 : decode cX8_characterAt 17 = .ok (.iconst (-1), 1) := by decide +kernel
theorem dX8_characterAt_18 : decode cX8_characterAt 18 = .ok (.ireturn, 1) := by decide +kernel
theorem dX8_symbolOfCharacter_0 : decode cX8_symbolOfCharacter 0 = .ok (.iload_n 0, 1) := by decide +kernel
theorem dX8_symbolOfCharacter_1 : decode cX8_symbolOfCharacter 1 = .ok (.lookupswitch 104 #[(37, 91), (38, 93), (42, 87), (43, 83), (45, 85), (47, 89), (60, 98), (61, 101), (124, 95)], 83) := by decide +kernel
theorem dX8_symbolOfCharacter_84 : decode cX8_symbolOfCharacter 84 = .ok (.iconst 0, 1) := by decide +kernel
theorem dX8_symbolOfCharacter_85 : decode cX8_symbolOfCharacter 85 = .ok (.ireturn, 1) := by decide +kernel
theorem dX8_symbolOfCharacter_86 : decode cX8_symbolOfCharacter 86 = .ok (.iconst 1, 1) := by decide +kernel
theorem dX8_symbolOfCharacter_87 : decode cX8_symbolOfCharacter 87 = .ok (.ireturn, 1) := by decide +kernel
theorem dX8_symbolOfCharacter_88 : decode cX8_symbolOfCharacter 88 = .ok (.iconst 2, 1) := by decide +kernel
theorem dX8_symbolOfCharacter_89 : decode cX8_symbolOfCharacter 89 = .ok (.ireturn, 1) := by decide +kernel
theorem dX8_symbolOfCharacter_90 : decode cX8_symbolOfCharacter 90 = .ok (.iconst 3, 1) := by decide +kernel
theorem dX8_symbolOfCharacter_91 : decode cX8_symbolOfCharacter 91 = .ok (.ireturn, 1) := by decide +kernel
theorem dX8_symbolOfCharacter_92 : decode cX8_symbolOfCharacter 92 = .ok (.iconst 4, 1) := by decide +kernel
theorem dX8_symbolOfCharacter_93 : decode cX8_symbolOfCharacter 93 = .ok (.ireturn, 1) := by decide +kernel
theorem dX8_symbolOfCharacter_94 : decode cX8_symbolOfCharacter 94 = .ok (.iconst 5, 1) := by decide +kernel
theorem dX8_symbolOfCharacter_95 : decode cX8_symbolOfCharacter 95 = .ok (.ireturn, 1) := by decide +kernel
theorem dX8_symbolOfCharacter_96 : decode cX8_symbolOfCharacter 96 = .ok (.bipush 6, 2) := by decide +kernel
theorem dX8_symbolOfCharacter_98 : decode cX8_symbolOfCharacter 98 = .ok (.ireturn, 1) := by decide +kernel
theorem dX8_symbolOfCharacter_99 : decode cX8_symbolOfCharacter 99 = .ok (.bipush 7, 2) := by decide +kernel
theorem dX8_symbolOfCharacter_101 : decode cX8_symbolOfCharacter 101 = .ok (.ireturn, 1) := by decide +kernel
theorem dX8_symbolOfCharacter_102 : decode cX8_symbolOfCharacter 102 = .ok (.bipush 8, 2) := by decide +kernel
theorem dX8_symbolOfCharacter_104 : decode cX8_symbolOfCharacter 104 = .ok (.ireturn, 1) := by decide +kernel
theorem dX8_symbolOfCharacter_105 : decode cX8_symbolOfCharacter 105 = .ok (.bipush (-4), 2) := by decide +kernel
theorem dX8_symbolOfCharacter_107 : decode cX8_symbolOfCharacter 107 = .ok (.ireturn, 1) := by decide +kernel
theorem dX8_isTaken_0 : decode cX8_isTaken 0 = .ok (.aload_n 0, 1) := by decide +kernel
theorem dX8_isTaken_1 : decode cX8_isTaken 1 = .ok (.aload_n 0, 1) := by decide +kernel
theorem dX8_isTaken_2 : decode cX8_isTaken 2 = .ok (.getfield 98, 3) := by decide +kernel
theorem dX8_isTaken_5 : decode cX8_isTaken 5 = .ok (.invokevirtual 101, 3) := by decide +kernel
theorem dX8_isTaken_8 : decode cX8_isTaken 8 = .ok (.iload_n 1, 1) := by decide +kernel
theorem dX8_isTaken_9 : decode cX8_isTaken 9 = .ok (.if_icmp .ne 7, 3) := by decide +kernel
theorem dX8_isTaken_12 : decode cX8_isTaken 12 = .ok (.iconst 1, 1) := by decide +kernel
theorem dX8_isTaken_13 : decode cX8_isTaken 13 = .ok (.goto 4, 3) := by decide +kernel
theorem dX8_isTaken_16 : decode cX8_isTaken 16 = .ok (.iconst 0, 1) := by decide +kernel
theorem dX8_isTaken_17 : decode cX8_isTaken 17 = .ok (.istore_n 2, 1) := by decide +kernel
theorem dX8_isTaken_18 : decode cX8_isTaken 18 = .ok (.aload_n 0, 1) := by decide +kernel
theorem dX8_isTaken_19 : decode cX8_isTaken 19 = .ok (.dup, 1) := by decide +kernel
theorem dX8_isTaken_20 : decode cX8_isTaken 20 = .ok (.getfield 98, 3) := by decide +kernel
theorem dX8_isTaken_23 : decode cX8_isTaken 23 = .ok (.iload_n 2, 1) := by decide +kernel
theorem dX8_isTaken_24 : decode cX8_isTaken 24 = .ok (.ifCond .eq 7, 3) := by decide +kernel
theorem dX8_isTaken_27 : decode cX8_isTaken 27 = .ok (.iconst 1, 1) := by decide +kernel
theorem dX8_isTaken_28 : decode cX8_isTaken 28 = .ok (.goto 4, 3) := by decide +kernel
theorem dX8_isTaken_31 : decode cX8_isTaken 31 = .ok (.iconst 0, 1) := by decide +kernel
theorem dX8_isTaken_32 : decode cX8_isTaken 32 = .ok (.iadd, 1) := by decide +kernel
theorem dX8_isTaken_33 : decode cX8_isTaken 33 = .ok (.putfield 98, 3) := by decide +kernel
theorem dX8_isTaken_36 : decode cX8_isTaken 36 = .ok (.iload_n 2, 1) := by decide +kernel
theorem dX8_isTaken_37 : decode cX8_isTaken 37 = .ok (.ireturn, 1) := by decide +kernel
theorem dX8_readOp_0 : decode cX8_readOp 0 = .ok (.aload_n 0, 1) := by decide +kernel
theorem dX8_readOp_1 : decode cX8_readOp 1 = .ok (.bipush 112, 2) := by decide +kernel
theorem dX8_readOp_3 : decode cX8_readOp 3 = .ok (.invokevirtual 105, 3) := by decide +kernel
theorem dX8_readOp_6 : decode cX8_readOp 6 = .ok (.ifCond .ne 5, 3) := by decide +kernel
theorem dX8_readOp_9 : decode cX8_readOp 9 = .ok (.iconst 0, 1) := by decide +kernel
theorem dX8_readOp_10 : decode cX8_readOp 10 = .ok (.ireturn, 1) := by decide +kernel
theorem dX8_readOp_11 : decode cX8_readOp 11 = .ok (.aload_n 0, 1) := by decide +kernel
theorem dX8_readOp_12 : decode cX8_readOp 12 = .ok (.aload_n 0, 1) := by decide +kernel
theorem dX8_readOp_13 : decode cX8_readOp 13 = .ok (.getfield 98, 3) := by decide +kernel
theorem dX8_readOp_16 : decode cX8_readOp 16 = .ok (.invokevirtual 101, 3) := by decide +kernel
theorem dX8_readOp_19 : decode cX8_readOp 19 = .ok (.invokestatic 109, 3) := by decide +kernel
theorem dX8_readOp_22 : decode cX8_readOp 22 = .ok (.istore_n 1, 1) := by decide +kernel
theorem dX8_readOp_23 : decode cX8_readOp 23 = .ok (.aload_n 0, 1) := by decide +kernel
theorem dX8_readOp_24 : decode cX8_readOp 24 = .ok (.aload_n 0, 1) := by decide +kernel
theorem dX8_readOp_25 : decode cX8_readOp 25 = .ok (.getfield 98, 3) := by decide +kernel
theorem dX8_readOp_28 : decode cX8_readOp 28 = .ok (.iconst 1, 1) := by decide +kernel
theorem dX8_readOp_29 : decode cX8_readOp 29 = .ok (.iadd, 1) := by decide +kernel
theorem dX8_readOp_30 : decode cX8_readOp 30 = .ok (.invokevirtual 101, 3) := by decide +kernel
theorem dX8_readOp_33 : decode cX8_readOp 33 = .ok (.bipush 48, 2) := by decide +kernel
theorem dX8_readOp_35 : decode cX8_readOp 35 = .ok (.isub, 1) := by decide +kernel
theorem dX8_readOp_36 : decode cX8_readOp 36 = .ok (.istore_n 2, 1) := by decide +kernel
theorem dX8_readOp_37 : decode cX8_readOp 37 = .ok (.aload_n 0, 1) := by decide +kernel
theorem dX8_readOp_38 : decode cX8_readOp 38 = .ok (.aload_n 0, 1) := by decide +kernel
theorem dX8_readOp_39 : decode cX8_readOp 39 = .ok (.getfield 98, 3) := by decide +kernel
theorem dX8_readOp_42 : decode cX8_readOp 42 = .ok (.iconst 2, 1) := by decide +kernel
theorem dX8_readOp_43 : decode cX8_readOp 43 = .ok (.iadd, 1) := by decide +kernel
theorem dX8_readOp_44 : decode cX8_readOp 44 = .ok (.invokevirtual 101, 3) := by decide +kernel
theorem dX8_readOp_47 : decode cX8_readOp 47 = .ok (.istore_n 3, 1) := by decide +kernel
theorem dX8_readOp_48 : decode cX8_readOp 48 = .ok (.iload_n 3, 1) := by decide +kernel
theorem dX8_readOp_49 : decode cX8_readOp 49 = .ok (.bipush 108, 2) := by decide +kernel
theorem dX8_readOp_51 : decode cX8_readOp 51 = .ok (.if_icmp .ne 7, 3) := by decide +kernel
theorem dX8_readOp_54 : decode cX8_readOp 54 = .ok (.iconst 0, 1) := by decide +kernel
theorem dX8_readOp_55 : decode cX8_readOp 55 = .ok (.goto 25, 3) := by decide +kernel
theorem dX8_readOp_58 : decode cX8_readOp 58 = .ok (.iload_n 3, 1) := by decide +kernel
theorem dX8_readOp_59 : decode cX8_readOp 59 = .ok (.bipush 114, 2) := by decide +kernel
theorem dX8_readOp_61 : decode cX8_readOp 61 = .ok (.if_icmp .ne 7, 3) := by decide +kernel
theorem dX8_readOp_64 : decode cX8_readOp 64 = .ok (.iconst 1, 1) := by decide +kernel
theorem dX8_readOp_65 : decode cX8_readOp 65 = .ok (.goto 15, 3) := by decide +kernel
theorem dX8_readOp_68 : decode cX8_readOp 68 = .ok (.iload_n 3, 1) := by decide +kernel
theorem dX8_readOp_69 : decode cX8_readOp 69 = .ok (.bipush 110, 2) := by decide +kernel
theorem dX8_readOp_71 : decode cX8_readOp 71 = .ok (.if_icmp .ne 7, 3) := by decide +kernel
theorem dX8_readOp_74 : decode cX8_readOp 74 = .ok (.iconst 2, 1) := by decide +kernel
theorem dX8_readOp_75 : decode cX8_readOp 75 = .ok (.goto 5, 3) := by decide +kernel
theorem dX8_readOp_78 : decode cX8_readOp 78 = .ok (.bipush (-4), 2) := by decide +kernel
theorem dX8_readOp_80 : decode cX8_readOp 80 = .ok (.istore 4, 2) := by decide +kernel
theorem dX8_readOp_82 : decode cX8_readOp 82 = .ok (.iload_n 1, 1) := by decide +kernel
theorem dX8_readOp_83 : decode cX8_readOp 83 = .ok (.bipush (-4), 2) := by decide +kernel
theorem dX8_readOp_85 : decode cX8_readOp 85 = .ok (.if_icmp .eq 20, 3) := by decide +kernel
theorem dX8_readOp_88 : decode cX8_readOp 88 = .ok (.iload_n 2, 1) := by decide +kernel
theorem dX8_readOp_89 : decode cX8_readOp 89 = .ok (.iconst 0, 1) := by decide +kernel
theorem dX8_readOp_90 : decode cX8_readOp 90 = .ok (.bipush 9, 2) := by decide +kernel
theorem dX8_readOp_92 : decode cX8_readOp 92 = .ok (.invokestatic 91, 3) := by decide +kernel
theorem dX8_readOp_95 : decode cX8_readOp 95 = .ok (.ifCond .eq 10, 3) := by decide +kernel
theorem dX8_readOp_98 : decode cX8_readOp 98 = .ok (.iload 4, 2) := by decide +kernel
theorem dX8_readOp_100 : decode cX8_readOp 100 = .ok (.bipush (-4), 2) := by decide +kernel
theorem dX8_readOp_102 : decode cX8_readOp 102 = .ok (.if_icmp .ne 5, 3) := by decide +kernel
theorem dX8_readOp_105 : decode cX8_readOp 105 = .ok (.iconst 0, 1) := by decide +kernel
theorem dX8_readOp_106 : decode cX8_readOp 106 = .ok (.ireturn, 1) := by decide +kernel
theorem dX8_readOp_107 : decode cX8_readOp 107 = .ok (.aload_n 0, 1) := by decide +kernel
theorem dX8_readOp_108 : decode cX8_readOp 108 = .ok (.dup, 1) := by decide +kernel
theorem dX8_readOp_109 : decode cX8_readOp 109 = .ok (.getfield 98, 3) := by decide +kernel
theorem dX8_readOp_112 : decode cX8_readOp 112 = .ok (.iconst 3, 1) := by decide +kernel
theorem dX8_readOp_113 : decode cX8_readOp 113 = .ok (.iadd, 1) := by decide +kernel
theorem dX8_readOp_114 : decode cX8_readOp 114 = .ok (.putfield 98, 3) := by decide +kernel
theorem dX8_readOp_117 : decode cX8_readOp 117 = .ok (.aload_n 0, 1) := by decide +kernel
theorem dX8_readOp_118 : decode cX8_readOp 118 = .ok (.iload_n 1, 1) := by decide +kernel
theorem dX8_readOp_119 : decode cX8_readOp 119 = .ok (.iload_n 2, 1) := by decide +kernel
theorem dX8_readOp_120 : decode cX8_readOp 120 = .ok (.iload 4, 2) := by decide +kernel
theorem dX8_readOp_122 : decode cX8_readOp 122 = .ok (.invokevirtual 80, 3) := by decide +kernel
theorem dX8_readOp_125 : decode cX8_readOp 125 = .ok (.aload_n 0, 1) := by decide +kernel
theorem dX8_readOp_126 : decode cX8_readOp 126 = .ok (.bipush 59, 2) := by decide +kernel
theorem dX8_readOp_128 : decode cX8_readOp 128 = .ok (.invokevirtual 105, 3) := by decide +kernel
theorem dX8_readOp_131 : decode cX8_readOp 131 = .ok (.ireturn, 1) := by decide +kernel
theorem dX8_isOperand_0 : decode cX8_isOperand 0 = .ok (.aload_n 0, 1) := by decide +kernel
theorem dX8_isOperand_1 : decode cX8_isOperand 1 = .ok (.aload_n 0, 1) := by decide +kernel
theorem dX8_isOperand_2 : decode cX8_isOperand 2 = .ok (.getfield 98, 3) := by decide +kernel
theorem dX8_isOperand_5 : decode cX8_isOperand 5 = .ok (.invokevirtual 101, 3) := by decide +kernel
theorem dX8_isOperand_8 : decode cX8_isOperand 8 = .ok (.bipush 97, 2) := by decide +kernel
theorem dX8_isOperand_10 : decode cX8_isOperand 10 = .ok (.bipush 122, 2) := by decide +kernel
theorem dX8_isOperand_12 : decode cX8_isOperand 12 = .ok (.invokestatic 91, 3) := by decide +kernel
theorem dX8_isOperand_15 : decode cX8_isOperand 15 = .ok (.ireturn, 1) := by decide +kernel
theorem dX8_readExpression_0 : decode cX8_readExpression 0 = .ok (.aload_n 0, 1) := by decide +kernel
theorem dX8_readExpression_1 : decode cX8_readExpression 1 = .ok (.getfield 84, 3) := by decide +kernel
theorem dX8_readExpression_4 : decode cX8_readExpression 4 = .ok (.bipush (-4), 2) := by decide +kernel
theorem dX8_readExpression_6 : decode cX8_readExpression 6 = .ok (.if_icmp .ne 37, 3) := by decide +kernel
theorem dX8_readExpression_9 : decode cX8_readExpression 9 = .ok (.aload_n 0, 1) := by decide +kernel
theorem dX8_readExpression_10 : decode cX8_readExpression 10 = .ok (.bipush 120, 2) := by decide +kernel
theorem dX8_readExpression_12 : decode cX8_readExpression 12 = .ok (.invokevirtual 105, 3) := by decide +kernel
theorem dX8_readExpression_15 : decode cX8_readExpression 15 = .ok (.ifCond .eq 28, 3) := by decide +kernel
theorem dX8_readExpression_18 : decode cX8_readExpression 18 = .ok (.aload_n 0, 1) := by decide +kernel
theorem dX8_readExpression_19 : decode cX8_readExpression 19 = .ok (.bipush 112, 2) := by decide +kernel
theorem dX8_readExpression_21 : decode cX8_readExpression 21 = .ok (.invokevirtual 105, 3) := by decide +kernel
theorem dX8_readExpression_24 : decode cX8_readExpression 24 = .ok (.ifCond .eq 19, 3) := by decide +kernel
theorem dX8_readExpression_27 : decode cX8_readExpression 27 = .ok (.aload_n 0, 1) := by decide +kernel
theorem dX8_readExpression_28 : decode cX8_readExpression 28 = .ok (.bipush 114, 2) := by decide +kernel
theorem dX8_readExpression_30 : decode cX8_readExpression 30 = .ok (.invokevirtual 105, 3) := by decide +kernel
theorem dX8_readExpression_33 : decode cX8_readExpression 33 = .ok (.ifCond .eq 10, 3) := by decide +kernel
theorem dX8_readExpression_36 : decode cX8_readExpression 36 = .ok (.aload_n 0, 1) := by decide +kernel
theorem dX8_readExpression_37 : decode cX8_readExpression 37 = .ok (.invokevirtual 112, 3) := by decide +kernel
theorem dX8_readExpression_40 : decode cX8_readExpression 40 = .ok (.ifCond .ne 5, 3) := by decide +kernel
theorem dX8_readExpression_43 : decode cX8_readExpression 43 = .ok (.iconst 0, 1) := by decide +kernel
theorem dX8_readExpression_44 : decode cX8_readExpression 44 = .ok (.ireturn, 1) := by decide +kernel
theorem dX8_readExpression_45 : decode cX8_readExpression 45 = .ok (.aload_n 0, 1) := by decide +kernel
theorem dX8_readExpression_46 : decode cX8_readExpression 46 = .ok (.getfield 37, 3) := by decide +kernel
theorem dX8_readExpression_49 : decode cX8_readExpression 49 = .ok (.iconst 0, 1) := by decide +kernel
theorem dX8_readExpression_50 : decode cX8_readExpression 50 = .ok (.aload_n 0, 1) := by decide +kernel
theorem dX8_readExpression_51 : decode cX8_readExpression 51 = .ok (.getfield 40, 3) := by decide +kernel
theorem dX8_readExpression_54 : decode cX8_readExpression 54 = .ok (.aload_n 0, 1) := by decide +kernel
theorem dX8_readExpression_55 : decode cX8_readExpression 55 = .ok (.getfield 98, 3) := by decide +kernel
theorem dX8_readExpression_58 : decode cX8_readExpression 58 = .ok (.iaload, 1) := by decide +kernel
theorem dX8_readExpression_59 : decode cX8_readExpression 59 = .ok (.bipush 97, 2) := by decide +kernel
theorem dX8_readExpression_61 : decode cX8_readExpression 61 = .ok (.isub, 1) := by decide +kernel
theorem dX8_readExpression_62 : decode cX8_readExpression 62 = .ok (.iastore, 1) := by decide +kernel
theorem dX8_readExpression_63 : decode cX8_readExpression 63 = .ok (.aload_n 0, 1) := by decide +kernel
theorem dX8_readExpression_64 : decode cX8_readExpression 64 = .ok (.dup, 1) := by decide +kernel
theorem dX8_readExpression_65 : decode cX8_readExpression 65 = .ok (.getfield 98, 3) := by decide +kernel
theorem dX8_readExpression_68 : decode cX8_readExpression 68 = .ok (.iconst 1, 1) := by decide +kernel
theorem dX8_readExpression_69 : decode cX8_readExpression 69 = .ok (.iadd, 1) := by decide +kernel
theorem dX8_readExpression_70 : decode cX8_readExpression 70 = .ok (.putfield 98, 3) := by decide +kernel
theorem dX8_readExpression_73 : decode cX8_readExpression 73 = .ok (.iconst 0, 1) := by decide +kernel
theorem dX8_readExpression_74 : decode cX8_readExpression 74 = .ok (.istore_n 1, 1) := by decide +kernel
theorem dX8_readExpression_75 : decode cX8_readExpression 75 = .ok (.aload_n 0, 1) := by decide +kernel
theorem dX8_readExpression_76 : decode cX8_readExpression 76 = .ok (.bipush 59, 2) := by decide +kernel
theorem dX8_readExpression_78 : decode cX8_readExpression 78 = .ok (.invokevirtual 105, 3) := by decide +kernel
theorem dX8_readExpression_81 : decode cX8_readExpression 81 = .ok (.ifCond .ne 108, 3) := by decide +kernel
theorem dX8_readExpression_84 : decode cX8_readExpression 84 = .ok (.aload_n 0, 1) := by decide +kernel
theorem dX8_readExpression_85 : decode cX8_readExpression 85 = .ok (.aload_n 0, 1) := by decide +kernel
theorem dX8_readExpression_86 : decode cX8_readExpression 86 = .ok (.getfield 98, 3) := by decide +kernel
theorem dX8_readExpression_89 : decode cX8_readExpression 89 = .ok (.invokevirtual 101, 3) := by decide +kernel
theorem dX8_readExpression_92 : decode cX8_readExpression 92 = .ok (.invokestatic 109, 3) := by decide +kernel
theorem dX8_readExpression_95 : decode cX8_readExpression 95 = .ok (.istore_n 2, 1) := by decide +kernel
theorem dX8_readExpression_96 : decode cX8_readExpression 96 = .ok (.iload_n 2, 1) := by decide +kernel
theorem dX8_readExpression_97 : decode cX8_readExpression 97 = .ok (.bipush (-4), 2) := by decide +kernel
theorem dX8_readExpression_99 : decode cX8_readExpression 99 = .ok (.if_icmp .eq 28, 3) := by decide +kernel
theorem dX8_readExpression_102 : decode cX8_readExpression 102 = .ok (.iload_n 1, 1) := by decide +kernel
theorem dX8_readExpression_103 : decode cX8_readExpression 103 = .ok (.bipush 10, 2) := by decide +kernel
theorem dX8_readExpression_105 : decode cX8_readExpression 105 = .ok (.if_icmp .eq 22, 3) := by decide +kernel
theorem dX8_readExpression_108 : decode cX8_readExpression 108 = .ok (.aload_n 0, 1) := by decide +kernel
theorem dX8_readExpression_109 : decode cX8_readExpression 109 = .ok (.getfield 28, 3) := by decide +kernel
theorem dX8_readExpression_112 : decode cX8_readExpression 112 = .ok (.iload_n 2, 1) := by decide +kernel
theorem dX8_readExpression_113 : decode cX8_readExpression 113 = .ok (.ifCond .ge 7, 3) := by decide +kernel
theorem dX8_readExpression_116 : decode cX8_readExpression 116 = .ok (.iconst 0, 1) := by decide +kernel
theorem dX8_readExpression_117 : decode cX8_readExpression 117 = .ok (.goto 4, 3) := by decide +kernel
theorem dX8_readExpression_120 : decode cX8_readExpression 120 = .ok (.iload_n 2, 1) := by decide +kernel
theorem dX8_readExpression_121 : decode cX8_readExpression 121 = .ok (.iaload, 1) := by decide +kernel
theorem dX8_readExpression_122 : decode cX8_readExpression 122 = .ok (.bipush (-4), 2) := by decide +kernel
theorem dX8_readExpression_124 : decode cX8_readExpression 124 = .ok (.if_icmp .ne 5, 3) := by decide +kernel
theorem dX8_readExpression_127 : decode cX8_readExpression 127 = .ok (.iconst 0, 1) := by decide +kernel
theorem dX8_readExpression_128 : decode cX8_readExpression 128 = .ok (.ireturn, 1) := by decide +kernel
theorem dX8_readExpression_129 : decode cX8_readExpression 129 = .ok (.aload_n 0, 1) := by decide +kernel
theorem dX8_readExpression_130 : decode cX8_readExpression 130 = .ok (.dup, 1) := by decide +kernel
theorem dX8_readExpression_131 : decode cX8_readExpression 131 = .ok (.getfield 98, 3) := by decide +kernel
theorem dX8_readExpression_134 : decode cX8_readExpression 134 = .ok (.iconst 1, 1) := by decide +kernel
theorem dX8_readExpression_135 : decode cX8_readExpression 135 = .ok (.iadd, 1) := by decide +kernel
theorem dX8_readExpression_136 : decode cX8_readExpression 136 = .ok (.putfield 98, 3) := by decide +kernel
theorem dX8_readExpression_139 : decode cX8_readExpression 139 = .ok (.aload_n 0, 1) := by decide +kernel
theorem dX8_readExpression_140 : decode cX8_readExpression 140 = .ok (.invokevirtual 112, 3) := by decide +kernel
theorem dX8_readExpression_143 : decode cX8_readExpression 143 = .ok (.ifCond .ne 5, 3) := by decide +kernel
theorem dX8_readExpression_146 : decode cX8_readExpression 146 = .ok (.iconst 0, 1) := by decide +kernel
theorem dX8_readExpression_147 : decode cX8_readExpression 147 = .ok (.ireturn, 1) := by decide +kernel
theorem dX8_readExpression_148 : decode cX8_readExpression 148 = .ok (.aload_n 0, 1) := by decide +kernel
theorem dX8_readExpression_149 : decode cX8_readExpression 149 = .ok (.getfield 34, 3) := by decide +kernel
theorem dX8_readExpression_152 : decode cX8_readExpression 152 = .ok (.iload_n 1, 1) := by decide +kernel
theorem dX8_readExpression_153 : decode cX8_readExpression 153 = .ok (.iload_n 2, 1) := by decide +kernel
theorem dX8_readExpression_154 : decode cX8_readExpression 154 = .ok (.iastore, 1) := by decide +kernel
theorem dX8_readExpression_155 : decode cX8_readExpression 155 = .ok (.iinc 1 1, 3) := by decide +kernel
theorem dX8_readExpression_158 : decode cX8_readExpression 158 = .ok (.aload_n 0, 1) := by decide +kernel
theorem dX8_readExpression_159 : decode cX8_readExpression 159 = .ok (.getfield 37, 3) := by decide +kernel
theorem dX8_readExpression_162 : decode cX8_readExpression 162 = .ok (.iload_n 1, 1) := by decide +kernel
theorem dX8_readExpression_163 : decode cX8_readExpression 163 = .ok (.aload_n 0, 1) := by decide +kernel
theorem dX8_readExpression_164 : decode cX8_readExpression 164 = .ok (.getfield 40, 3) := by decide +kernel
theorem dX8_readExpression_167 : decode cX8_readExpression 167 = .ok (.aload_n 0, 1) := by decide +kernel
theorem dX8_readExpression_168 : decode cX8_readExpression 168 = .ok (.getfield 98, 3) := by decide +kernel
theorem dX8_readExpression_171 : decode cX8_readExpression 171 = .ok (.iaload, 1) := by decide +kernel
theorem dX8_readExpression_172 : decode cX8_readExpression 172 = .ok (.bipush 97, 2) := by decide +kernel
theorem dX8_readExpression_174 : decode cX8_readExpression 174 = .ok (.isub, 1) := by decide +kernel
theorem dX8_readExpression_175 : decode cX8_readExpression 175 = .ok (.iastore, 1) := by decide +kernel
theorem dX8_readExpression_176 : decode cX8_readExpression 176 = .ok (.aload_n 0, 1) := by decide +kernel
theorem dX8_readExpression_177 : decode cX8_readExpression 177 = .ok (.dup, 1) := by decide +kernel
theorem dX8_readExpression_178 : decode cX8_readExpression 178 = .ok (.getfield 98, 3) := by decide +kernel
theorem dX8_readExpression_181 : decode cX8_readExpression 181 = .ok (.iconst 1, 1) := by decide +kernel
theorem dX8_readExpression_182 : decode cX8_readExpression 182 = .ok (.iadd, 1) := by decide +kernel
theorem dX8_readExpression_183 : decode cX8_readExpression 183 = .ok (.putfield 98, 3) := by decide +kernel
theorem dX8_readExpression_186 : decode cX8_readExpression 186 = .ok (.goto (-111), 3) := by decide +kernel
theorem dX8_readExpression_189 : decode cX8_readExpression 189 = .ok (.aload_n 0, 1) := by decide +kernel
theorem dX8_readExpression_190 : decode cX8_readExpression 190 = .ok (.iload_n 1, 1) := by decide +kernel
theorem dX8_readExpression_191 : decode cX8_readExpression 191 = .ok (.putfield 84, 3) := by decide +kernel
theorem dX8_readExpression_194 : decode cX8_readExpression 194 = .ok (.iconst 1, 1) := by decide +kernel
theorem dX8_readExpression_195 : decode cX8_readExpression 195 = .ok (.ireturn, 1) := by decide +kernel
theorem dX8_read_0 : decode cX8_read 0 = .ok (.aload_n 0, 1) := by decide +kernel
theorem dX8_read_1 : decode cX8_read 1 = .ok (.invokevirtual 77, 3) := by decide +kernel
theorem dX8_read_4 : decode cX8_read 4 = .ok (.aload_n 0, 1) := by decide +kernel
theorem dX8_read_5 : decode cX8_read 5 = .ok (.iconst 0, 1) := by decide +kernel
theorem dX8_read_6 : decode cX8_read 6 = .ok (.putfield 98, 3) := by decide +kernel
theorem dX8_read_9 : decode cX8_read 9 = .ok (.aload_n 0, 1) := by decide +kernel
theorem dX8_read_10 : decode cX8_read 10 = .ok (.getfield 98, 3) := by decide +kernel
theorem dX8_read_13 : decode cX8_read 13 = .ok (.aload_n 0, 1) := by decide +kernel
theorem dX8_read_14 : decode cX8_read 14 = .ok (.getfield 95, 3) := by decide +kernel
theorem dX8_read_17 : decode cX8_read 17 = .ok (.if_icmp .ge 69, 3) := by decide +kernel
theorem dX8_read_20 : decode cX8_read 20 = .ok (.aload_n 0, 1) := by decide +kernel
theorem dX8_read_21 : decode cX8_read 21 = .ok (.getfield 98, 3) := by decide +kernel
theorem dX8_read_24 : decode cX8_read 24 = .ok (.istore_n 1, 1) := by decide +kernel
theorem dX8_read_25 : decode cX8_read 25 = .ok (.aload_n 0, 1) := by decide +kernel
theorem dX8_read_26 : decode cX8_read 26 = .ok (.getfield 40, 3) := by decide +kernel
theorem dX8_read_29 : decode cX8_read 29 = .ok (.aload_n 0, 1) := by decide +kernel
theorem dX8_read_30 : decode cX8_read 30 = .ok (.getfield 98, 3) := by decide +kernel
theorem dX8_read_33 : decode cX8_read 33 = .ok (.iaload, 1) := by decide +kernel
theorem dX8_read_34 : decode cX8_read 34 = .ok (.istore_n 2, 1) := by decide +kernel
theorem dX8_read_35 : decode cX8_read 35 = .ok (.aload_n 0, 1) := by decide +kernel
theorem dX8_read_36 : decode cX8_read 36 = .ok (.dup, 1) := by decide +kernel
theorem dX8_read_37 : decode cX8_read 37 = .ok (.getfield 98, 3) := by decide +kernel
theorem dX8_read_40 : decode cX8_read 40 = .ok (.iconst 1, 1) := by decide +kernel
theorem dX8_read_41 : decode cX8_read 41 = .ok (.iadd, 1) := by decide +kernel
theorem dX8_read_42 : decode cX8_read 42 = .ok (.putfield 98, 3) := by decide +kernel
theorem dX8_read_45 : decode cX8_read 45 = .ok (.iload_n 2, 1) := by decide +kernel
theorem dX8_read_46 : decode cX8_read 46 = .ok (.bipush 111, 2) := by decide +kernel
theorem dX8_read_48 : decode cX8_read 48 = .ok (.if_icmp .ne 10, 3) := by decide +kernel
theorem dX8_read_51 : decode cX8_read 51 = .ok (.aload_n 0, 1) := by decide +kernel
theorem dX8_read_52 : decode cX8_read 52 = .ok (.invokevirtual 116, 3) := by decide +kernel
theorem dX8_read_55 : decode cX8_read 55 = .ok (.goto 21, 3) := by decide +kernel
theorem dX8_read_58 : decode cX8_read 58 = .ok (.iload_n 2, 1) := by decide +kernel
theorem dX8_read_59 : decode cX8_read 59 = .ok (.bipush 101, 2) := by decide +kernel
theorem dX8_read_61 : decode cX8_read 61 = .ok (.if_icmp .ne 14, 3) := by decide +kernel
theorem dX8_read_64 : decode cX8_read 64 = .ok (.aload_n 0, 1) := by decide +kernel
theorem dX8_read_65 : decode cX8_read 65 = .ok (.invokevirtual 119, 3) := by decide +kernel
theorem dX8_read_68 : decode cX8_read 68 = .ok (.ifCond .eq 7, 3) := by decide +kernel
theorem dX8_read_71 : decode cX8_read 71 = .ok (.iconst 1, 1) := by decide +kernel
theorem dX8_read_72 : decode cX8_read 72 = .ok (.goto 4, 3) := by decide +kernel
theorem dX8_read_75 : decode cX8_read 75 = .ok (.iconst 0, 1) := by decide +kernel
theorem dX8_read_76 : decode cX8_read 76 = .ok (.istore_n 3, 1) := by decide +kernel
theorem dX8_read_77 : decode cX8_read 77 = .ok (.iload_n 3, 1) := by decide +kernel
theorem dX8_read_78 : decode cX8_read 78 = .ok (.ifCond .ne 5, 3) := by decide +kernel
theorem dX8_read_81 : decode cX8_read 81 = .ok (.iload_n 1, 1) := by decide +kernel
theorem dX8_read_82 : decode cX8_read 82 = .ok (.ireturn, 1) := by decide +kernel
theorem dX8_read_83 : decode cX8_read 83 = .ok (.goto (-74), 3) := by decide +kernel
theorem dX8_read_86 : decode cX8_read 86 = .ok (.bipush (-4), 2) := by decide +kernel
theorem dX8_read_88 : decode cX8_read 88 = .ok (.ireturn, 1) := by decide +kernel
theorem dX8_syntaxError_0 : decode cX8_syntaxError 0 = .ok (.aload_n 0, 1) := by decide +kernel
theorem dX8_syntaxError_1 : decode cX8_syntaxError 1 = .ok (.invokevirtual 122, 3) := by decide +kernel
theorem dX8_syntaxError_4 : decode cX8_syntaxError 4 = .ok (.ireturn, 1) := by decide +kernel
theorem dX8_load_0 : decode cX8_load 0 = .ok (.aload_n 0, 1) := by decide +kernel
theorem dX8_load_1 : decode cX8_load 1 = .ok (.invokevirtual 122, 3) := by decide +kernel
theorem dX8_load_4 : decode cX8_load 4 = .ok (.bipush (-4), 2) := by decide +kernel
theorem dX8_load_6 : decode cX8_load 6 = .ok (.if_icmp .ne 12, 3) := by decide +kernel
theorem dX8_load_9 : decode cX8_load 9 = .ok (.aload_n 0, 1) := by decide +kernel
theorem dX8_load_10 : decode cX8_load 10 = .ok (.getfield 84, 3) := by decide +kernel
theorem dX8_load_13 : decode cX8_load 13 = .ok (.bipush (-4), 2) := by decide +kernel
theorem dX8_load_15 : decode cX8_load 15 = .ok (.if_icmp .ne 6, 3) := by decide +kernel
theorem dX8_load_18 : decode cX8_load 18 = .ok (.bipush (-2), 2) := by decide +kernel
theorem dX8_load_20 : decode cX8_load 20 = .ok (.ireturn, 1) := by decide +kernel
theorem dX8_load_21 : decode cX8_load 21 = .ok (.aload_n 0, 1) := by decide +kernel
theorem dX8_load_22 : decode cX8_load 22 = .ok (.invokevirtual 88, 3) := by decide +kernel
theorem dX8_load_25 : decode cX8_load 25 = .ok (.aload_n 0, 1) := by decide +kernel
theorem dX8_load_26 : decode cX8_load 26 = .ok (.getfield 126, 3) := by decide +kernel
theorem dX8_load_29 : decode cX8_load 29 = .ok (.ireturn, 1) := by decide +kernel
theorem dX8_install_0 : decode cX8_install 0 = .ok (.iconst 0, 1) := by decide +kernel
theorem dX8_install_1 : decode cX8_install 1 = .ok (.istore_n 1, 1) := by decide +kernel
theorem dX8_install_2 : decode cX8_install 2 = .ok (.iload_n 1, 1) := by decide +kernel
theorem dX8_install_3 : decode cX8_install 3 = .ok (.bipush 9, 2) := by decide +kernel
theorem dX8_install_5 : decode cX8_install 5 = .ok (.if_icmp .ge 33, 3) := by decide +kernel
theorem dX8_install_8 : decode cX8_install 8 = .ok (.aload_n 0, 1) := by decide +kernel
theorem dX8_install_9 : decode cX8_install 9 = .ok (.getfield 16, 3) := by decide +kernel
theorem dX8_install_12 : decode cX8_install 12 = .ok (.iload_n 1, 1) := by decide +kernel
theorem dX8_install_13 : decode cX8_install 13 = .ok (.aload_n 0, 1) := by decide +kernel
theorem dX8_install_14 : decode cX8_install 14 = .ok (.getfield 28, 3) := by decide +kernel
theorem dX8_install_17 : decode cX8_install 17 = .ok (.iload_n 1, 1) := by decide +kernel
theorem dX8_install_18 : decode cX8_install 18 = .ok (.iaload, 1) := by decide +kernel
theorem dX8_install_19 : decode cX8_install 19 = .ok (.iastore, 1) := by decide +kernel
theorem dX8_install_20 : decode cX8_install 20 = .ok (.aload_n 0, 1) := by decide +kernel
theorem dX8_install_21 : decode cX8_install 21 = .ok (.getfield 19, 3) := by decide +kernel
theorem dX8_install_24 : decode cX8_install 24 = .ok (.iload_n 1, 1) := by decide +kernel
theorem dX8_install_25 : decode cX8_install 25 = .ok (.aload_n 0, 1) := by decide +kernel
theorem dX8_install_26 : decode cX8_install 26 = .ok (.getfield 31, 3) := by decide +kernel
theorem dX8_install_29 : decode cX8_install 29 = .ok (.iload_n 1, 1) := by decide +kernel
theorem dX8_install_30 : decode cX8_install 30 = .ok (.iaload, 1) := by decide +kernel
theorem dX8_install_31 : decode cX8_install 31 = .ok (.iastore, 1) := by decide +kernel
theorem dX8_install_32 : decode cX8_install 32 = .ok (.iinc 1 1, 3) := by decide +kernel
theorem dX8_install_35 : decode cX8_install 35 = .ok (.goto (-33), 3) := by decide +kernel
theorem dX8_install_38 : decode cX8_install 38 = .ok (.aload_n 0, 1) := by decide +kernel
theorem dX8_install_39 : decode cX8_install 39 = .ok (.aload_n 0, 1) := by decide +kernel
theorem dX8_install_40 : decode cX8_install 40 = .ok (.getfield 84, 3) := by decide +kernel
theorem dX8_install_43 : decode cX8_install 43 = .ok (.putfield 126, 3) := by decide +kernel
theorem dX8_install_46 : decode cX8_install 46 = .ok (.iconst 0, 1) := by decide +kernel
theorem dX8_install_47 : decode cX8_install 47 = .ok (.istore_n 1, 1) := by decide +kernel
theorem dX8_install_48 : decode cX8_install 48 = .ok (.iload_n 1, 1) := by decide +kernel
theorem dX8_install_49 : decode cX8_install 49 = .ok (.aload_n 0, 1) := by decide +kernel
theorem dX8_install_50 : decode cX8_install 50 = .ok (.getfield 126, 3) := by decide +kernel
theorem dX8_install_53 : decode cX8_install 53 = .ok (.if_icmp .ge 21, 3) := by decide +kernel
theorem dX8_install_56 : decode cX8_install 56 = .ok (.aload_n 0, 1) := by decide +kernel
theorem dX8_install_57 : decode cX8_install 57 = .ok (.getfield 22, 3) := by decide +kernel
theorem dX8_install_60 : decode cX8_install 60 = .ok (.iload_n 1, 1) := by decide +kernel
theorem dX8_install_61 : decode cX8_install 61 = .ok (.aload_n 0, 1) := by decide +kernel
theorem dX8_install_62 : decode cX8_install 62 = .ok (.getfield 34, 3) := by decide +kernel
theorem dX8_install_65 : decode cX8_install 65 = .ok (.iload_n 1, 1) := by decide +kernel
theorem dX8_install_66 : decode cX8_install 66 = .ok (.iaload, 1) := by decide +kernel
theorem dX8_install_67 : decode cX8_install 67 = .ok (.iastore, 1) := by decide +kernel
theorem dX8_install_68 : decode cX8_install 68 = .ok (.iinc 1 1, 3) := by decide +kernel
theorem dX8_install_71 : decode cX8_install 71 = .ok (.goto (-23), 3) := by decide +kernel
theorem dX8_install_74 : decode cX8_install 74 = .ok (.iconst 0, 1) := by decide +kernel
theorem dX8_install_75 : decode cX8_install 75 = .ok (.istore_n 1, 1) := by decide +kernel
theorem dX8_install_76 : decode cX8_install 76 = .ok (.iload_n 1, 1) := by decide +kernel
theorem dX8_install_77 : decode cX8_install 77 = .ok (.aload_n 0, 1) := by decide +kernel
theorem dX8_install_78 : decode cX8_install 78 = .ok (.getfield 126, 3) := by decide +kernel
theorem dX8_install_81 : decode cX8_install 81 = .ok (.if_icmp .gt 21, 3) := by decide +kernel
theorem dX8_install_84 : decode cX8_install 84 = .ok (.aload_n 0, 1) := by decide +kernel
theorem dX8_install_85 : decode cX8_install 85 = .ok (.getfield 25, 3) := by decide +kernel
theorem dX8_install_88 : decode cX8_install 88 = .ok (.iload_n 1, 1) := by decide +kernel
theorem dX8_install_89 : decode cX8_install 89 = .ok (.aload_n 0, 1) := by decide +kernel
theorem dX8_install_90 : decode cX8_install 90 = .ok (.getfield 37, 3) := by decide +kernel
theorem dX8_install_93 : decode cX8_install 93 = .ok (.iload_n 1, 1) := by decide +kernel
theorem dX8_install_94 : decode cX8_install 94 = .ok (.iaload, 1) := by decide +kernel
theorem dX8_install_95 : decode cX8_install 95 = .ok (.iastore, 1) := by decide +kernel
theorem dX8_install_96 : decode cX8_install 96 = .ok (.iinc 1 1, 3) := by decide +kernel
theorem dX8_install_99 : decode cX8_install 99 = .ok (.goto (-23), 3) := by decide +kernel
theorem dX8_install_102 : decode cX8_install 102 = .ok (.aload_n 0, 1) := by decide +kernel
theorem dX8_install_103 : decode cX8_install 103 = .ok (.getfield 7, 3) := by decide +kernel
theorem dX8_install_106 : decode cX8_install 106 = .ok (.iconst 0, 1) := by decide +kernel
theorem dX8_install_107 : decode cX8_install 107 = .ok (.iconst 0, 1) := by decide +kernel
theorem dX8_install_108 : decode cX8_install 108 = .ok (.iastore, 1) := by decide +kernel
theorem dX8_install_109 : decode cX8_install 109 = .ok (.iconst 0, 1) := by decide +kernel
theorem dX8_install_110 : decode cX8_install 110 = .ok (.istore_n 1, 1) := by decide +kernel
theorem dX8_install_111 : decode cX8_install 111 = .ok (.iload_n 1, 1) := by decide +kernel
theorem dX8_install_112 : decode cX8_install 112 = .ok (.bipush 26, 2) := by decide +kernel
theorem dX8_install_114 : decode cX8_install 114 = .ok (.if_icmp .ge 21, 3) := by decide +kernel
theorem dX8_install_117 : decode cX8_install 117 = .ok (.aload_n 0, 1) := by decide +kernel
theorem dX8_install_118 : decode cX8_install 118 = .ok (.getfield 7, 3) := by decide +kernel
theorem dX8_install_121 : decode cX8_install 121 = .ok (.bipush 25, 2) := by decide +kernel
theorem dX8_install_123 : decode cX8_install 123 = .ok (.iload_n 1, 1) := by decide +kernel
theorem dX8_install_124 : decode cX8_install 124 = .ok (.iadd, 1) := by decide +kernel
theorem dX8_install_125 : decode cX8_install 125 = .ok (.iload_n 1, 1) := by decide +kernel
theorem dX8_install_126 : decode cX8_install 126 = .ok (.iconst 1, 1) := by decide +kernel
theorem dX8_install_127 : decode cX8_install 127 = .ok (.iadd, 1) := by decide +kernel
theorem dX8_install_128 : decode cX8_install 128 = .ok (.iastore, 1) := by decide +kernel
theorem dX8_install_129 : decode cX8_install 129 = .ok (.iinc 1 1, 3) := by decide +kernel
theorem dX8_install_132 : decode cX8_install 132 = .ok (.goto (-21), 3) := by decide +kernel
theorem dX8_install_135 : decode cX8_install 135 = .ok (.aload_n 0, 1) := by decide +kernel
theorem dX8_install_136 : decode cX8_install 136 = .ok (.iconst 0, 1) := by decide +kernel
theorem dX8_install_137 : decode cX8_install 137 = .ok (.putfield 129, 3) := by decide +kernel
theorem dX8_install_140 : decode cX8_install 140 = .ok (.return_, 1) := by decide +kernel
theorem dX8_push_0 : decode cX8_push 0 = .ok (.aload_n 0, 1) := by decide +kernel
theorem dX8_push_1 : decode cX8_push 1 = .ok (.getfield 129, 3) := by decide +kernel
theorem dX8_push_4 : decode cX8_push 4 = .ok (.iconst 4, 1) := by decide +kernel
theorem dX8_push_5 : decode cX8_push 5 = .ok (.if_icmp .ne 43, 3) := by decide +kernel
theorem dX8_push_8 : decode cX8_push 8 = .ok (.iconst 0, 1) := by decide +kernel
theorem dX8_push_9 : decode cX8_push 9 = .ok (.istore_n 1, 1) := by decide +kernel
theorem dX8_push_10 : decode cX8_push 10 = .ok (.iload_n 1, 1) := by decide +kernel
theorem dX8_push_11 : decode cX8_push 11 = .ok (.sipush 153, 3) := by decide +kernel
theorem dX8_push_14 : decode cX8_push 14 = .ok (.if_icmp .ge 24, 3) := by decide +kernel
theorem dX8_push_17 : decode cX8_push 17 = .ok (.aload_n 0, 1) := by decide +kernel
theorem dX8_push_18 : decode cX8_push 18 = .ok (.getfield 13, 3) := by decide +kernel
theorem dX8_push_21 : decode cX8_push 21 = .ok (.iload_n 1, 1) := by decide +kernel
theorem dX8_push_22 : decode cX8_push 22 = .ok (.aload_n 0, 1) := by decide +kernel
theorem dX8_push_23 : decode cX8_push 23 = .ok (.getfield 13, 3) := by decide +kernel
theorem dX8_push_26 : decode cX8_push 26 = .ok (.iload_n 1, 1) := by decide +kernel
theorem dX8_push_27 : decode cX8_push 27 = .ok (.bipush 51, 2) := by decide +kernel
theorem dX8_push_29 : decode cX8_push 29 = .ok (.iadd, 1) := by decide +kernel
theorem dX8_push_30 : decode cX8_push 30 = .ok (.iaload, 1) := by decide +kernel
theorem dX8_push_31 : decode cX8_push 31 = .ok (.iastore, 1) := by decide +kernel
theorem dX8_push_32 : decode cX8_push 32 = .ok (.iinc 1 1, 3) := by decide +kernel
theorem dX8_push_35 : decode cX8_push 35 = .ok (.goto (-25), 3) := by decide +kernel
theorem dX8_push_38 : decode cX8_push 38 = .ok (.aload_n 0, 1) := by decide +kernel
theorem dX8_push_39 : decode cX8_push 39 = .ok (.dup, 1) := by decide +kernel
theorem dX8_push_40 : decode cX8_push 40 = .ok (.getfield 129, 3) := by decide +kernel
theorem dX8_push_43 : decode cX8_push 43 = .ok (.iconst 1, 1) := by decide +kernel
theorem dX8_push_44 : decode cX8_push 44 = .ok (.isub, 1) := by decide +kernel
theorem dX8_push_45 : decode cX8_push 45 = .ok (.putfield 129, 3) := by decide +kernel
theorem dX8_push_48 : decode cX8_push 48 = .ok (.iconst 0, 1) := by decide +kernel
theorem dX8_push_49 : decode cX8_push 49 = .ok (.istore_n 1, 1) := by decide +kernel
theorem dX8_push_50 : decode cX8_push 50 = .ok (.iload_n 1, 1) := by decide +kernel
theorem dX8_push_51 : decode cX8_push 51 = .ok (.bipush 51, 2) := by decide +kernel
theorem dX8_push_53 : decode cX8_push 53 = .ok (.if_icmp .ge 29, 3) := by decide +kernel
theorem dX8_push_56 : decode cX8_push 56 = .ok (.aload_n 0, 1) := by decide +kernel
theorem dX8_push_57 : decode cX8_push 57 = .ok (.getfield 13, 3) := by decide +kernel
theorem dX8_push_60 : decode cX8_push 60 = .ok (.bipush 51, 2) := by decide +kernel
theorem dX8_push_62 : decode cX8_push 62 = .ok (.aload_n 0, 1) := by decide +kernel
theorem dX8_push_63 : decode cX8_push 63 = .ok (.getfield 129, 3) := by decide +kernel
theorem dX8_push_66 : decode cX8_push 66 = .ok (.imul, 1) := by decide +kernel
theorem dX8_push_67 : decode cX8_push 67 = .ok (.iload_n 1, 1) := by decide +kernel
theorem dX8_push_68 : decode cX8_push 68 = .ok (.iadd, 1) := by decide +kernel
theorem dX8_push_69 : decode cX8_push 69 = .ok (.aload_n 0, 1) := by decide +kernel
theorem dX8_push_70 : decode cX8_push 70 = .ok (.getfield 7, 3) := by decide +kernel
theorem dX8_push_73 : decode cX8_push 73 = .ok (.iload_n 1, 1) := by decide +kernel
theorem dX8_push_74 : decode cX8_push 74 = .ok (.iaload, 1) := by decide +kernel
theorem dX8_push_75 : decode cX8_push 75 = .ok (.iastore, 1) := by decide +kernel
theorem dX8_push_76 : decode cX8_push 76 = .ok (.iinc 1 1, 3) := by decide +kernel
theorem dX8_push_79 : decode cX8_push 79 = .ok (.goto (-29), 3) := by decide +kernel
theorem dX8_push_82 : decode cX8_push 82 = .ok (.aload_n 0, 1) := by decide +kernel
theorem dX8_push_83 : decode cX8_push 83 = .ok (.dup, 1) := by decide +kernel
theorem dX8_push_84 : decode cX8_push 84 = .ok (.getfield 129, 3) := by decide +kernel
theorem dX8_push_87 : decode cX8_push 87 = .ok (.iconst 1, 1) := by decide +kernel
theorem dX8_push_88 : decode cX8_push 88 = .ok (.iadd, 1) := by decide +kernel
theorem dX8_push_89 : decode cX8_push 89 = .ok (.putfield 129, 3) := by decide +kernel
theorem dX8_push_92 : decode cX8_push 92 = .ok (.return_, 1) := by decide +kernel
theorem dX8_undo_0 : decode cX8_undo 0 = .ok (.aload_n 0, 1) := by decide +kernel
theorem dX8_undo_1 : decode cX8_undo 1 = .ok (.getfield 129, 3) := by decide +kernel
theorem dX8_undo_4 : decode cX8_undo 4 = .ok (.ifCond .ne 6, 3) := by decide +kernel
theorem dX8_undo_7 : decode cX8_undo 7 = .ok (.bipush (-2), 2) := by decide +kernel
theorem dX8_undo_9 : decode cX8_undo 9 = .ok (.ireturn, 1) := by decide +kernel
theorem dX8_undo_10 : decode cX8_undo 10 = .ok (.aload_n 0, 1) := by decide +kernel
theorem dX8_undo_11 : decode cX8_undo 11 = .ok (.dup, 1) := by decide +kernel
theorem dX8_undo_12 : decode cX8_undo 12 = .ok (.getfield 129, 3) := by decide +kernel
theorem dX8_undo_15 : decode cX8_undo 15 = .ok (.iconst 1, 1) := by decide +kernel
theorem dX8_undo_16 : decode cX8_undo 16 = .ok (.isub, 1) := by decide +kernel
theorem dX8_undo_17 : decode cX8_undo 17 = .ok (.putfield 129, 3) := by decide +kernel
theorem dX8_undo_20 : decode cX8_undo 20 = .ok (.iconst 0, 1) := by decide +kernel
theorem dX8_undo_21 : decode cX8_undo 21 = .ok (.istore_n 1, 1) := by decide +kernel
theorem dX8_undo_22 : decode cX8_undo 22 = .ok (.iload_n 1, 1) := by decide +kernel
theorem dX8_undo_23 : decode cX8_undo 23 = .ok (.bipush 51, 2) := by decide +kernel
theorem dX8_undo_25 : decode cX8_undo 25 = .ok (.if_icmp .ge 29, 3) := by decide +kernel
theorem dX8_undo_28 : decode cX8_undo 28 = .ok (.aload_n 0, 1) := by decide +kernel
theorem dX8_undo_29 : decode cX8_undo 29 = .ok (.getfield 7, 3) := by decide +kernel
theorem dX8_undo_32 : decode cX8_undo 32 = .ok (.iload_n 1, 1) := by decide +kernel
theorem dX8_undo_33 : decode cX8_undo 33 = .ok (.aload_n 0, 1) := by decide +kernel
theorem dX8_undo_34 : decode cX8_undo 34 = .ok (.getfield 13, 3) := by decide +kernel
theorem dX8_undo_37 : decode cX8_undo 37 = .ok (.bipush 51, 2) := by decide +kernel
theorem dX8_undo_39 : decode cX8_undo 39 = .ok (.aload_n 0, 1) := by decide +kernel
theorem dX8_undo_40 : decode cX8_undo 40 = .ok (.getfield 129, 3) := by decide +kernel
theorem dX8_undo_43 : decode cX8_undo 43 = .ok (.imul, 1) := by decide +kernel
theorem dX8_undo_44 : decode cX8_undo 44 = .ok (.iload_n 1, 1) := by decide +kernel
theorem dX8_undo_45 : decode cX8_undo 45 = .ok (.iadd, 1) := by decide +kernel
theorem dX8_undo_46 : decode cX8_undo 46 = .ok (.iaload, 1) := by decide +kernel
theorem dX8_undo_47 : decode cX8_undo 47 = .ok (.iastore, 1) := by decide +kernel
theorem dX8_undo_48 : decode cX8_undo 48 = .ok (.iinc 1 1, 3) := by decide +kernel
theorem dX8_undo_51 : decode cX8_undo 51 = .ok (.goto (-29), 3) := by decide +kernel
theorem dX8_undo_54 : decode cX8_undo 54 = .ok (.aload_n 0, 1) := by decide +kernel
theorem dX8_undo_55 : decode cX8_undo 55 = .ok (.getfield 129, 3) := by decide +kernel
theorem dX8_undo_58 : decode cX8_undo 58 = .ok (.ireturn, 1) := by decide +kernel
theorem dX8_isFilter_0 : decode cX8_isFilter 0 = .ok (.iload_n 1, 1) := by decide +kernel
theorem dX8_isFilter_1 : decode cX8_isFilter 1 = .ok (.iconst 0, 1) := by decide +kernel
theorem dX8_isFilter_2 : decode cX8_isFilter 2 = .ok (.aload_n 0, 1) := by decide +kernel
theorem dX8_isFilter_3 : decode cX8_isFilter 3 = .ok (.getfield 7, 3) := by decide +kernel
theorem dX8_isFilter_6 : decode cX8_isFilter 6 = .ok (.iconst 0, 1) := by decide +kernel
theorem dX8_isFilter_7 : decode cX8_isFilter 7 = .ok (.iaload, 1) := by decide +kernel
theorem dX8_isFilter_8 : decode cX8_isFilter 8 = .ok (.iconst 1, 1) := by decide +kernel
theorem dX8_isFilter_9 : decode cX8_isFilter 9 = .ok (.isub, 1) := by decide +kernel
theorem dX8_isFilter_10 : decode cX8_isFilter 10 = .ok (.invokestatic 91, 3) := by decide +kernel
theorem dX8_isFilter_13 : decode cX8_isFilter 13 = .ok (.ireturn, 1) := by decide +kernel
theorem dX8_isSymbol_0 : decode cX8_isSymbol 0 = .ok (.iload_n 0, 1) := by decide +kernel
theorem dX8_isSymbol_1 : decode cX8_isSymbol 1 = .ok (.iconst 0, 1) := by decide +kernel
theorem dX8_isSymbol_2 : decode cX8_isSymbol 2 = .ok (.bipush 8, 2) := by decide +kernel
theorem dX8_isSymbol_4 : decode cX8_isSymbol 4 = .ok (.invokestatic 91, 3) := by decide +kernel
theorem dX8_isSymbol_7 : decode cX8_isSymbol 7 = .ok (.ireturn, 1) := by decide +kernel
theorem dX8_add_0 : decode cX8_add 0 = .ok (.iload_n 1, 1) := by decide +kernel
theorem dX8_add_1 : decode cX8_add 1 = .ok (.iconst 0, 1) := by decide +kernel
theorem dX8_add_2 : decode cX8_add 2 = .ok (.aload_n 0, 1) := by decide +kernel
theorem dX8_add_3 : decode cX8_add 3 = .ok (.getfield 7, 3) := by decide +kernel
theorem dX8_add_6 : decode cX8_add 6 = .ok (.iconst 0, 1) := by decide +kernel
theorem dX8_add_7 : decode cX8_add 7 = .ok (.iaload, 1) := by decide +kernel
theorem dX8_add_8 : decode cX8_add 8 = .ok (.invokestatic 91, 3) := by decide +kernel
theorem dX8_add_11 : decode cX8_add 11 = .ok (.ifCond .eq 18, 3) := by decide +kernel
theorem dX8_add_14 : decode cX8_add 14 = .ok (.iload_n 3, 1) := by decide +kernel
theorem dX8_add_15 : decode cX8_add 15 = .ok (.invokestatic 132, 3) := by decide +kernel
theorem dX8_add_18 : decode cX8_add 18 = .ok (.ifCond .eq 11, 3) := by decide +kernel
theorem dX8_add_21 : decode cX8_add 21 = .ok (.iload 4, 2) := by decide +kernel
theorem dX8_add_23 : decode cX8_add 23 = .ok (.invokestatic 132, 3) := by decide +kernel
theorem dX8_add_26 : decode cX8_add 26 = .ok (.ifCond .ne 5, 3) := by decide +kernel
theorem dX8_add_29 : decode cX8_add 29 = .ok (.iconst (-1), 1) := by decide +kernel
theorem dX8_add_30 : decode cX8_add 30 = .ok (.ireturn, 1) := by decide +kernel
theorem dX8_add_31 : decode cX8_add 31 = .ok (.aload_n 0, 1) := by decide +kernel
theorem dX8_add_32 : decode cX8_add 32 = .ok (.getfield 7, 3) := by decide +kernel
theorem dX8_add_35 : decode cX8_add 35 = .ok (.iconst 0, 1) := by decide +kernel
theorem dX8_add_36 : decode cX8_add 36 = .ok (.iaload, 1) := by decide +kernel
theorem dX8_add_37 : decode cX8_add 37 = .ok (.bipush 6, 2) := by decide +kernel
theorem dX8_add_39 : decode cX8_add 39 = .ok (.if_icmp .ne 6, 3) := by decide +kernel
theorem dX8_add_42 : decode cX8_add 42 = .ok (.bipush (-3), 2) := by decide +kernel
theorem dX8_add_44 : decode cX8_add 44 = .ok (.ireturn, 1) := by decide +kernel
theorem dX8_add_45 : decode cX8_add 45 = .ok (.aload_n 0, 1) := by decide +kernel
theorem dX8_add_46 : decode cX8_add 46 = .ok (.invokevirtual 135, 3) := by decide +kernel
theorem dX8_add_49 : decode cX8_add 49 = .ok (.iconst 4, 1) := by decide +kernel
theorem dX8_add_50 : decode cX8_add 50 = .ok (.aload_n 0, 1) := by decide +kernel
theorem dX8_add_51 : decode cX8_add 51 = .ok (.getfield 7, 3) := by decide +kernel
theorem dX8_add_54 : decode cX8_add 54 = .ok (.iconst 0, 1) := by decide +kernel
theorem dX8_add_55 : decode cX8_add 55 = .ok (.iaload, 1) := by decide +kernel
theorem dX8_add_56 : decode cX8_add 56 = .ok (.imul, 1) := by decide +kernel
theorem dX8_add_57 : decode cX8_add 57 = .ok (.iconst 1, 1) := by decide +kernel
theorem dX8_add_58 : decode cX8_add 58 = .ok (.isub, 1) := by decide +kernel
theorem dX8_add_59 : decode cX8_add 59 = .ok (.istore 6, 2) := by decide +kernel
theorem dX8_add_61 : decode cX8_add 61 = .ok (.iload 6, 2) := by decide +kernel
theorem dX8_add_63 : decode cX8_add 63 = .ok (.iconst 4, 1) := by decide +kernel
theorem dX8_add_64 : decode cX8_add 64 = .ok (.iload_n 1, 1) := by decide +kernel
theorem dX8_add_65 : decode cX8_add 65 = .ok (.imul, 1) := by decide +kernel
theorem dX8_add_66 : decode cX8_add 66 = .ok (.if_icmp .lt 29, 3) := by decide +kernel
theorem dX8_add_69 : decode cX8_add 69 = .ok (.aload_n 0, 1) := by decide +kernel
theorem dX8_add_70 : decode cX8_add 70 = .ok (.getfield 7, 3) := by decide +kernel
theorem dX8_add_73 : decode cX8_add 73 = .ok (.iconst 1, 1) := by decide +kernel
theorem dX8_add_74 : decode cX8_add 74 = .ok (.iload 6, 2) := by decide +kernel
theorem dX8_add_76 : decode cX8_add 76 = .ok (.iadd, 1) := by decide +kernel
theorem dX8_add_77 : decode cX8_add 77 = .ok (.iconst 4, 1) := by decide +kernel
theorem dX8_add_78 : decode cX8_add 78 = .ok (.iadd, 1) := by decide +kernel
theorem dX8_add_79 : decode cX8_add 79 = .ok (.aload_n 0, 1) := by decide +kernel
theorem dX8_add_80 : decode cX8_add 80 = .ok (.getfield 7, 3) := by decide +kernel
theorem dX8_add_83 : decode cX8_add 83 = .ok (.iconst 1, 1) := by decide +kernel
theorem dX8_add_84 : decode cX8_add 84 = .ok (.iload 6, 2) := by decide +kernel
theorem dX8_add_86 : decode cX8_add 86 = .ok (.iadd, 1) := by decide +kernel
theorem dX8_add_87 : decode cX8_add 87 = .ok (.iaload, 1) := by decide +kernel
theorem dX8_add_88 : decode cX8_add 88 = .ok (.iastore, 1) := by decide +kernel
theorem dX8_add_89 : decode cX8_add 89 = .ok (.iinc 6 (-1), 3) := by decide +kernel
theorem dX8_add_92 : decode cX8_add 92 = .ok (.goto (-31), 3) := by decide +kernel
theorem dX8_add_95 : decode cX8_add 95 = .ok (.iconst 1, 1) := by decide +kernel
theorem dX8_add_96 : decode cX8_add 96 = .ok (.iconst 4, 1) := by decide +kernel
theorem dX8_add_97 : decode cX8_add 97 = .ok (.iload_n 1, 1) := by decide +kernel
theorem dX8_add_98 : decode cX8_add 98 = .ok (.imul, 1) := by decide +kernel
theorem dX8_add_99 : decode cX8_add 99 = .ok (.iadd, 1) := by decide +kernel
theorem dX8_add_100 : decode cX8_add 100 = .ok (.istore 6, 2) := by decide +kernel
theorem dX8_add_102 : decode cX8_add 102 = .ok (.aload_n 0, 1) := by decide +kernel
theorem dX8_add_103 : decode cX8_add 103 = .ok (.getfield 7, 3) := by decide +kernel
theorem dX8_add_106 : decode cX8_add 106 = .ok (.iload 6, 2) := by decide +kernel
theorem dX8_add_108 : decode cX8_add 108 = .ok (.iload_n 2, 1) := by decide +kernel
theorem dX8_add_109 : decode cX8_add 109 = .ok (.iastore, 1) := by decide +kernel
theorem dX8_add_110 : decode cX8_add 110 = .ok (.aload_n 0, 1) := by decide +kernel
theorem dX8_add_111 : decode cX8_add 111 = .ok (.getfield 7, 3) := by decide +kernel
theorem dX8_add_114 : decode cX8_add 114 = .ok (.iload 6, 2) := by decide +kernel
theorem dX8_add_116 : decode cX8_add 116 = .ok (.iconst 1, 1) := by decide +kernel
theorem dX8_add_117 : decode cX8_add 117 = .ok (.iadd, 1) := by decide +kernel
theorem dX8_add_118 : decode cX8_add 118 = .ok (.iload_n 3, 1) := by decide +kernel
theorem dX8_add_119 : decode cX8_add 119 = .ok (.iastore, 1) := by decide +kernel
theorem dX8_add_120 : decode cX8_add 120 = .ok (.aload_n 0, 1) := by decide +kernel
theorem dX8_add_121 : decode cX8_add 121 = .ok (.getfield 7, 3) := by decide +kernel
theorem dX8_add_124 : decode cX8_add 124 = .ok (.iload 6, 2) := by decide +kernel
theorem dX8_add_126 : decode cX8_add 126 = .ok (.iconst 2, 1) := by decide +kernel
theorem dX8_add_127 : decode cX8_add 127 = .ok (.iadd, 1) := by decide +kernel
theorem dX8_add_128 : decode cX8_add 128 = .ok (.iload 4, 2) := by decide +kernel
theorem dX8_add_130 : decode cX8_add 130 = .ok (.iastore, 1) := by decide +kernel
theorem dX8_add_131 : decode cX8_add 131 = .ok (.aload_n 0, 1) := by decide +kernel
theorem dX8_add_132 : decode cX8_add 132 = .ok (.getfield 7, 3) := by decide +kernel
theorem dX8_add_135 : decode cX8_add 135 = .ok (.iload 6, 2) := by decide +kernel
theorem dX8_add_137 : decode cX8_add 137 = .ok (.iconst 3, 1) := by decide +kernel
theorem dX8_add_138 : decode cX8_add 138 = .ok (.iadd, 1) := by decide +kernel
theorem dX8_add_139 : decode cX8_add 139 = .ok (.iload 5, 2) := by decide +kernel
theorem dX8_add_141 : decode cX8_add 141 = .ok (.iastore, 1) := by decide +kernel
theorem dX8_add_142 : decode cX8_add 142 = .ok (.aload_n 0, 1) := by decide +kernel
theorem dX8_add_143 : decode cX8_add 143 = .ok (.getfield 7, 3) := by decide +kernel
theorem dX8_add_146 : decode cX8_add 146 = .ok (.iconst 0, 1) := by decide +kernel
theorem dX8_add_147 : decode cX8_add 147 = .ok (.dup2, 1) := by decide +kernel
theorem dX8_add_148 : decode cX8_add 148 = .ok (.iaload, 1) := by decide +kernel
theorem dX8_add_149 : decode cX8_add 149 = .ok (.iconst 1, 1) := by decide +kernel
theorem dX8_add_150 : decode cX8_add 150 = .ok (.iadd, 1) := by decide +kernel
theorem dX8_add_151 : decode cX8_add 151 = .ok (.iastore, 1) := by decide +kernel
theorem dX8_add_152 : decode cX8_add 152 = .ok (.aload_n 0, 1) := by decide +kernel
theorem dX8_add_153 : decode cX8_add 153 = .ok (.getfield 7, 3) := by decide +kernel
theorem dX8_add_156 : decode cX8_add 156 = .ok (.iconst 0, 1) := by decide +kernel
theorem dX8_add_157 : decode cX8_add 157 = .ok (.iaload, 1) := by decide +kernel
theorem dX8_add_158 : decode cX8_add 158 = .ok (.ireturn, 1) := by decide +kernel
theorem dX8_addPriorityFilter_0 : decode cX8_addPriorityFilter 0 = .ok (.aload_n 0, 1) := by decide +kernel
theorem dX8_addPriorityFilter_1 : decode cX8_addPriorityFilter 1 = .ok (.iload_n 1, 1) := by decide +kernel
theorem dX8_addPriorityFilter_2 : decode cX8_addPriorityFilter 2 = .ok (.iconst 0, 1) := by decide +kernel
theorem dX8_addPriorityFilter_3 : decode cX8_addPriorityFilter 3 = .ok (.iconst 0, 1) := by decide +kernel
theorem dX8_addPriorityFilter_4 : decode cX8_addPriorityFilter 4 = .ok (.iconst 0, 1) := by decide +kernel
theorem dX8_addPriorityFilter_5 : decode cX8_addPriorityFilter 5 = .ok (.iconst 0, 1) := by decide +kernel
theorem dX8_addPriorityFilter_6 : decode cX8_addPriorityFilter 6 = .ok (.invokevirtual 138, 3) := by decide +kernel
theorem dX8_addPriorityFilter_9 : decode cX8_addPriorityFilter 9 = .ok (.ireturn, 1) := by decide +kernel
theorem dX8_addAssociativityFilter_0 : decode cX8_addAssociativityFilter 0 = .ok (.aload_n 0, 1) := by decide +kernel
theorem dX8_addAssociativityFilter_1 : decode cX8_addAssociativityFilter 1 = .ok (.iload_n 1, 1) := by decide +kernel
theorem dX8_addAssociativityFilter_2 : decode cX8_addAssociativityFilter 2 = .ok (.iconst 1, 1) := by decide +kernel
theorem dX8_addAssociativityFilter_3 : decode cX8_addAssociativityFilter 3 = .ok (.iconst 0, 1) := by decide +kernel
theorem dX8_addAssociativityFilter_4 : decode cX8_addAssociativityFilter 4 = .ok (.iconst 0, 1) := by decide +kernel
theorem dX8_addAssociativityFilter_5 : decode cX8_addAssociativityFilter 5 = .ok (.iconst 0, 1) := by decide +kernel
theorem dX8_addAssociativityFilter_6 : decode cX8_addAssociativityFilter 6 = .ok (.invokevirtual 138, 3) := by decide +kernel
theorem dX8_addAssociativityFilter_9 : decode cX8_addAssociativityFilter 9 = .ok (.ireturn, 1) := by decide +kernel
theorem dX8_addRejectFilter_0 : decode cX8_addRejectFilter 0 = .ok (.aload_n 0, 1) := by decide +kernel
theorem dX8_addRejectFilter_1 : decode cX8_addRejectFilter 1 = .ok (.iload_n 1, 1) := by decide +kernel
theorem dX8_addRejectFilter_2 : decode cX8_addRejectFilter 2 = .ok (.iconst 2, 1) := by decide +kernel
theorem dX8_addRejectFilter_3 : decode cX8_addRejectFilter 3 = .ok (.iload_n 2, 1) := by decide +kernel
theorem dX8_addRejectFilter_4 : decode cX8_addRejectFilter 4 = .ok (.iload_n 3, 1) := by decide +kernel
theorem dX8_addRejectFilter_5 : decode cX8_addRejectFilter 5 = .ok (.iload 4, 2) := by decide +kernel
theorem dX8_addRejectFilter_7 : decode cX8_addRejectFilter 7 = .ok (.ifCond .eq 7, 3) := by decide +kernel
theorem dX8_addRejectFilter_10 : decode cX8_addRejectFilter 10 = .ok (.iconst 1, 1) := by decide +kernel
theorem dX8_addRejectFilter_11 : decode cX8_addRejectFilter 11 = .ok (.goto 4, 3) := by decide +kernel
theorem dX8_addRejectFilter_14 : decode cX8_addRejectFilter 14 = .ok (.iconst 0, 1) := by decide +kernel
theorem dX8_addRejectFilter_15 : decode cX8_addRejectFilter 15 = .ok (.invokevirtual 138, 3) := by decide +kernel
theorem dX8_addRejectFilter_18 : decode cX8_addRejectFilter 18 = .ok (.ireturn, 1) := by decide +kernel
theorem dX8_addPreferFilter_0 : decode cX8_addPreferFilter 0 = .ok (.aload_n 0, 1) := by decide +kernel
theorem dX8_addPreferFilter_1 : decode cX8_addPreferFilter 1 = .ok (.iload_n 1, 1) := by decide +kernel
theorem dX8_addPreferFilter_2 : decode cX8_addPreferFilter 2 = .ok (.iconst 3, 1) := by decide +kernel
theorem dX8_addPreferFilter_3 : decode cX8_addPreferFilter 3 = .ok (.iload_n 2, 1) := by decide +kernel
theorem dX8_addPreferFilter_4 : decode cX8_addPreferFilter 4 = .ok (.iconst 0, 1) := by decide +kernel
theorem dX8_addPreferFilter_5 : decode cX8_addPreferFilter 5 = .ok (.iconst 0, 1) := by decide +kernel
theorem dX8_addPreferFilter_6 : decode cX8_addPreferFilter 6 = .ok (.invokevirtual 138, 3) := by decide +kernel
theorem dX8_addPreferFilter_9 : decode cX8_addPreferFilter 9 = .ok (.ireturn, 1) := by decide +kernel
theorem dX8_addAvoidFilter_0 : decode cX8_addAvoidFilter 0 = .ok (.aload_n 0, 1) := by decide +kernel
theorem dX8_addAvoidFilter_1 : decode cX8_addAvoidFilter 1 = .ok (.iload_n 1, 1) := by decide +kernel
theorem dX8_addAvoidFilter_2 : decode cX8_addAvoidFilter 2 = .ok (.iconst 4, 1) := by decide +kernel
theorem dX8_addAvoidFilter_3 : decode cX8_addAvoidFilter 3 = .ok (.iload_n 2, 1) := by decide +kernel
theorem dX8_addAvoidFilter_4 : decode cX8_addAvoidFilter 4 = .ok (.iconst 0, 1) := by decide +kernel
theorem dX8_addAvoidFilter_5 : decode cX8_addAvoidFilter 5 = .ok (.iconst 0, 1) := by decide +kernel
theorem dX8_addAvoidFilter_6 : decode cX8_addAvoidFilter 6 = .ok (.invokevirtual 138, 3) := by decide +kernel
theorem dX8_addAvoidFilter_9 : decode cX8_addAvoidFilter 9 = .ok (.ireturn, 1) := by decide +kernel
theorem dX8_removeFilter_0 : decode cX8_removeFilter 0 = .ok (.aload_n 0, 1) := by decide +kernel
theorem dX8_removeFilter_1 : decode cX8_removeFilter 1 = .ok (.iload_n 1, 1) := by decide +kernel
theorem dX8_removeFilter_2 : decode cX8_removeFilter 2 = .ok (.invokevirtual 142, 3) := by decide +kernel
theorem dX8_removeFilter_5 : decode cX8_removeFilter 5 = .ok (.ifCond .ne 5, 3) := by decide +kernel
theorem dX8_removeFilter_8 : decode cX8_removeFilter 8 = .ok (.iconst (-1), 1) := by decide +kernel
theorem dX8_removeFilter_9 : decode cX8_removeFilter 9 = .ok (.ireturn, 1) := by decide +kernel
theorem dX8_removeFilter_10 : decode cX8_removeFilter 10 = .ok (.aload_n 0, 1) := by decide +kernel
theorem dX8_removeFilter_11 : decode cX8_removeFilter 11 = .ok (.invokevirtual 135, 3) := by decide +kernel
theorem dX8_removeFilter_14 : decode cX8_removeFilter 14 = .ok (.aload_n 0, 1) := by decide +kernel
theorem dX8_removeFilter_15 : decode cX8_removeFilter 15 = .ok (.getfield 7, 3) := by decide +kernel
theorem dX8_removeFilter_18 : decode cX8_removeFilter 18 = .ok (.iconst 0, 1) := by decide +kernel
theorem dX8_removeFilter_19 : decode cX8_removeFilter 19 = .ok (.dup2, 1) := by decide +kernel
theorem dX8_removeFilter_20 : decode cX8_removeFilter 20 = .ok (.iaload, 1) := by decide +kernel
theorem dX8_removeFilter_21 : decode cX8_removeFilter 21 = .ok (.iconst 1, 1) := by decide +kernel
theorem dX8_removeFilter_22 : decode cX8_removeFilter 22 = .ok (.isub, 1) := by decide +kernel
theorem dX8_removeFilter_23 : decode cX8_removeFilter 23 = .ok (.iastore, 1) := by decide +kernel
theorem dX8_removeFilter_24 : decode cX8_removeFilter 24 = .ok (.iconst 4, 1) := by decide +kernel
theorem dX8_removeFilter_25 : decode cX8_removeFilter 25 = .ok (.iload_n 1, 1) := by decide +kernel
theorem dX8_removeFilter_26 : decode cX8_removeFilter 26 = .ok (.imul, 1) := by decide +kernel
theorem dX8_removeFilter_27 : decode cX8_removeFilter 27 = .ok (.istore_n 2, 1) := by decide +kernel
theorem dX8_removeFilter_28 : decode cX8_removeFilter 28 = .ok (.iload_n 2, 1) := by decide +kernel
theorem dX8_removeFilter_29 : decode cX8_removeFilter 29 = .ok (.iconst 4, 1) := by decide +kernel
theorem dX8_removeFilter_30 : decode cX8_removeFilter 30 = .ok (.aload_n 0, 1) := by decide +kernel
theorem dX8_removeFilter_31 : decode cX8_removeFilter 31 = .ok (.getfield 7, 3) := by decide +kernel
theorem dX8_removeFilter_34 : decode cX8_removeFilter 34 = .ok (.iconst 0, 1) := by decide +kernel
theorem dX8_removeFilter_35 : decode cX8_removeFilter 35 = .ok (.iaload, 1) := by decide +kernel
theorem dX8_removeFilter_36 : decode cX8_removeFilter 36 = .ok (.imul, 1) := by decide +kernel
theorem dX8_removeFilter_37 : decode cX8_removeFilter 37 = .ok (.if_icmp .ge 27, 3) := by decide +kernel
theorem dX8_removeFilter_40 : decode cX8_removeFilter 40 = .ok (.aload_n 0, 1) := by decide +kernel
theorem dX8_removeFilter_41 : decode cX8_removeFilter 41 = .ok (.getfield 7, 3) := by decide +kernel
theorem dX8_removeFilter_44 : decode cX8_removeFilter 44 = .ok (.iconst 1, 1) := by decide +kernel
theorem dX8_removeFilter_45 : decode cX8_removeFilter 45 = .ok (.iload_n 2, 1) := by decide +kernel
theorem dX8_removeFilter_46 : decode cX8_removeFilter 46 = .ok (.iadd, 1) := by decide +kernel
theorem dX8_removeFilter_47 : decode cX8_removeFilter 47 = .ok (.aload_n 0, 1) := by decide +kernel
theorem dX8_removeFilter_48 : decode cX8_removeFilter 48 = .ok (.getfield 7, 3) := by decide +kernel
theorem dX8_removeFilter_51 : decode cX8_removeFilter 51 = .ok (.iconst 1, 1) := by decide +kernel
theorem dX8_removeFilter_52 : decode cX8_removeFilter 52 = .ok (.iload_n 2, 1) := by decide +kernel
theorem dX8_removeFilter_53 : decode cX8_removeFilter 53 = .ok (.iadd, 1) := by decide +kernel
theorem dX8_removeFilter_54 : decode cX8_removeFilter 54 = .ok (.iconst 4, 1) := by decide +kernel
theorem dX8_removeFilter_55 : decode cX8_removeFilter 55 = .ok (.iadd, 1) := by decide +kernel
theorem dX8_removeFilter_56 : decode cX8_removeFilter 56 = .ok (.iaload, 1) := by decide +kernel
theorem dX8_removeFilter_57 : decode cX8_removeFilter 57 = .ok (.iastore, 1) := by decide +kernel
theorem dX8_removeFilter_58 : decode cX8_removeFilter 58 = .ok (.iinc 2 1, 3) := by decide +kernel
theorem dX8_removeFilter_61 : decode cX8_removeFilter 61 = .ok (.goto (-33), 3) := by decide +kernel
theorem dX8_removeFilter_64 : decode cX8_removeFilter 64 = .ok (.aload_n 0, 1) := by decide +kernel
theorem dX8_removeFilter_65 : decode cX8_removeFilter 65 = .ok (.getfield 7, 3) := by decide +kernel
theorem dX8_removeFilter_68 : decode cX8_removeFilter 68 = .ok (.iconst 0, 1) := by decide +kernel
theorem dX8_removeFilter_69 : decode cX8_removeFilter 69 = .ok (.iaload, 1) := by decide +kernel
theorem dX8_removeFilter_70 : decode cX8_removeFilter 70 = .ok (.ireturn, 1) := by decide +kernel
theorem dX8_swap_0 : decode cX8_swap 0 = .ok (.iconst 0, 1) := by decide +kernel
theorem dX8_swap_1 : decode cX8_swap 1 = .ok (.istore_n 2, 1) := by decide +kernel
theorem dX8_swap_2 : decode cX8_swap 2 = .ok (.iload_n 2, 1) := by decide +kernel
theorem dX8_swap_3 : decode cX8_swap 3 = .ok (.iconst 4, 1) := by decide +kernel
theorem dX8_swap_4 : decode cX8_swap 4 = .ok (.if_icmp .ge 49, 3) := by decide +kernel
theorem dX8_swap_7 : decode cX8_swap 7 = .ok (.iconst 1, 1) := by decide +kernel
theorem dX8_swap_8 : decode cX8_swap 8 = .ok (.iconst 4, 1) := by decide +kernel
theorem dX8_swap_9 : decode cX8_swap 9 = .ok (.iload_n 1, 1) := by decide +kernel
theorem dX8_swap_10 : decode cX8_swap 10 = .ok (.imul, 1) := by decide +kernel
theorem dX8_swap_11 : decode cX8_swap 11 = .ok (.iadd, 1) := by decide +kernel
theorem dX8_swap_12 : decode cX8_swap 12 = .ok (.iload_n 2, 1) := by decide +kernel
theorem dX8_swap_13 : decode cX8_swap 13 = .ok (.iadd, 1) := by decide +kernel
theorem dX8_swap_14 : decode cX8_swap 14 = .ok (.istore_n 3, 1) := by decide +kernel
theorem dX8_swap_15 : decode cX8_swap 15 = .ok (.aload_n 0, 1) := by decide +kernel
theorem dX8_swap_16 : decode cX8_swap 16 = .ok (.getfield 7, 3) := by decide +kernel
theorem dX8_swap_19 : decode cX8_swap 19 = .ok (.iload_n 3, 1) := by decide +kernel
theorem dX8_swap_20 : decode cX8_swap 20 = .ok (.iaload, 1) := by decide +kernel
theorem dX8_swap_21 : decode cX8_swap 21 = .ok (.istore 4, 2) := by decide +kernel
theorem dX8_swap_23 : decode cX8_swap 23 = .ok (.aload_n 0, 1) := by decide +kernel
theorem dX8_swap_24 : decode cX8_swap 24 = .ok (.getfield 7, 3) := by decide +kernel
theorem dX8_swap_27 : decode cX8_swap 27 = .ok (.iload_n 3, 1) := by decide +kernel
theorem dX8_swap_28 : decode cX8_swap 28 = .ok (.aload_n 0, 1) := by decide +kernel
theorem dX8_swap_29 : decode cX8_swap 29 = .ok (.getfield 7, 3) := by decide +kernel
theorem dX8_swap_32 : decode cX8_swap 32 = .ok (.iload_n 3, 1) := by decide +kernel
theorem dX8_swap_33 : decode cX8_swap 33 = .ok (.iconst 4, 1) := by decide +kernel
theorem dX8_swap_34 : decode cX8_swap 34 = .ok (.iadd, 1) := by decide +kernel
theorem dX8_swap_35 : decode cX8_swap 35 = .ok (.iaload, 1) := by decide +kernel
theorem dX8_swap_36 : decode cX8_swap 36 = .ok (.iastore, 1) := by decide +kernel
theorem dX8_swap_37 : decode cX8_swap 37 = .ok (.aload_n 0, 1) := by decide +kernel
theorem dX8_swap_38 : decode cX8_swap 38 = .ok (.getfield 7, 3) := by decide +kernel
theorem dX8_swap_41 : decode cX8_swap 41 = .ok (.iload_n 3, 1) := by decide +kernel
theorem dX8_swap_42 : decode cX8_swap 42 = .ok (.iconst 4, 1) := by decide +kernel
theorem dX8_swap_43 : decode cX8_swap 43 = .ok (.iadd, 1) := by decide +kernel
theorem dX8_swap_44 : decode cX8_swap 44 = .ok (.iload 4, 2) := by decide +kernel
theorem dX8_swap_46 : decode cX8_swap 46 = .ok (.iastore, 1) := by decide +kernel
theorem dX8_swap_47 : decode cX8_swap 47 = .ok (.iinc 2 1, 3) := by decide +kernel
theorem dX8_swap_50 : decode cX8_swap 50 = .ok (.goto (-48), 3) := by decide +kernel
theorem dX8_swap_53 : decode cX8_swap 53 = .ok (.return_, 1) := by decide +kernel
theorem dX8_swapFilters_0 : decode cX8_swapFilters 0 = .ok (.aload_n 0, 1) := by decide +kernel
theorem dX8_swapFilters_1 : decode cX8_swapFilters 1 = .ok (.iload_n 1, 1) := by decide +kernel
theorem dX8_swapFilters_2 : decode cX8_swapFilters 2 = .ok (.invokevirtual 142, 3) := by decide +kernel
theorem dX8_swapFilters_5 : decode cX8_swapFilters 5 = .ok (.ifCond .ne 5, 3) := by decide +kernel
theorem dX8_swapFilters_8 : decode cX8_swapFilters 8 = .ok (.iconst (-1), 1) := by decide +kernel
theorem dX8_swapFilters_9 : decode cX8_swapFilters 9 = .ok (.ireturn, 1) := by decide +kernel
theorem dX8_swapFilters_10 : decode cX8_swapFilters 10 = .ok (.iload_n 1, 1) := by decide +kernel
theorem dX8_swapFilters_11 : decode cX8_swapFilters 11 = .ok (.aload_n 0, 1) := by decide +kernel
theorem dX8_swapFilters_12 : decode cX8_swapFilters 12 = .ok (.getfield 7, 3) := by decide +kernel
theorem dX8_swapFilters_15 : decode cX8_swapFilters 15 = .ok (.iconst 0, 1) := by decide +kernel
theorem dX8_swapFilters_16 : decode cX8_swapFilters 16 = .ok (.iaload, 1) := by decide +kernel
theorem dX8_swapFilters_17 : decode cX8_swapFilters 17 = .ok (.iconst 1, 1) := by decide +kernel
theorem dX8_swapFilters_18 : decode cX8_swapFilters 18 = .ok (.isub, 1) := by decide +kernel
theorem dX8_swapFilters_19 : decode cX8_swapFilters 19 = .ok (.if_icmp .ne 6, 3) := by decide +kernel
theorem dX8_swapFilters_22 : decode cX8_swapFilters 22 = .ok (.bipush (-2), 2) := by decide +kernel
theorem dX8_swapFilters_24 : decode cX8_swapFilters 24 = .ok (.ireturn, 1) := by decide +kernel
theorem dX8_swapFilters_25 : decode cX8_swapFilters 25 = .ok (.aload_n 0, 1) := by decide +kernel
theorem dX8_swapFilters_26 : decode cX8_swapFilters 26 = .ok (.invokevirtual 135, 3) := by decide +kernel
theorem dX8_swapFilters_29 : decode cX8_swapFilters 29 = .ok (.aload_n 0, 1) := by decide +kernel
theorem dX8_swapFilters_30 : decode cX8_swapFilters 30 = .ok (.iload_n 1, 1) := by decide +kernel
theorem dX8_swapFilters_31 : decode cX8_swapFilters 31 = .ok (.invokevirtual 145, 3) := by decide +kernel
theorem dX8_swapFilters_34 : decode cX8_swapFilters 34 = .ok (.aload_n 0, 1) := by decide +kernel
theorem dX8_swapFilters_35 : decode cX8_swapFilters 35 = .ok (.getfield 7, 3) := by decide +kernel
theorem dX8_swapFilters_38 : decode cX8_swapFilters 38 = .ok (.iconst 1, 1) := by decide +kernel
theorem dX8_swapFilters_39 : decode cX8_swapFilters 39 = .ok (.iconst 4, 1) := by decide +kernel
theorem dX8_swapFilters_40 : decode cX8_swapFilters 40 = .ok (.iload_n 1, 1) := by decide +kernel
theorem dX8_swapFilters_41 : decode cX8_swapFilters 41 = .ok (.imul, 1) := by decide +kernel
theorem dX8_swapFilters_42 : decode cX8_swapFilters 42 = .ok (.iadd, 1) := by decide +kernel
theorem dX8_swapFilters_43 : decode cX8_swapFilters 43 = .ok (.iaload, 1) := by decide +kernel
theorem dX8_swapFilters_44 : decode cX8_swapFilters 44 = .ok (.ireturn, 1) := by decide +kernel
theorem dX8_filterKind_0 : decode cX8_filterKind 0 = .ok (.aload_n 0, 1) := by decide +kernel
theorem dX8_filterKind_1 : decode cX8_filterKind 1 = .ok (.iload_n 1, 1) := by decide +kernel
theorem dX8_filterKind_2 : decode cX8_filterKind 2 = .ok (.invokevirtual 142, 3) := by decide +kernel
theorem dX8_filterKind_5 : decode cX8_filterKind 5 = .ok (.ifCond .eq 16, 3) := by decide +kernel
theorem dX8_filterKind_8 : decode cX8_filterKind 8 = .ok (.aload_n 0, 1) := by decide +kernel
theorem dX8_filterKind_9 : decode cX8_filterKind 9 = .ok (.getfield 7, 3) := by decide +kernel
theorem dX8_filterKind_12 : decode cX8_filterKind 12 = .ok (.iconst 1, 1) := by decide +kernel
theorem dX8_filterKind_13 : decode cX8_filterKind 13 = .ok (.iconst 4, 1) := by decide +kernel
theorem dX8_filterKind_14 : decode cX8_filterKind 14 = .ok (.iload_n 1, 1) := by decide +kernel
theorem dX8_filterKind_15 : decode cX8_filterKind 15 = .ok (.imul, 1) := by decide +kernel
theorem dX8_filterKind_16 : decode cX8_filterKind 16 = .ok (.iadd, 1) := by decide +kernel
theorem dX8_filterKind_17 : decode cX8_filterKind 17 = .ok (.iaload, 1) := by decide +kernel
theorem dX8_filterKind_18 : decode cX8_filterKind 18 = .ok (.goto 4, 3) := by decide +kernel
theorem dX8_filterKind_21 : decode cX8_filterKind 21 = .ok (.iconst (-1), 1) := by decide +kernel
theorem dX8_filterKind_22 : decode cX8_filterKind 22 = .ok (.ireturn, 1) := by decide +kernel
theorem dX8_setVariable_0 : decode cX8_setVariable 0 = .ok (.iload_n 1, 1) := by decide +kernel
theorem dX8_setVariable_1 : decode cX8_setVariable 1 = .ok (.iconst 0, 1) := by decide +kernel
theorem dX8_setVariable_2 : decode cX8_setVariable 2 = .ok (.bipush 25, 2) := by decide +kernel
theorem dX8_setVariable_4 : decode cX8_setVariable 4 = .ok (.invokestatic 91, 3) := by decide +kernel
theorem dX8_setVariable_7 : decode cX8_setVariable 7 = .ok (.ifCond .eq 14, 3) := by decide +kernel
theorem dX8_setVariable_10 : decode cX8_setVariable 10 = .ok (.iload_n 2, 1) := by decide +kernel
theorem dX8_setVariable_11 : decode cX8_setVariable 11 = .ok (.ldc 149, 2) := by decide +kernel
theorem dX8_setVariable_13 : decode cX8_setVariable 13 = .ok (.ldc 150, 2) := by decide +kernel
theorem dX8_setVariable_15 : decode cX8_setVariable 15 = .ok (.invokestatic 91, 3) := by decide +kernel
theorem dX8_setVariable_18 : decode cX8_setVariable 18 = .ok (.ifCond .ne 5, 3) := by decide +kernel
theorem dX8_setVariable_21 : decode cX8_setVariable 21 = .ok (.iconst (-1), 1) := by decide +kernel
theorem dX8_setVariable_22 : decode cX8_setVariable 22 = .ok (.ireturn, 1) := by decide +kernel
theorem dX8_setVariable_23 : decode cX8_setVariable 23 = .ok (.aload_n 0, 1) := by decide +kernel
theorem dX8_setVariable_24 : decode cX8_setVariable 24 = .ok (.invokevirtual 135, 3) := by decide +kernel
theorem dX8_setVariable_27 : decode cX8_setVariable 27 = .ok (.aload_n 0, 1) := by decide +kernel
theorem dX8_setVariable_28 : decode cX8_setVariable 28 = .ok (.getfield 7, 3) := by decide +kernel
theorem dX8_setVariable_31 : decode cX8_setVariable 31 = .ok (.bipush 25, 2) := by decide +kernel
theorem dX8_setVariable_33 : decode cX8_setVariable 33 = .ok (.iload_n 1, 1) := by decide +kernel
theorem dX8_setVariable_34 : decode cX8_setVariable 34 = .ok (.iadd, 1) := by decide +kernel
theorem dX8_setVariable_35 : decode cX8_setVariable 35 = .ok (.iaload, 1) := by decide +kernel
theorem dX8_setVariable_36 : decode cX8_setVariable 36 = .ok (.iload_n 2, 1) := by decide +kernel
theorem dX8_setVariable_37 : decode cX8_setVariable 37 = .ok (.if_icmp .eq 7, 3) := by decide +kernel
theorem dX8_setVariable_40 : decode cX8_setVariable 40 = .ok (.iconst 1, 1) := by decide +kernel
theorem dX8_setVariable_41 : decode cX8_setVariable 41 = .ok (.goto 4, 3) := by decide +kernel
theorem dX8_setVariable_44 : decode cX8_setVariable 44 = .ok (.iconst 0, 1) := by decide +kernel
theorem dX8_setVariable_45 : decode cX8_setVariable 45 = .ok (.istore_n 3, 1) := by decide +kernel
theorem dX8_setVariable_46 : decode cX8_setVariable 46 = .ok (.aload_n 0, 1) := by decide +kernel
theorem dX8_setVariable_47 : decode cX8_setVariable 47 = .ok (.getfield 7, 3) := by decide +kernel
theorem dX8_setVariable_50 : decode cX8_setVariable 50 = .ok (.bipush 25, 2) := by decide +kernel
theorem dX8_setVariable_52 : decode cX8_setVariable 52 = .ok (.iload_n 1, 1) := by decide +kernel
theorem dX8_setVariable_53 : decode cX8_setVariable 53 = .ok (.iadd, 1) := by decide +kernel
theorem dX8_setVariable_54 : decode cX8_setVariable 54 = .ok (.iload_n 2, 1) := by decide +kernel
theorem dX8_setVariable_55 : decode cX8_setVariable 55 = .ok (.iastore, 1) := by decide +kernel
theorem dX8_setVariable_56 : decode cX8_setVariable 56 = .ok (.iload_n 3, 1) := by decide +kernel
theorem dX8_setVariable_57 : decode cX8_setVariable 57 = .ok (.ifCond .eq 7, 3) := by decide +kernel
theorem dX8_setVariable_60 : decode cX8_setVariable 60 = .ok (.iconst 1, 1) := by decide +kernel
theorem dX8_setVariable_61 : decode cX8_setVariable 61 = .ok (.goto 4, 3) := by decide +kernel
theorem dX8_setVariable_64 : decode cX8_setVariable 64 = .ok (.iconst 0, 1) := by decide +kernel
theorem dX8_setVariable_65 : decode cX8_setVariable 65 = .ok (.ireturn, 1) := by decide +kernel
theorem dX8_symbolOf_0 : decode cX8_symbolOf 0 = .ok (.iload_n 1, 1) := by decide +kernel
theorem dX8_symbolOf_1 : decode cX8_symbolOf 1 = .ok (.iconst 0, 1) := by decide +kernel
theorem dX8_symbolOf_2 : decode cX8_symbolOf 2 = .ok (.aload_n 0, 1) := by decide +kernel
theorem dX8_symbolOf_3 : decode cX8_symbolOf 3 = .ok (.getfield 126, 3) := by decide +kernel
theorem dX8_symbolOf_6 : decode cX8_symbolOf 6 = .ok (.iconst 1, 1) := by decide +kernel
theorem dX8_symbolOf_7 : decode cX8_symbolOf 7 = .ok (.isub, 1) := by decide +kernel
theorem dX8_symbolOf_8 : decode cX8_symbolOf 8 = .ok (.invokestatic 91, 3) := by decide +kernel
theorem dX8_symbolOf_11 : decode cX8_symbolOf 11 = .ok (.ifCond .eq 12, 3) := by decide +kernel
theorem dX8_symbolOf_14 : decode cX8_symbolOf 14 = .ok (.aload_n 0, 1) := by decide +kernel
theorem dX8_symbolOf_15 : decode cX8_symbolOf 15 = .ok (.getfield 22, 3) := by decide +kernel
theorem dX8_symbolOf_18 : decode cX8_symbolOf 18 = .ok (.iload_n 1, 1) := by decide +kernel
theorem dX8_symbolOf_19 : decode cX8_symbolOf 19 = .ok (.iaload, 1) := by decide +kernel
theorem dX8_symbolOf_20 : decode cX8_symbolOf 20 = .ok (.goto 4, 3) := by decide +kernel
theorem dX8_symbolOf_23 : decode cX8_symbolOf 23 = .ok (.iconst (-1), 1) := by decide +kernel
theorem dX8_symbolOf_24 : decode cX8_symbolOf 24 = .ok (.ireturn, 1) := by decide +kernel
theorem dX8_priorityOf_0 : decode cX8_priorityOf 0 = .ok (.iload_n 1, 1) := by decide +kernel
theorem dX8_priorityOf_1 : decode cX8_priorityOf 1 = .ok (.invokestatic 132, 3) := by decide +kernel
theorem dX8_priorityOf_4 : decode cX8_priorityOf 4 = .ok (.ifCond .eq 12, 3) := by decide +kernel
theorem dX8_priorityOf_7 : decode cX8_priorityOf 7 = .ok (.aload_n 0, 1) := by decide +kernel
theorem dX8_priorityOf_8 : decode cX8_priorityOf 8 = .ok (.getfield 16, 3) := by decide +kernel
theorem dX8_priorityOf_11 : decode cX8_priorityOf 11 = .ok (.iload_n 1, 1) := by decide +kernel
theorem dX8_priorityOf_12 : decode cX8_priorityOf 12 = .ok (.iaload, 1) := by decide +kernel
theorem dX8_priorityOf_13 : decode cX8_priorityOf 13 = .ok (.goto 4, 3) := by decide +kernel
theorem dX8_priorityOf_16 : decode cX8_priorityOf 16 = .ok (.iconst (-1), 1) := by decide +kernel
theorem dX8_priorityOf_17 : decode cX8_priorityOf 17 = .ok (.ireturn, 1) := by decide +kernel
theorem dX8_isForbiddenBy_0 : decode cX8_isForbiddenBy 0 = .ok (.iconst 1, 1) := by decide +kernel
theorem dX8_isForbiddenBy_1 : decode cX8_isForbiddenBy 1 = .ok (.iconst 4, 1) := by decide +kernel
theorem dX8_isForbiddenBy_2 : decode cX8_isForbiddenBy 2 = .ok (.iload_n 1, 1) := by decide +kernel
theorem dX8_isForbiddenBy_3 : decode cX8_isForbiddenBy 3 = .ok (.imul, 1) := by decide +kernel
theorem dX8_isForbiddenBy_4 : decode cX8_isForbiddenBy 4 = .ok (.iadd, 1) := by decide +kernel
theorem dX8_isForbiddenBy_5 : decode cX8_isForbiddenBy 5 = .ok (.istore 5, 2) := by decide +kernel
theorem dX8_isForbiddenBy_7 : decode cX8_isForbiddenBy 7 = .ok (.aload_n 0, 1) := by decide +kernel
theorem dX8_isForbiddenBy_8 : decode cX8_isForbiddenBy 8 = .ok (.getfield 22, 3) := by decide +kernel
theorem dX8_isForbiddenBy_11 : decode cX8_isForbiddenBy 11 = .ok (.iload_n 2, 1) := by decide +kernel
theorem dX8_isForbiddenBy_12 : decode cX8_isForbiddenBy 12 = .ok (.iaload, 1) := by decide +kernel
theorem dX8_isForbiddenBy_13 : decode cX8_isForbiddenBy 13 = .ok (.istore 6, 2) := by decide +kernel
theorem dX8_isForbiddenBy_15 : decode cX8_isForbiddenBy 15 = .ok (.aload_n 0, 1) := by decide +kernel
theorem dX8_isForbiddenBy_16 : decode cX8_isForbiddenBy 16 = .ok (.getfield 22, 3) := by decide +kernel
theorem dX8_isForbiddenBy_19 : decode cX8_isForbiddenBy 19 = .ok (.iload_n 3, 1) := by decide +kernel
theorem dX8_isForbiddenBy_20 : decode cX8_isForbiddenBy 20 = .ok (.iaload, 1) := by decide +kernel
theorem dX8_isForbiddenBy_21 : decode cX8_isForbiddenBy 21 = .ok (.istore 7, 2) := by decide +kernel
theorem dX8_isForbiddenBy_23 : decode cX8_isForbiddenBy 23 = .ok (.aload_n 0, 1) := by decide +kernel
theorem dX8_isForbiddenBy_24 : decode cX8_isForbiddenBy 24 = .ok (.getfield 7, 3) := by decide +kernel
theorem dX8_isForbiddenBy_27 : decode cX8_isForbiddenBy 27 = .ok (.iload 5, 2) := by decide +kernel
theorem dX8_isForbiddenBy_29 : decode cX8_isForbiddenBy 29 = .ok (.iaload, 1) := by decide +kernel
theorem dX8_isForbiddenBy_30 : decode cX8_isForbiddenBy 30 = .ok (.tableswitch 152 0 2 #[26, 49, 104], 26) := by decide +kernel
theorem dX8_isForbiddenBy_56 : decode cX8_isForbiddenBy 56 = .ok (.aload_n 0, 1) := by decide +kernel
theorem dX8_isForbiddenBy_57 : decode cX8_isForbiddenBy 57 = .ok (.getfield 16, 3) := by decide +kernel
theorem dX8_isForbiddenBy_60 : decode cX8_isForbiddenBy 60 = .ok (.iload 6, 2) := by decide +kernel
theorem dX8_isForbiddenBy_62 : decode cX8_isForbiddenBy 62 = .ok (.iaload, 1) := by decide +kernel
theorem dX8_isForbiddenBy_63 : decode cX8_isForbiddenBy 63 = .ok (.aload_n 0, 1) := by decide +kernel
theorem dX8_isForbiddenBy_64 : decode cX8_isForbiddenBy 64 = .ok (.getfield 16, 3) := by decide +kernel
theorem dX8_isForbiddenBy_67 : decode cX8_isForbiddenBy 67 = .ok (.iload 7, 2) := by decide +kernel
theorem dX8_isForbiddenBy_69 : decode cX8_isForbiddenBy 69 = .ok (.iaload, 1) := by decide +kernel
theorem dX8_isForbiddenBy_70 : decode cX8_isForbiddenBy 70 = .ok (.if_icmp .le 7, 3) := by decide +kernel
theorem dX8_isForbiddenBy_73 : decode cX8_isForbiddenBy 73 = .ok (.iconst 1, 1) := by decide +kernel
theorem dX8_isForbiddenBy_74 : decode cX8_isForbiddenBy 74 = .ok (.goto 4, 3) := by decide +kernel
theorem dX8_isForbiddenBy_77 : decode cX8_isForbiddenBy 77 = .ok (.iconst 0, 1) := by decide +kernel
theorem dX8_isForbiddenBy_78 : decode cX8_isForbiddenBy 78 = .ok (.ireturn, 1) := by decide +kernel
theorem dX8_isForbiddenBy_79 : decode cX8_isForbiddenBy 79 = .ok (.aload_n 0, 1) := by decide +kernel
theorem dX8_isForbiddenBy_80 : decode cX8_isForbiddenBy 80 = .ok (.getfield 16, 3) := by decide +kernel
theorem dX8_isForbiddenBy_83 : decode cX8_isForbiddenBy 83 = .ok (.iload 6, 2) := by decide +kernel
theorem dX8_isForbiddenBy_85 : decode cX8_isForbiddenBy 85 = .ok (.iaload, 1) := by decide +kernel
theorem dX8_isForbiddenBy_86 : decode cX8_isForbiddenBy 86 = .ok (.aload_n 0, 1) := by decide +kernel
theorem dX8_isForbiddenBy_87 : decode cX8_isForbiddenBy 87 = .ok (.getfield 16, 3) := by decide +kernel
theorem dX8_isForbiddenBy_90 : decode cX8_isForbiddenBy 90 = .ok (.iload 7, 2) := by decide +kernel
theorem dX8_isForbiddenBy_92 : decode cX8_isForbiddenBy 92 = .ok (.iaload, 1) := by decide +kernel
theorem dX8_isForbiddenBy_93 : decode cX8_isForbiddenBy 93 = .ok (.if_icmp .ne 39, 3) := by decide +kernel
theorem dX8_isForbiddenBy_96 : decode cX8_isForbiddenBy 96 = .ok (.aload_n 0, 1) := by decide +kernel
theorem dX8_isForbiddenBy_97 : decode cX8_isForbiddenBy 97 = .ok (.getfield 19, 3) := by decide +kernel
theorem dX8_isForbiddenBy_100 : decode cX8_isForbiddenBy 100 = .ok (.iload 6, 2) := by decide +kernel
theorem dX8_isForbiddenBy_102 : decode cX8_isForbiddenBy 102 = .ok (.iaload, 1) := by decide +kernel
theorem dX8_isForbiddenBy_103 : decode cX8_isForbiddenBy 103 = .ok (.iconst 2, 1) := by decide +kernel
theorem dX8_isForbiddenBy_104 : decode cX8_isForbiddenBy 104 = .ok (.if_icmp .eq 24, 3) := by decide +kernel
theorem dX8_isForbiddenBy_107 : decode cX8_isForbiddenBy 107 = .ok (.aload_n 0, 1) := by decide +kernel
theorem dX8_isForbiddenBy_108 : decode cX8_isForbiddenBy 108 = .ok (.getfield 19, 3) := by decide +kernel
theorem dX8_isForbiddenBy_111 : decode cX8_isForbiddenBy 111 = .ok (.iload 6, 2) := by decide +kernel
theorem dX8_isForbiddenBy_113 : decode cX8_isForbiddenBy 113 = .ok (.iaload, 1) := by decide +kernel
theorem dX8_isForbiddenBy_114 : decode cX8_isForbiddenBy 114 = .ok (.iload 4, 2) := by decide +kernel
theorem dX8_isForbiddenBy_116 : decode cX8_isForbiddenBy 116 = .ok (.iconst 1, 1) := by decide +kernel
theorem dX8_isForbiddenBy_117 : decode cX8_isForbiddenBy 117 = .ok (.if_icmp .ne 7, 3) := by decide +kernel
theorem dX8_isForbiddenBy_120 : decode cX8_isForbiddenBy 120 = .ok (.iconst 0, 1) := by decide +kernel
theorem dX8_isForbiddenBy_121 : decode cX8_isForbiddenBy 121 = .ok (.goto 4, 3) := by decide +kernel
theorem dX8_isForbiddenBy_124 : decode cX8_isForbiddenBy 124 = .ok (.iconst 1, 1) := by decide +kernel
theorem dX8_isForbiddenBy_125 : decode cX8_isForbiddenBy 125 = .ok (.if_icmp .ne 7, 3) := by decide +kernel
theorem dX8_isForbiddenBy_128 : decode cX8_isForbiddenBy 128 = .ok (.iconst 1, 1) := by decide +kernel
theorem dX8_isForbiddenBy_129 : decode cX8_isForbiddenBy 129 = .ok (.goto 4, 3) := by decide +kernel
theorem dX8_isForbiddenBy_132 : decode cX8_isForbiddenBy 132 = .ok (.iconst 0, 1) := by decide +kernel
theorem dX8_isForbiddenBy_133 : decode cX8_isForbiddenBy 133 = .ok (.ireturn, 1) := by decide +kernel
theorem dX8_isForbiddenBy_134 : decode cX8_isForbiddenBy 134 = .ok (.aload_n 0, 1) := by decide +kernel
theorem dX8_isForbiddenBy_135 : decode cX8_isForbiddenBy 135 = .ok (.getfield 7, 3) := by decide +kernel
theorem dX8_isForbiddenBy_138 : decode cX8_isForbiddenBy 138 = .ok (.iload 5, 2) := by decide +kernel
theorem dX8_isForbiddenBy_140 : decode cX8_isForbiddenBy 140 = .ok (.iconst 1, 1) := by decide +kernel
theorem dX8_isForbiddenBy_141 : decode cX8_isForbiddenBy 141 = .ok (.iadd, 1) := by decide +kernel
theorem dX8_isForbiddenBy_142 : decode cX8_isForbiddenBy 142 = .ok (.iaload, 1) := by decide +kernel
theorem dX8_isForbiddenBy_143 : decode cX8_isForbiddenBy 143 = .ok (.iload 6, 2) := by decide +kernel
theorem dX8_isForbiddenBy_145 : decode cX8_isForbiddenBy 145 = .ok (.if_icmp .ne 35, 3) := by decide +kernel
theorem dX8_isForbiddenBy_148 : decode cX8_isForbiddenBy 148 = .ok (.aload_n 0, 1) := by decide +kernel
theorem dX8_isForbiddenBy_149 : decode cX8_isForbiddenBy 149 = .ok (.getfield 7, 3) := by decide +kernel
theorem dX8_isForbiddenBy_152 : decode cX8_isForbiddenBy 152 = .ok (.iload 5, 2) := by decide +kernel
theorem dX8_isForbiddenBy_154 : decode cX8_isForbiddenBy 154 = .ok (.iconst 2, 1) := by decide +kernel
theorem dX8_isForbiddenBy_155 : decode cX8_isForbiddenBy 155 = .ok (.iadd, 1) := by decide +kernel
theorem dX8_isForbiddenBy_156 : decode cX8_isForbiddenBy 156 = .ok (.iaload, 1) := by decide +kernel
theorem dX8_isForbiddenBy_157 : decode cX8_isForbiddenBy 157 = .ok (.iload 7, 2) := by decide +kernel
theorem dX8_isForbiddenBy_159 : decode cX8_isForbiddenBy 159 = .ok (.if_icmp .ne 21, 3) := by decide +kernel
theorem dX8_isForbiddenBy_162 : decode cX8_isForbiddenBy 162 = .ok (.aload_n 0, 1) := by decide +kernel
theorem dX8_isForbiddenBy_163 : decode cX8_isForbiddenBy 163 = .ok (.getfield 7, 3) := by decide +kernel
theorem dX8_isForbiddenBy_166 : decode cX8_isForbiddenBy 166 = .ok (.iload 5, 2) := by decide +kernel
theorem dX8_isForbiddenBy_168 : decode cX8_isForbiddenBy 168 = .ok (.iconst 3, 1) := by decide +kernel
theorem dX8_isForbiddenBy_169 : decode cX8_isForbiddenBy 169 = .ok (.iadd, 1) := by decide +kernel
theorem dX8_isForbiddenBy_170 : decode cX8_isForbiddenBy 170 = .ok (.iaload, 1) := by decide +kernel
theorem dX8_isForbiddenBy_171 : decode cX8_isForbiddenBy 171 = .ok (.iload 4, 2) := by decide +kernel
theorem dX8_isForbiddenBy_173 : decode cX8_isForbiddenBy 173 = .ok (.if_icmp .ne 7, 3) := by decide +kernel
theorem dX8_isForbiddenBy_176 : decode cX8_isForbiddenBy 176 = .ok (.iconst 1, 1) := by decide +kernel
theorem dX8_isForbiddenBy_177 : decode cX8_isForbiddenBy 177 = .ok (.goto 4, 3) := by decide +kernel
theorem dX8_isForbiddenBy_180 : decode cX8_isForbiddenBy 180 = .ok (.iconst 0, 1) := by decide +kernel
theorem dX8_isForbiddenBy_181 : decode cX8_isForbiddenBy 181 = .ok (.ireturn, 1) := by decide +kernel
theorem dX8_isForbiddenBy_182 : decode cX8_isForbiddenBy 182 = .ok (.iconst 0, 1) := by decide +kernel
theorem dX8_isForbiddenBy_183 : decode cX8_isForbiddenBy 183 = .ok (.ireturn, 1) := by decide +kernel
theorem dX8_isForbidden_0 : decode cX8_isForbidden 0 = .ok (.iconst 0, 1) := by decide +kernel
theorem dX8_isForbidden_1 : decode cX8_isForbidden 1 = .ok (.istore 5, 2) := by decide +kernel
theorem dX8_isForbidden_3 : decode cX8_isForbidden 3 = .ok (.iconst 0, 1) := by decide +kernel
theorem dX8_isForbidden_4 : decode cX8_isForbidden 4 = .ok (.istore 6, 2) := by decide +kernel
theorem dX8_isForbidden_6 : decode cX8_isForbidden 6 = .ok (.iload 6, 2) := by decide +kernel
theorem dX8_isForbidden_8 : decode cX8_isForbidden 8 = .ok (.iload_n 1, 1) := by decide +kernel
theorem dX8_isForbidden_9 : decode cX8_isForbidden 9 = .ok (.if_icmp .ge 26, 3) := by decide +kernel
theorem dX8_isForbidden_12 : decode cX8_isForbidden 12 = .ok (.iload 5, 2) := by decide +kernel
theorem dX8_isForbidden_14 : decode cX8_isForbidden 14 = .ok (.ifCond .ne 21, 3) := by decide +kernel
theorem dX8_isForbidden_17 : decode cX8_isForbidden 17 = .ok (.aload_n 0, 1) := by decide +kernel
theorem dX8_isForbidden_18 : decode cX8_isForbidden 18 = .ok (.iload 6, 2) := by decide +kernel
theorem dX8_isForbidden_20 : decode cX8_isForbidden 20 = .ok (.iload_n 2, 1) := by decide +kernel
theorem dX8_isForbidden_21 : decode cX8_isForbidden 21 = .ok (.iload_n 3, 1) := by decide +kernel
theorem dX8_isForbidden_22 : decode cX8_isForbidden 22 = .ok (.iload 4, 2) := by decide +kernel
theorem dX8_isForbidden_24 : decode cX8_isForbidden 24 = .ok (.invokevirtual 151, 3) := by decide +kernel
theorem dX8_isForbidden_27 : decode cX8_isForbidden 27 = .ok (.istore 5, 2) := by decide +kernel
theorem dX8_isForbidden_29 : decode cX8_isForbidden 29 = .ok (.iinc 6 1, 3) := by decide +kernel
theorem dX8_isForbidden_32 : decode cX8_isForbidden 32 = .ok (.goto (-26), 3) := by decide +kernel
theorem dX8_isForbidden_35 : decode cX8_isForbidden 35 = .ok (.iload 5, 2) := by decide +kernel
theorem dX8_isForbidden_37 : decode cX8_isForbidden 37 = .ok (.ireturn, 1) := by decide +kernel
theorem dX8_below_0 : decode cX8_below 0 = .ok (.iload_n 2, 1) := by decide +kernel
theorem dX8_below_1 : decode cX8_below 1 = .ok (.iload_n 3, 1) := by decide +kernel
theorem dX8_below_2 : decode cX8_below 2 = .ok (.if_icmp .ne 7, 3) := by decide +kernel
theorem dX8_below_5 : decode cX8_below 5 = .ok (.iconst 1, 1) := by decide +kernel
theorem dX8_below_6 : decode cX8_below 6 = .ok (.goto 4, 3) := by decide +kernel
theorem dX8_below_9 : decode cX8_below 9 = .ok (.iconst 0, 1) := by decide +kernel
theorem dX8_below_10 : decode cX8_below 10 = .ok (.istore 6, 2) := by decide +kernel
theorem dX8_below_12 : decode cX8_below 12 = .ok (.iload_n 2, 1) := by decide +kernel
theorem dX8_below_13 : decode cX8_below 13 = .ok (.istore 7, 2) := by decide +kernel
theorem dX8_below_15 : decode cX8_below 15 = .ok (.iload 7, 2) := by decide +kernel
theorem dX8_below_17 : decode cX8_below 17 = .ok (.iload_n 3, 1) := by decide +kernel
theorem dX8_below_18 : decode cX8_below 18 = .ok (.if_icmp .ge 49, 3) := by decide +kernel
theorem dX8_below_21 : decode cX8_below 21 = .ok (.iload 6, 2) := by decide +kernel
theorem dX8_below_23 : decode cX8_below 23 = .ok (.aload_n 0, 1) := by decide +kernel
theorem dX8_below_24 : decode cX8_below 24 = .ok (.iload_n 1, 1) := by decide +kernel
theorem dX8_below_25 : decode cX8_below 25 = .ok (.iload 4, 2) := by decide +kernel
theorem dX8_below_27 : decode cX8_below 27 = .ok (.iload 7, 2) := by decide +kernel
theorem dX8_below_29 : decode cX8_below 29 = .ok (.iload 5, 2) := by decide +kernel
theorem dX8_below_31 : decode cX8_below 31 = .ok (.invokevirtual 155, 3) := by decide +kernel
theorem dX8_below_34 : decode cX8_below 34 = .ok (.ifCond .eq 7, 3) := by decide +kernel
theorem dX8_below_37 : decode cX8_below 37 = .ok (.iconst 0, 1) := by decide +kernel
theorem dX8_below_38 : decode cX8_below 38 = .ok (.goto 20, 3) := by decide +kernel
theorem dX8_below_41 : decode cX8_below 41 = .ok (.aload_n 0, 1) := by decide +kernel
theorem dX8_below_42 : decode cX8_below 42 = .ok (.getfield 43, 3) := by decide +kernel
theorem dX8_below_45 : decode cX8_below 45 = .ok (.bipush 10, 2) := by decide +kernel
theorem dX8_below_47 : decode cX8_below 47 = .ok (.bipush 11, 2) := by decide +kernel
theorem dX8_below_49 : decode cX8_below 49 = .ok (.iload_n 2, 1) := by decide +kernel
theorem dX8_below_50 : decode cX8_below 50 = .ok (.imul, 1) := by decide +kernel
theorem dX8_below_51 : decode cX8_below 51 = .ok (.iload_n 3, 1) := by decide +kernel
theorem dX8_below_52 : decode cX8_below 52 = .ok (.iadd, 1) := by decide +kernel
theorem dX8_below_53 : decode cX8_below 53 = .ok (.imul, 1) := by decide +kernel
theorem dX8_below_54 : decode cX8_below 54 = .ok (.iload 7, 2) := by decide +kernel
theorem dX8_below_56 : decode cX8_below 56 = .ok (.iadd, 1) := by decide +kernel
theorem dX8_below_57 : decode cX8_below 57 = .ok (.iaload, 1) := by decide +kernel
theorem dX8_below_58 : decode cX8_below 58 = .ok (.iadd, 1) := by decide +kernel
theorem dX8_below_59 : decode cX8_below 59 = .ok (.istore 6, 2) := by decide +kernel
theorem dX8_below_61 : decode cX8_below 61 = .ok (.iinc 7 1, 3) := by decide +kernel
theorem dX8_below_64 : decode cX8_below 64 = .ok (.goto (-49), 3) := by decide +kernel
theorem dX8_below_67 : decode cX8_below 67 = .ok (.iload 6, 2) := by decide +kernel
theorem dX8_below_69 : decode cX8_below 69 = .ok (.ireturn, 1) := by decide +kernel
theorem dX8_has_0 : decode cX8_has 0 = .ok (.iload_n 0, 1) := by decide +kernel
theorem dX8_has_1 : decode cX8_has 1 = .ok (.iload_n 1, 1) := by decide +kernel
theorem dX8_has_2 : decode cX8_has 2 = .ok (.ishr, 1) := by decide +kernel
theorem dX8_has_3 : decode cX8_has 3 = .ok (.iconst 1, 1) := by decide +kernel
theorem dX8_has_4 : decode cX8_has 4 = .ok (.iand, 1) := by decide +kernel
theorem dX8_has_5 : decode cX8_has 5 = .ok (.iconst 1, 1) := by decide +kernel
theorem dX8_has_6 : decode cX8_has 6 = .ok (.if_icmp .ne 7, 3) := by decide +kernel
theorem dX8_has_9 : decode cX8_has 9 = .ok (.iconst 1, 1) := by decide +kernel
theorem dX8_has_10 : decode cX8_has 10 = .ok (.goto 4, 3) := by decide +kernel
theorem dX8_has_13 : decode cX8_has 13 = .ok (.iconst 0, 1) := by decide +kernel
theorem dX8_has_14 : decode cX8_has 14 = .ok (.ireturn, 1) := by decide +kernel
theorem dX8_discard_0 : decode cX8_discard 0 = .ok (.iconst 1, 1) := by decide +kernel
theorem dX8_discard_1 : decode cX8_discard 1 = .ok (.iconst 4, 1) := by decide +kernel
theorem dX8_discard_2 : decode cX8_discard 2 = .ok (.iload_n 1, 1) := by decide +kernel
theorem dX8_discard_3 : decode cX8_discard 3 = .ok (.imul, 1) := by decide +kernel
theorem dX8_discard_4 : decode cX8_discard 4 = .ok (.iadd, 1) := by decide +kernel
theorem dX8_discard_5 : decode cX8_discard 5 = .ok (.istore 4, 2) := by decide +kernel
theorem dX8_discard_7 : decode cX8_discard 7 = .ok (.bipush 11, 2) := by decide +kernel
theorem dX8_discard_9 : decode cX8_discard 9 = .ok (.iload_n 2, 1) := by decide +kernel
theorem dX8_discard_10 : decode cX8_discard 10 = .ok (.imul, 1) := by decide +kernel
theorem dX8_discard_11 : decode cX8_discard 11 = .ok (.iload_n 3, 1) := by decide +kernel
theorem dX8_discard_12 : decode cX8_discard 12 = .ok (.iadd, 1) := by decide +kernel
theorem dX8_discard_13 : decode cX8_discard 13 = .ok (.istore 5, 2) := by decide +kernel
theorem dX8_discard_15 : decode cX8_discard 15 = .ok (.iconst 0, 1) := by decide +kernel
theorem dX8_discard_16 : decode cX8_discard 16 = .ok (.istore 6, 2) := by decide +kernel
theorem dX8_discard_18 : decode cX8_discard 18 = .ok (.iconst 0, 1) := by decide +kernel
theorem dX8_discard_19 : decode cX8_discard 19 = .ok (.istore 7, 2) := by decide +kernel
theorem dX8_discard_21 : decode cX8_discard 21 = .ok (.iconst 0, 1) := by decide +kernel
theorem dX8_discard_22 : decode cX8_discard 22 = .ok (.istore 8, 2) := by decide +kernel
theorem dX8_discard_24 : decode cX8_discard 24 = .ok (.iconst 0, 1) := by decide +kernel
theorem dX8_discard_25 : decode cX8_discard 25 = .ok (.istore 9, 2) := by decide +kernel
theorem dX8_discard_27 : decode cX8_discard 27 = .ok (.iload_n 2, 1) := by decide +kernel
theorem dX8_discard_28 : decode cX8_discard 28 = .ok (.istore 10, 2) := by decide +kernel
theorem dX8_discard_30 : decode cX8_discard 30 = .ok (.iload 10, 2) := by decide +kernel
theorem dX8_discard_32 : decode cX8_discard 32 = .ok (.iload_n 3, 1) := by decide +kernel
theorem dX8_discard_33 : decode cX8_discard 33 = .ok (.if_icmp .ge 138, 3) := by decide +kernel
theorem dX8_discard_36 : decode cX8_discard 36 = .ok (.aload_n 0, 1) := by decide +kernel
theorem dX8_discard_37 : decode cX8_discard 37 = .ok (.getfield 22, 3) := by decide +kernel
theorem dX8_discard_40 : decode cX8_discard 40 = .ok (.iload 10, 2) := by decide +kernel
theorem dX8_discard_42 : decode cX8_discard 42 = .ok (.iaload, 1) := by decide +kernel
theorem dX8_discard_43 : decode cX8_discard 43 = .ok (.aload_n 0, 1) := by decide +kernel
theorem dX8_discard_44 : decode cX8_discard 44 = .ok (.getfield 7, 3) := by decide +kernel
theorem dX8_discard_47 : decode cX8_discard 47 = .ok (.iload 4, 2) := by decide +kernel
theorem dX8_discard_49 : decode cX8_discard 49 = .ok (.iconst 1, 1) := by decide +kernel
theorem dX8_discard_50 : decode cX8_discard 50 = .ok (.iadd, 1) := by decide +kernel
theorem dX8_discard_51 : decode cX8_discard 51 = .ok (.iaload, 1) := by decide +kernel
theorem dX8_discard_52 : decode cX8_discard 52 = .ok (.if_icmp .ne 7, 3) := by decide +kernel
theorem dX8_discard_55 : decode cX8_discard 55 = .ok (.iconst 1, 1) := by decide +kernel
theorem dX8_discard_56 : decode cX8_discard 56 = .ok (.goto 4, 3) := by decide +kernel
theorem dX8_discard_59 : decode cX8_discard 59 = .ok (.iconst 0, 1) := by decide +kernel
theorem dX8_discard_60 : decode cX8_discard 60 = .ok (.istore 11, 2) := by decide +kernel
theorem dX8_discard_62 : decode cX8_discard 62 = .ok (.aload_n 0, 1) := by decide +kernel
theorem dX8_discard_63 : decode cX8_discard 63 = .ok (.getfield 43, 3) := by decide +kernel
theorem dX8_discard_66 : decode cX8_discard 66 = .ok (.bipush 10, 2) := by decide +kernel
theorem dX8_discard_68 : decode cX8_discard 68 = .ok (.iload 5, 2) := by decide +kernel
theorem dX8_discard_70 : decode cX8_discard 70 = .ok (.imul, 1) := by decide +kernel
theorem dX8_discard_71 : decode cX8_discard 71 = .ok (.iload 10, 2) := by decide +kernel
theorem dX8_discard_73 : decode cX8_discard 73 = .ok (.iadd, 1) := by decide +kernel
theorem dX8_discard_74 : decode cX8_discard 74 = .ok (.iaload, 1) := by decide +kernel
theorem dX8_discard_75 : decode cX8_discard 75 = .ok (.ifCond .le 7, 3) := by decide +kernel
theorem dX8_discard_78 : decode cX8_discard 78 = .ok (.iconst 1, 1) := by decide +kernel
theorem dX8_discard_79 : decode cX8_discard 79 = .ok (.goto 4, 3) := by decide +kernel
theorem dX8_discard_82 : decode cX8_discard 82 = .ok (.iconst 0, 1) := by decide +kernel
theorem dX8_discard_83 : decode cX8_discard 83 = .ok (.istore 12, 2) := by decide +kernel
theorem dX8_discard_85 : decode cX8_discard 85 = .ok (.iload 6, 2) := by decide +kernel
theorem dX8_discard_87 : decode cX8_discard 87 = .ok (.iload 11, 2) := by decide +kernel
theorem dX8_discard_89 : decode cX8_discard 89 = .ok (.ifCond .eq 10, 3) := by decide +kernel
theorem dX8_discard_92 : decode cX8_discard 92 = .ok (.iconst 1, 1) := by decide +kernel
theorem dX8_discard_93 : decode cX8_discard 93 = .ok (.iload 10, 2) := by decide +kernel
theorem dX8_discard_95 : decode cX8_discard 95 = .ok (.ishl, 1) := by decide +kernel
theorem dX8_discard_96 : decode cX8_discard 96 = .ok (.goto 4, 3) := by decide +kernel
theorem dX8_discard_99 : decode cX8_discard 99 = .ok (.iconst 0, 1) := by decide +kernel
theorem dX8_discard_100 : decode cX8_discard 100 = .ok (.ior, 1) := by decide +kernel
theorem dX8_discard_101 : decode cX8_discard 101 = .ok (.istore 6, 2) := by decide +kernel
theorem dX8_discard_103 : decode cX8_discard 103 = .ok (.iload 7, 2) := by decide +kernel
theorem dX8_discard_105 : decode cX8_discard 105 = .ok (.iload 11, 2) := by decide +kernel
theorem dX8_discard_107 : decode cX8_discard 107 = .ok (.ifCond .eq 7, 3) := by decide +kernel
theorem dX8_discard_110 : decode cX8_discard 110 = .ok (.iconst 0, 1) := by decide +kernel
theorem dX8_discard_111 : decode cX8_discard 111 = .ok (.goto 7, 3) := by decide +kernel
theorem dX8_discard_114 : decode cX8_discard 114 = .ok (.iconst 1, 1) := by decide +kernel
theorem dX8_discard_115 : decode cX8_discard 115 = .ok (.iload 10, 2) := by decide +kernel
theorem dX8_discard_117 : decode cX8_discard 117 = .ok (.ishl, 1) := by decide +kernel
theorem dX8_discard_118 : decode cX8_discard 118 = .ok (.ior, 1) := by decide +kernel
theorem dX8_discard_119 : decode cX8_discard 119 = .ok (.istore 7, 2) := by decide +kernel
theorem dX8_discard_121 : decode cX8_discard 121 = .ok (.iload 8, 2) := by decide +kernel
theorem dX8_discard_123 : decode cX8_discard 123 = .ok (.ifCond .ne 13, 3) := by decide +kernel
theorem dX8_discard_126 : decode cX8_discard 126 = .ok (.iload 11, 2) := by decide +kernel
theorem dX8_discard_128 : decode cX8_discard 128 = .ok (.ifCond .eq 12, 3) := by decide +kernel
theorem dX8_discard_131 : decode cX8_discard 131 = .ok (.iload 12, 2) := by decide +kernel
theorem dX8_discard_133 : decode cX8_discard 133 = .ok (.ifCond .eq 7, 3) := by decide +kernel
theorem dX8_discard_136 : decode cX8_discard 136 = .ok (.iconst 1, 1) := by decide +kernel
theorem dX8_discard_137 : decode cX8_discard 137 = .ok (.goto 4, 3) := by decide +kernel
theorem dX8_discard_140 : decode cX8_discard 140 = .ok (.iconst 0, 1) := by decide +kernel
theorem dX8_discard_141 : decode cX8_discard 141 = .ok (.istore 8, 2) := by decide +kernel
theorem dX8_discard_143 : decode cX8_discard 143 = .ok (.iload 9, 2) := by decide +kernel
theorem dX8_discard_145 : decode cX8_discard 145 = .ok (.ifCond .ne 13, 3) := by decide +kernel
theorem dX8_discard_148 : decode cX8_discard 148 = .ok (.iload 11, 2) := by decide +kernel
theorem dX8_discard_150 : decode cX8_discard 150 = .ok (.ifCond .ne 12, 3) := by decide +kernel
theorem dX8_discard_153 : decode cX8_discard 153 = .ok (.iload 12, 2) := by decide +kernel
theorem dX8_discard_155 : decode cX8_discard 155 = .ok (.ifCond .eq 7, 3) := by decide +kernel
theorem dX8_discard_158 : decode cX8_discard 158 = .ok (.iconst 1, 1) := by decide +kernel
theorem dX8_discard_159 : decode cX8_discard 159 = .ok (.goto 4, 3) := by decide +kernel
theorem dX8_discard_162 : decode cX8_discard 162 = .ok (.iconst 0, 1) := by decide +kernel
theorem dX8_discard_163 : decode cX8_discard 163 = .ok (.istore 9, 2) := by decide +kernel
theorem dX8_discard_165 : decode cX8_discard 165 = .ok (.iinc 10 1, 3) := by decide +kernel
theorem dX8_discard_168 : decode cX8_discard 168 = .ok (.goto (-138), 3) := by decide +kernel
theorem dX8_discard_171 : decode cX8_discard 171 = .ok (.aload_n 0, 1) := by decide +kernel
theorem dX8_discard_172 : decode cX8_discard 172 = .ok (.getfield 7, 3) := by decide +kernel
theorem dX8_discard_175 : decode cX8_discard 175 = .ok (.iload 4, 2) := by decide +kernel
theorem dX8_discard_177 : decode cX8_discard 177 = .ok (.iaload, 1) := by decide +kernel
theorem dX8_discard_178 : decode cX8_discard 178 = .ok (.iconst 3, 1) := by decide +kernel
theorem dX8_discard_179 : decode cX8_discard 179 = .ok (.if_icmp .ne 17, 3) := by decide +kernel
theorem dX8_discard_182 : decode cX8_discard 182 = .ok (.iload 8, 2) := by decide +kernel
theorem dX8_discard_184 : decode cX8_discard 184 = .ok (.ifCond .eq 8, 3) := by decide +kernel
theorem dX8_discard_187 : decode cX8_discard 187 = .ok (.iload 7, 2) := by decide +kernel
theorem dX8_discard_189 : decode cX8_discard 189 = .ok (.goto 18, 3) := by decide +kernel
theorem dX8_discard_192 : decode cX8_discard 192 = .ok (.iconst 0, 1) := by decide +kernel
theorem dX8_discard_193 : decode cX8_discard 193 = .ok (.goto 14, 3) := by decide +kernel
theorem dX8_discard_196 : decode cX8_discard 196 = .ok (.iload 9, 2) := by decide +kernel
theorem dX8_discard_198 : decode cX8_discard 198 = .ok (.ifCond .eq 8, 3) := by decide +kernel
theorem dX8_discard_201 : decode cX8_discard 201 = .ok (.iload 6, 2) := by decide +kernel
theorem dX8_discard_203 : decode cX8_discard 203 = .ok (.goto 4, 3) := by decide +kernel
theorem dX8_discard_206 : decode cX8_discard 206 = .ok (.iconst 0, 1) := by decide +kernel
theorem dX8_discard_207 : decode cX8_discard 207 = .ok (.istore 10, 2) := by decide +kernel
theorem dX8_discard_209 : decode cX8_discard 209 = .ok (.aload_n 0, 1) := by decide +kernel
theorem dX8_discard_210 : decode cX8_discard 210 = .ok (.getfield 46, 3) := by decide +kernel
theorem dX8_discard_213 : decode cX8_discard 213 = .ok (.iload 5, 2) := by decide +kernel
theorem dX8_discard_215 : decode cX8_discard 215 = .ok (.dup2, 1) := by decide +kernel
theorem dX8_discard_216 : decode cX8_discard 216 = .ok (.iaload, 1) := by decide +kernel
theorem dX8_discard_217 : decode cX8_discard 217 = .ok (.iload 10, 2) := by decide +kernel
theorem dX8_discard_219 : decode cX8_discard 219 = .ok (.ior, 1) := by decide +kernel
theorem dX8_discard_220 : decode cX8_discard 220 = .ok (.iastore, 1) := by decide +kernel
theorem dX8_discard_221 : decode cX8_discard 221 = .ok (.iload_n 2, 1) := by decide +kernel
theorem dX8_discard_222 : decode cX8_discard 222 = .ok (.istore 11, 2) := by decide +kernel
theorem dX8_discard_224 : decode cX8_discard 224 = .ok (.iload 11, 2) := by decide +kernel
theorem dX8_discard_226 : decode cX8_discard 226 = .ok (.iload_n 3, 1) := by decide +kernel
theorem dX8_discard_227 : decode cX8_discard 227 = .ok (.if_icmp .ge 49, 3) := by decide +kernel
theorem dX8_discard_230 : decode cX8_discard 230 = .ok (.aload_n 0, 1) := by decide +kernel
theorem dX8_discard_231 : decode cX8_discard 231 = .ok (.getfield 43, 3) := by decide +kernel
theorem dX8_discard_234 : decode cX8_discard 234 = .ok (.bipush 10, 2) := by decide +kernel
theorem dX8_discard_236 : decode cX8_discard 236 = .ok (.iload 5, 2) := by decide +kernel
theorem dX8_discard_238 : decode cX8_discard 238 = .ok (.imul, 1) := by decide +kernel
theorem dX8_discard_239 : decode cX8_discard 239 = .ok (.iload 11, 2) := by decide +kernel
theorem dX8_discard_241 : decode cX8_discard 241 = .ok (.iadd, 1) := by decide +kernel
theorem dX8_discard_242 : decode cX8_discard 242 = .ok (.iload 10, 2) := by decide +kernel
theorem dX8_discard_244 : decode cX8_discard 244 = .ok (.iload 11, 2) := by decide +kernel
theorem dX8_discard_246 : decode cX8_discard 246 = .ok (.invokestatic 158, 3) := by decide +kernel
theorem dX8_discard_249 : decode cX8_discard 249 = .ok (.ifCond .eq 7, 3) := by decide +kernel
theorem dX8_discard_252 : decode cX8_discard 252 = .ok (.iconst 0, 1) := by decide +kernel
theorem dX8_discard_253 : decode cX8_discard 253 = .ok (.goto 16, 3) := by decide +kernel
theorem dX8_discard_256 : decode cX8_discard 256 = .ok (.aload_n 0, 1) := by decide +kernel
theorem dX8_discard_257 : decode cX8_discard 257 = .ok (.getfield 43, 3) := by decide +kernel
theorem dX8_discard_260 : decode cX8_discard 260 = .ok (.bipush 10, 2) := by decide +kernel
theorem dX8_discard_262 : decode cX8_discard 262 = .ok (.iload 5, 2) := by decide +kernel
theorem dX8_discard_264 : decode cX8_discard 264 = .ok (.imul, 1) := by decide +kernel
theorem dX8_discard_265 : decode cX8_discard 265 = .ok (.iload 11, 2) := by decide +kernel
theorem dX8_discard_267 : decode cX8_discard 267 = .ok (.iadd, 1) := by decide +kernel
theorem dX8_discard_268 : decode cX8_discard 268 = .ok (.iaload, 1) := by decide +kernel
theorem dX8_discard_269 : decode cX8_discard 269 = .ok (.iastore, 1) := by decide +kernel
theorem dX8_discard_270 : decode cX8_discard 270 = .ok (.iinc 11 1, 3) := by decide +kernel
theorem dX8_discard_273 : decode cX8_discard 273 = .ok (.goto (-49), 3) := by decide +kernel
theorem dX8_discard_276 : decode cX8_discard 276 = .ok (.return_, 1) := by decide +kernel
theorem dX8_countSpans_0 : decode cX8_countSpans 0 = .ok (.iconst 1, 1) := by decide +kernel
theorem dX8_countSpans_1 : decode cX8_countSpans 1 = .ok (.istore_n 3, 1) := by decide +kernel
theorem dX8_countSpans_2 : decode cX8_countSpans 2 = .ok (.iload_n 3, 1) := by decide +kernel
theorem dX8_countSpans_3 : decode cX8_countSpans 3 = .ok (.aload_n 0, 1) := by decide +kernel
theorem dX8_countSpans_4 : decode cX8_countSpans 4 = .ok (.getfield 126, 3) := by decide +kernel
theorem dX8_countSpans_7 : decode cX8_countSpans 7 = .ok (.if_icmp .gt 148, 3) := by decide +kernel
theorem dX8_countSpans_10 : decode cX8_countSpans 10 = .ok (.iconst 0, 1) := by decide +kernel
theorem dX8_countSpans_11 : decode cX8_countSpans 11 = .ok (.istore 4, 2) := by decide +kernel
theorem dX8_countSpans_13 : decode cX8_countSpans 13 = .ok (.iload 4, 2) := by decide +kernel
theorem dX8_countSpans_15 : decode cX8_countSpans 15 = .ok (.iload_n 3, 1) := by decide +kernel
theorem dX8_countSpans_16 : decode cX8_countSpans 16 = .ok (.iadd, 1) := by decide +kernel
theorem dX8_countSpans_17 : decode cX8_countSpans 17 = .ok (.aload_n 0, 1) := by decide +kernel
theorem dX8_countSpans_18 : decode cX8_countSpans 18 = .ok (.getfield 126, 3) := by decide +kernel
theorem dX8_countSpans_21 : decode cX8_countSpans 21 = .ok (.if_icmp .gt 128, 3) := by decide +kernel
theorem dX8_countSpans_24 : decode cX8_countSpans 24 = .ok (.iload 4, 2) := by decide +kernel
theorem dX8_countSpans_26 : decode cX8_countSpans 26 = .ok (.iload_n 3, 1) := by decide +kernel
theorem dX8_countSpans_27 : decode cX8_countSpans 27 = .ok (.iadd, 1) := by decide +kernel
theorem dX8_countSpans_28 : decode cX8_countSpans 28 = .ok (.istore 5, 2) := by decide +kernel
theorem dX8_countSpans_30 : decode cX8_countSpans 30 = .ok (.bipush 11, 2) := by decide +kernel
theorem dX8_countSpans_32 : decode cX8_countSpans 32 = .ok (.iload 4, 2) := by decide +kernel
theorem dX8_countSpans_34 : decode cX8_countSpans 34 = .ok (.imul, 1) := by decide +kernel
theorem dX8_countSpans_35 : decode cX8_countSpans 35 = .ok (.iload 5, 2) := by decide +kernel
theorem dX8_countSpans_37 : decode cX8_countSpans 37 = .ok (.iadd, 1) := by decide +kernel
theorem dX8_countSpans_38 : decode cX8_countSpans 38 = .ok (.istore 6, 2) := by decide +kernel
theorem dX8_countSpans_40 : decode cX8_countSpans 40 = .ok (.iload 4, 2) := by decide +kernel
theorem dX8_countSpans_42 : decode cX8_countSpans 42 = .ok (.istore 7, 2) := by decide +kernel
theorem dX8_countSpans_44 : decode cX8_countSpans 44 = .ok (.iload 7, 2) := by decide +kernel
theorem dX8_countSpans_46 : decode cX8_countSpans 46 = .ok (.iload 5, 2) := by decide +kernel
theorem dX8_countSpans_48 : decode cX8_countSpans 48 = .ok (.if_icmp .ge 80, 3) := by decide +kernel
theorem dX8_countSpans_51 : decode cX8_countSpans 51 = .ok (.aload_n 0, 1) := by decide +kernel
theorem dX8_countSpans_52 : decode cX8_countSpans 52 = .ok (.getfield 46, 3) := by decide +kernel
theorem dX8_countSpans_55 : decode cX8_countSpans 55 = .ok (.iload 6, 2) := by decide +kernel
theorem dX8_countSpans_57 : decode cX8_countSpans 57 = .ok (.iaload, 1) := by decide +kernel
theorem dX8_countSpans_58 : decode cX8_countSpans 58 = .ok (.iload 7, 2) := by decide +kernel
theorem dX8_countSpans_60 : decode cX8_countSpans 60 = .ok (.invokestatic 158, 3) := by decide +kernel
theorem dX8_countSpans_63 : decode cX8_countSpans 63 = .ok (.ifCond .ne 7, 3) := by decide +kernel
theorem dX8_countSpans_66 : decode cX8_countSpans 66 = .ok (.iconst 1, 1) := by decide +kernel
theorem dX8_countSpans_67 : decode cX8_countSpans 67 = .ok (.goto 4, 3) := by decide +kernel
theorem dX8_countSpans_70 : decode cX8_countSpans 70 = .ok (.iconst 0, 1) := by decide +kernel
theorem dX8_countSpans_71 : decode cX8_countSpans 71 = .ok (.istore 8, 2) := by decide +kernel
theorem dX8_countSpans_73 : decode cX8_countSpans 73 = .ok (.aload_n 0, 1) := by decide +kernel
theorem dX8_countSpans_74 : decode cX8_countSpans 74 = .ok (.getfield 43, 3) := by decide +kernel
theorem dX8_countSpans_77 : decode cX8_countSpans 77 = .ok (.bipush 10, 2) := by decide +kernel
theorem dX8_countSpans_79 : decode cX8_countSpans 79 = .ok (.iload 6, 2) := by decide +kernel
theorem dX8_countSpans_81 : decode cX8_countSpans 81 = .ok (.imul, 1) := by decide +kernel
theorem dX8_countSpans_82 : decode cX8_countSpans 82 = .ok (.iload 7, 2) := by decide +kernel
theorem dX8_countSpans_84 : decode cX8_countSpans 84 = .ok (.iadd, 1) := by decide +kernel
theorem dX8_countSpans_85 : decode cX8_countSpans 85 = .ok (.iload 8, 2) := by decide +kernel
theorem dX8_countSpans_87 : decode cX8_countSpans 87 = .ok (.ifCond .eq 33, 3) := by decide +kernel
theorem dX8_countSpans_90 : decode cX8_countSpans 90 = .ok (.aload_n 0, 1) := by decide +kernel
theorem dX8_countSpans_91 : decode cX8_countSpans 91 = .ok (.iload_n 1, 1) := by decide +kernel
theorem dX8_countSpans_92 : decode cX8_countSpans 92 = .ok (.iload 4, 2) := by decide +kernel
theorem dX8_countSpans_94 : decode cX8_countSpans 94 = .ok (.iload 7, 2) := by decide +kernel
theorem dX8_countSpans_96 : decode cX8_countSpans 96 = .ok (.iload 7, 2) := by decide +kernel
theorem dX8_countSpans_98 : decode cX8_countSpans 98 = .ok (.iconst 0, 1) := by decide +kernel
theorem dX8_countSpans_99 : decode cX8_countSpans 99 = .ok (.invokevirtual 162, 3) := by decide +kernel
theorem dX8_countSpans_102 : decode cX8_countSpans 102 = .ok (.aload_n 0, 1) := by decide +kernel
theorem dX8_countSpans_103 : decode cX8_countSpans 103 = .ok (.iload_n 1, 1) := by decide +kernel
theorem dX8_countSpans_104 : decode cX8_countSpans 104 = .ok (.iload 7, 2) := by decide +kernel
theorem dX8_countSpans_106 : decode cX8_countSpans 106 = .ok (.iconst 1, 1) := by decide +kernel
theorem dX8_countSpans_107 : decode cX8_countSpans 107 = .ok (.iadd, 1) := by decide +kernel
theorem dX8_countSpans_108 : decode cX8_countSpans 108 = .ok (.iload 5, 2) := by decide +kernel
theorem dX8_countSpans_110 : decode cX8_countSpans 110 = .ok (.iload 7, 2) := by decide +kernel
theorem dX8_countSpans_112 : decode cX8_countSpans 112 = .ok (.iconst 1, 1) := by decide +kernel
theorem dX8_countSpans_113 : decode cX8_countSpans 113 = .ok (.invokevirtual 162, 3) := by decide +kernel
theorem dX8_countSpans_116 : decode cX8_countSpans 116 = .ok (.imul, 1) := by decide +kernel
theorem dX8_countSpans_117 : decode cX8_countSpans 117 = .ok (.goto 4, 3) := by decide +kernel
theorem dX8_countSpans_120 : decode cX8_countSpans 120 = .ok (.iconst 0, 1) := by decide +kernel
theorem dX8_countSpans_121 : decode cX8_countSpans 121 = .ok (.iastore, 1) := by decide +kernel
theorem dX8_countSpans_122 : decode cX8_countSpans 122 = .ok (.iinc 7 1, 3) := by decide +kernel
theorem dX8_countSpans_125 : decode cX8_countSpans 125 = .ok (.goto (-81), 3) := by decide +kernel
theorem dX8_countSpans_128 : decode cX8_countSpans 128 = .ok (.iload_n 2, 1) := by decide +kernel
theorem dX8_countSpans_129 : decode cX8_countSpans 129 = .ok (.bipush (-4), 2) := by decide +kernel
theorem dX8_countSpans_131 : decode cX8_countSpans 131 = .ok (.if_icmp .eq 12, 3) := by decide +kernel
theorem dX8_countSpans_134 : decode cX8_countSpans 134 = .ok (.aload_n 0, 1) := by decide +kernel
theorem dX8_countSpans_135 : decode cX8_countSpans 135 = .ok (.iload_n 2, 1) := by decide +kernel
theorem dX8_countSpans_136 : decode cX8_countSpans 136 = .ok (.iload 4, 2) := by decide +kernel
theorem dX8_countSpans_138 : decode cX8_countSpans 138 = .ok (.iload 5, 2) := by decide +kernel
theorem dX8_countSpans_140 : decode cX8_countSpans 140 = .ok (.invokevirtual 165, 3) := by decide +kernel
theorem dX8_countSpans_143 : decode cX8_countSpans 143 = .ok (.iinc 4 1, 3) := by decide +kernel
theorem dX8_countSpans_146 : decode cX8_countSpans 146 = .ok (.goto (-133), 3) := by decide +kernel
theorem dX8_countSpans_149 : decode cX8_countSpans 149 = .ok (.iinc 3 1, 3) := by decide +kernel
theorem dX8_countSpans_152 : decode cX8_countSpans 152 = .ok (.goto (-150), 3) := by decide +kernel
theorem dX8_countSpans_155 : decode cX8_countSpans 155 = .ok (.return_, 1) := by decide +kernel
theorem dX8_build_0 : decode cX8_build 0 = .ok (.iconst 0, 1) := by decide +kernel
theorem dX8_build_1 : decode cX8_build 1 = .ok (.istore_n 2, 1) := by decide +kernel
theorem dX8_build_2 : decode cX8_build 2 = .ok (.iload_n 2, 1) := by decide +kernel
theorem dX8_build_3 : decode cX8_build 3 = .ok (.bipush 121, 2) := by decide +kernel
theorem dX8_build_5 : decode cX8_build 5 = .ok (.if_icmp .ge 16, 3) := by decide +kernel
theorem dX8_build_8 : decode cX8_build 8 = .ok (.aload_n 0, 1) := by decide +kernel
theorem dX8_build_9 : decode cX8_build 9 = .ok (.getfield 46, 3) := by decide +kernel
theorem dX8_build_12 : decode cX8_build 12 = .ok (.iload_n 2, 1) := by decide +kernel
theorem dX8_build_13 : decode cX8_build 13 = .ok (.iconst 0, 1) := by decide +kernel
theorem dX8_build_14 : decode cX8_build 14 = .ok (.iastore, 1) := by decide +kernel
theorem dX8_build_15 : decode cX8_build 15 = .ok (.iinc 2 1, 3) := by decide +kernel
theorem dX8_build_18 : decode cX8_build 18 = .ok (.goto (-16), 3) := by decide +kernel
theorem dX8_build_21 : decode cX8_build 21 = .ok (.iconst 0, 1) := by decide +kernel
theorem dX8_build_22 : decode cX8_build 22 = .ok (.istore_n 2, 1) := by decide +kernel
theorem dX8_build_23 : decode cX8_build 23 = .ok (.iload_n 2, 1) := by decide +kernel
theorem dX8_build_24 : decode cX8_build 24 = .ok (.iload_n 1, 1) := by decide +kernel
theorem dX8_build_25 : decode cX8_build 25 = .ok (.if_icmp .ge 29, 3) := by decide +kernel
theorem dX8_build_28 : decode cX8_build 28 = .ok (.aload_n 0, 1) := by decide +kernel
theorem dX8_build_29 : decode cX8_build 29 = .ok (.getfield 7, 3) := by decide +kernel
theorem dX8_build_32 : decode cX8_build 32 = .ok (.iconst 1, 1) := by decide +kernel
theorem dX8_build_33 : decode cX8_build 33 = .ok (.iconst 4, 1) := by decide +kernel
theorem dX8_build_34 : decode cX8_build 34 = .ok (.iload_n 2, 1) := by decide +kernel
theorem dX8_build_35 : decode cX8_build 35 = .ok (.imul, 1) := by decide +kernel
theorem dX8_build_36 : decode cX8_build 36 = .ok (.iadd, 1) := by decide +kernel
theorem dX8_build_37 : decode cX8_build 37 = .ok (.iaload, 1) := by decide +kernel
theorem dX8_build_38 : decode cX8_build 38 = .ok (.iconst 3, 1) := by decide +kernel
theorem dX8_build_39 : decode cX8_build 39 = .ok (.if_icmp .lt 9, 3) := by decide +kernel
theorem dX8_build_42 : decode cX8_build 42 = .ok (.aload_n 0, 1) := by decide +kernel
theorem dX8_build_43 : decode cX8_build 43 = .ok (.iload_n 2, 1) := by decide +kernel
theorem dX8_build_44 : decode cX8_build 44 = .ok (.iload_n 2, 1) := by decide +kernel
theorem dX8_build_45 : decode cX8_build 45 = .ok (.invokevirtual 168, 3) := by decide +kernel
theorem dX8_build_48 : decode cX8_build 48 = .ok (.iinc 2 1, 3) := by decide +kernel
theorem dX8_build_51 : decode cX8_build 51 = .ok (.goto (-28), 3) := by decide +kernel
theorem dX8_build_54 : decode cX8_build 54 = .ok (.aload_n 0, 1) := by decide +kernel
theorem dX8_build_55 : decode cX8_build 55 = .ok (.iload_n 1, 1) := by decide +kernel
theorem dX8_build_56 : decode cX8_build 56 = .ok (.bipush (-4), 2) := by decide +kernel
theorem dX8_build_58 : decode cX8_build 58 = .ok (.invokevirtual 168, 3) := by decide +kernel
theorem dX8_build_61 : decode cX8_build 61 = .ok (.return_, 1) := by decide +kernel
theorem dX8_all_0 : decode cX8_all 0 = .ok (.aload_n 0, 1) := by decide +kernel
theorem dX8_all_1 : decode cX8_all 1 = .ok (.getfield 126, 3) := by decide +kernel
theorem dX8_all_4 : decode cX8_all 4 = .ok (.ifCond .ne 7, 3) := by decide +kernel
theorem dX8_all_7 : decode cX8_all 7 = .ok (.iconst 1, 1) := by decide +kernel
theorem dX8_all_8 : decode cX8_all 8 = .ok (.goto 4, 3) := by decide +kernel
theorem dX8_all_11 : decode cX8_all 11 = .ok (.iconst 0, 1) := by decide +kernel
theorem dX8_all_12 : decode cX8_all 12 = .ok (.istore_n 1, 1) := by decide +kernel
theorem dX8_all_13 : decode cX8_all 13 = .ok (.iconst 0, 1) := by decide +kernel
theorem dX8_all_14 : decode cX8_all 14 = .ok (.istore_n 2, 1) := by decide +kernel
theorem dX8_all_15 : decode cX8_all 15 = .ok (.iload_n 2, 1) := by decide +kernel
theorem dX8_all_16 : decode cX8_all 16 = .ok (.aload_n 0, 1) := by decide +kernel
theorem dX8_all_17 : decode cX8_all 17 = .ok (.getfield 126, 3) := by decide +kernel
theorem dX8_all_20 : decode cX8_all 20 = .ok (.if_icmp .ge 26, 3) := by decide +kernel
theorem dX8_all_23 : decode cX8_all 23 = .ok (.iload_n 1, 1) := by decide +kernel
theorem dX8_all_24 : decode cX8_all 24 = .ok (.aload_n 0, 1) := by decide +kernel
theorem dX8_all_25 : decode cX8_all 25 = .ok (.getfield 43, 3) := by decide +kernel
theorem dX8_all_28 : decode cX8_all 28 = .ok (.bipush 10, 2) := by decide +kernel
theorem dX8_all_30 : decode cX8_all 30 = .ok (.aload_n 0, 1) := by decide +kernel
theorem dX8_all_31 : decode cX8_all 31 = .ok (.getfield 126, 3) := by decide +kernel
theorem dX8_all_34 : decode cX8_all 34 = .ok (.imul, 1) := by decide +kernel
theorem dX8_all_35 : decode cX8_all 35 = .ok (.iload_n 2, 1) := by decide +kernel
theorem dX8_all_36 : decode cX8_all 36 = .ok (.iadd, 1) := by decide +kernel
theorem dX8_all_37 : decode cX8_all 37 = .ok (.iaload, 1) := by decide +kernel
theorem dX8_all_38 : decode cX8_all 38 = .ok (.iadd, 1) := by decide +kernel
theorem dX8_all_39 : decode cX8_all 39 = .ok (.istore_n 1, 1) := by decide +kernel
theorem dX8_all_40 : decode cX8_all 40 = .ok (.iinc 2 1, 3) := by decide +kernel
theorem dX8_all_43 : decode cX8_all 43 = .ok (.goto (-28), 3) := by decide +kernel
theorem dX8_all_46 : decode cX8_all 46 = .ok (.iload_n 1, 1) := by decide +kernel
theorem dX8_all_47 : decode cX8_all 47 = .ok (.ireturn, 1) := by decide +kernel
theorem dX8_isPrefix_0 : decode cX8_isPrefix 0 = .ok (.iload_n 1, 1) := by decide +kernel
theorem dX8_isPrefix_1 : decode cX8_isPrefix 1 = .ok (.iconst 0, 1) := by decide +kernel
theorem dX8_isPrefix_2 : decode cX8_isPrefix 2 = .ok (.aload_n 0, 1) := by decide +kernel
theorem dX8_isPrefix_3 : decode cX8_isPrefix 3 = .ok (.getfield 7, 3) := by decide +kernel
theorem dX8_isPrefix_6 : decode cX8_isPrefix 6 = .ok (.iconst 0, 1) := by decide +kernel
theorem dX8_isPrefix_7 : decode cX8_isPrefix 7 = .ok (.iaload, 1) := by decide +kernel
theorem dX8_isPrefix_8 : decode cX8_isPrefix 8 = .ok (.invokestatic 91, 3) := by decide +kernel
theorem dX8_isPrefix_11 : decode cX8_isPrefix 11 = .ok (.ireturn, 1) := by decide +kernel
theorem dX8_treesBy_0 : decode cX8_treesBy 0 = .ok (.aload_n 0, 1) := by decide +kernel
theorem dX8_treesBy_1 : decode cX8_treesBy 1 = .ok (.iload_n 1, 1) := by decide +kernel
theorem dX8_treesBy_2 : decode cX8_treesBy 2 = .ok (.invokevirtual 172, 3) := by decide +kernel
theorem dX8_treesBy_5 : decode cX8_treesBy 5 = .ok (.aload_n 0, 1) := by decide +kernel
theorem dX8_treesBy_6 : decode cX8_treesBy 6 = .ok (.invokevirtual 175, 3) := by decide +kernel
theorem dX8_treesBy_9 : decode cX8_treesBy 9 = .ok (.ireturn, 1) := by decide +kernel
theorem dX8_treeCount_0 : decode cX8_treeCount 0 = .ok (.aload_n 0, 1) := by decide +kernel
theorem dX8_treeCount_1 : decode cX8_treeCount 1 = .ok (.iload_n 1, 1) := by decide +kernel
theorem dX8_treeCount_2 : decode cX8_treeCount 2 = .ok (.invokevirtual 178, 3) := by decide +kernel
theorem dX8_treeCount_5 : decode cX8_treeCount 5 = .ok (.ifCond .eq 11, 3) := by decide +kernel
theorem dX8_treeCount_8 : decode cX8_treeCount 8 = .ok (.aload_n 0, 1) := by decide +kernel
theorem dX8_treeCount_9 : decode cX8_treeCount 9 = .ok (.iload_n 1, 1) := by decide +kernel
theorem dX8_treeCount_10 : decode cX8_treeCount 10 = .ok (.invokevirtual 181, 3) := by decide +kernel
theorem dX8_treeCount_13 : decode cX8_treeCount 13 = .ok (.goto 4, 3) := by decide +kernel
theorem dX8_treeCount_16 : decode cX8_treeCount 16 = .ok (.iconst (-1), 1) := by decide +kernel
theorem dX8_treeCount_17 : decode cX8_treeCount 17 = .ok (.ireturn, 1) := by decide +kernel
theorem dX8_derivations_0 : decode cX8_derivations 0 = .ok (.aload_n 0, 1) := by decide +kernel
theorem dX8_derivations_1 : decode cX8_derivations 1 = .ok (.iload_n 1, 1) := by decide +kernel
theorem dX8_derivations_2 : decode cX8_derivations 2 = .ok (.invokevirtual 178, 3) := by decide +kernel
theorem dX8_derivations_5 : decode cX8_derivations 5 = .ok (.ifCond .eq 32, 3) := by decide +kernel
theorem dX8_derivations_8 : decode cX8_derivations 8 = .ok (.iload_n 2, 1) := by decide +kernel
theorem dX8_derivations_9 : decode cX8_derivations 9 = .ok (.ifCond .lt 28, 3) := by decide +kernel
theorem dX8_derivations_12 : decode cX8_derivations 12 = .ok (.iload_n 3, 1) := by decide +kernel
theorem dX8_derivations_13 : decode cX8_derivations 13 = .ok (.aload_n 0, 1) := by decide +kernel
theorem dX8_derivations_14 : decode cX8_derivations 14 = .ok (.getfield 126, 3) := by decide +kernel
theorem dX8_derivations_17 : decode cX8_derivations 17 = .ok (.if_icmp .gt 20, 3) := by decide +kernel
theorem dX8_derivations_20 : decode cX8_derivations 20 = .ok (.iload_n 2, 1) := by decide +kernel
theorem dX8_derivations_21 : decode cX8_derivations 21 = .ok (.iload_n 3, 1) := by decide +kernel
theorem dX8_derivations_22 : decode cX8_derivations 22 = .ok (.if_icmp .ge 15, 3) := by decide +kernel
theorem dX8_derivations_25 : decode cX8_derivations 25 = .ok (.iload 4, 2) := by decide +kernel
theorem dX8_derivations_27 : decode cX8_derivations 27 = .ok (.iload_n 2, 1) := by decide +kernel
theorem dX8_derivations_28 : decode cX8_derivations 28 = .ok (.iload_n 3, 1) := by decide +kernel
theorem dX8_derivations_29 : decode cX8_derivations 29 = .ok (.iconst 1, 1) := by decide +kernel
theorem dX8_derivations_30 : decode cX8_derivations 30 = .ok (.isub, 1) := by decide +kernel
theorem dX8_derivations_31 : decode cX8_derivations 31 = .ok (.invokestatic 91, 3) := by decide +kernel
theorem dX8_derivations_34 : decode cX8_derivations 34 = .ok (.ifCond .ne 5, 3) := by decide +kernel
theorem dX8_derivations_37 : decode cX8_derivations 37 = .ok (.iconst (-1), 1) := by decide +kernel
theorem dX8_derivations_38 : decode cX8_derivations 38 = .ok (.ireturn, 1) := by decide +kernel
theorem dX8_derivations_39 : decode cX8_derivations 39 = .ok (.aload_n 0, 1) := by decide +kernel
theorem dX8_derivations_40 : decode cX8_derivations 40 = .ok (.iload_n 1, 1) := by decide +kernel
theorem dX8_derivations_41 : decode cX8_derivations 41 = .ok (.invokevirtual 172, 3) := by decide +kernel
theorem dX8_derivations_44 : decode cX8_derivations 44 = .ok (.aload_n 0, 1) := by decide +kernel
theorem dX8_derivations_45 : decode cX8_derivations 45 = .ok (.getfield 43, 3) := by decide +kernel
theorem dX8_derivations_48 : decode cX8_derivations 48 = .ok (.bipush 10, 2) := by decide +kernel
theorem dX8_derivations_50 : decode cX8_derivations 50 = .ok (.bipush 11, 2) := by decide +kernel
theorem dX8_derivations_52 : decode cX8_derivations 52 = .ok (.iload_n 2, 1) := by decide +kernel
theorem dX8_derivations_53 : decode cX8_derivations 53 = .ok (.imul, 1) := by decide +kernel
theorem dX8_derivations_54 : decode cX8_derivations 54 = .ok (.iload_n 3, 1) := by decide +kernel
theorem dX8_derivations_55 : decode cX8_derivations 55 = .ok (.iadd, 1) := by decide +kernel
theorem dX8_derivations_56 : decode cX8_derivations 56 = .ok (.imul, 1) := by decide +kernel
theorem dX8_derivations_57 : decode cX8_derivations 57 = .ok (.iload 4, 2) := by decide +kernel
theorem dX8_derivations_59 : decode cX8_derivations 59 = .ok (.iadd, 1) := by decide +kernel
theorem dX8_derivations_60 : decode cX8_derivations 60 = .ok (.iaload, 1) := by decide +kernel
theorem dX8_derivations_61 : decode cX8_derivations 61 = .ok (.ireturn, 1) := by decide +kernel
theorem dX8_orderMatters_0 : decode cX8_orderMatters 0 = .ok (.aload_n 0, 1) := by decide +kernel
theorem dX8_orderMatters_1 : decode cX8_orderMatters 1 = .ok (.iload_n 1, 1) := by decide +kernel
theorem dX8_orderMatters_2 : decode cX8_orderMatters 2 = .ok (.invokevirtual 142, 3) := by decide +kernel
theorem dX8_orderMatters_5 : decode cX8_orderMatters 5 = .ok (.ifCond .ne 5, 3) := by decide +kernel
theorem dX8_orderMatters_8 : decode cX8_orderMatters 8 = .ok (.iconst (-1), 1) := by decide +kernel
theorem dX8_orderMatters_9 : decode cX8_orderMatters 9 = .ok (.ireturn, 1) := by decide +kernel
theorem dX8_orderMatters_10 : decode cX8_orderMatters 10 = .ok (.iload_n 1, 1) := by decide +kernel
theorem dX8_orderMatters_11 : decode cX8_orderMatters 11 = .ok (.aload_n 0, 1) := by decide +kernel
theorem dX8_orderMatters_12 : decode cX8_orderMatters 12 = .ok (.getfield 7, 3) := by decide +kernel
theorem dX8_orderMatters_15 : decode cX8_orderMatters 15 = .ok (.iconst 0, 1) := by decide +kernel
theorem dX8_orderMatters_16 : decode cX8_orderMatters 16 = .ok (.iaload, 1) := by decide +kernel
theorem dX8_orderMatters_17 : decode cX8_orderMatters 17 = .ok (.iconst 1, 1) := by decide +kernel
theorem dX8_orderMatters_18 : decode cX8_orderMatters 18 = .ok (.isub, 1) := by decide +kernel
theorem dX8_orderMatters_19 : decode cX8_orderMatters 19 = .ok (.if_icmp .ne 6, 3) := by decide +kernel
theorem dX8_orderMatters_22 : decode cX8_orderMatters 22 = .ok (.bipush (-2), 2) := by decide +kernel
theorem dX8_orderMatters_24 : decode cX8_orderMatters 24 = .ok (.ireturn, 1) := by decide +kernel
theorem dX8_orderMatters_25 : decode cX8_orderMatters 25 = .ok (.aload_n 0, 1) := by decide +kernel
theorem dX8_orderMatters_26 : decode cX8_orderMatters 26 = .ok (.aload_n 0, 1) := by decide +kernel
theorem dX8_orderMatters_27 : decode cX8_orderMatters 27 = .ok (.getfield 7, 3) := by decide +kernel
theorem dX8_orderMatters_30 : decode cX8_orderMatters 30 = .ok (.iconst 0, 1) := by decide +kernel
theorem dX8_orderMatters_31 : decode cX8_orderMatters 31 = .ok (.iaload, 1) := by decide +kernel
theorem dX8_orderMatters_32 : decode cX8_orderMatters 32 = .ok (.invokevirtual 181, 3) := by decide +kernel
theorem dX8_orderMatters_35 : decode cX8_orderMatters 35 = .ok (.istore_n 2, 1) := by decide +kernel
theorem dX8_orderMatters_36 : decode cX8_orderMatters 36 = .ok (.aload_n 0, 1) := by decide +kernel
theorem dX8_orderMatters_37 : decode cX8_orderMatters 37 = .ok (.iload_n 1, 1) := by decide +kernel
theorem dX8_orderMatters_38 : decode cX8_orderMatters 38 = .ok (.invokevirtual 145, 3) := by decide +kernel
theorem dX8_orderMatters_41 : decode cX8_orderMatters 41 = .ok (.aload_n 0, 1) := by decide +kernel
theorem dX8_orderMatters_42 : decode cX8_orderMatters 42 = .ok (.aload_n 0, 1) := by decide +kernel
theorem dX8_orderMatters_43 : decode cX8_orderMatters 43 = .ok (.getfield 7, 3) := by decide +kernel
theorem dX8_orderMatters_46 : decode cX8_orderMatters 46 = .ok (.iconst 0, 1) := by decide +kernel
theorem dX8_orderMatters_47 : decode cX8_orderMatters 47 = .ok (.iaload, 1) := by decide +kernel
theorem dX8_orderMatters_48 : decode cX8_orderMatters 48 = .ok (.invokevirtual 181, 3) := by decide +kernel
theorem dX8_orderMatters_51 : decode cX8_orderMatters 51 = .ok (.istore_n 3, 1) := by decide +kernel
theorem dX8_orderMatters_52 : decode cX8_orderMatters 52 = .ok (.aload_n 0, 1) := by decide +kernel
theorem dX8_orderMatters_53 : decode cX8_orderMatters 53 = .ok (.iload_n 1, 1) := by decide +kernel
theorem dX8_orderMatters_54 : decode cX8_orderMatters 54 = .ok (.invokevirtual 145, 3) := by decide +kernel
theorem dX8_orderMatters_57 : decode cX8_orderMatters 57 = .ok (.iload_n 2, 1) := by decide +kernel
theorem dX8_orderMatters_58 : decode cX8_orderMatters 58 = .ok (.iload_n 3, 1) := by decide +kernel
theorem dX8_orderMatters_59 : decode cX8_orderMatters 59 = .ok (.if_icmp .ne 7, 3) := by decide +kernel
theorem dX8_orderMatters_62 : decode cX8_orderMatters 62 = .ok (.iconst 0, 1) := by decide +kernel
theorem dX8_orderMatters_63 : decode cX8_orderMatters 63 = .ok (.goto 4, 3) := by decide +kernel
theorem dX8_orderMatters_66 : decode cX8_orderMatters 66 = .ok (.iconst 1, 1) := by decide +kernel
theorem dX8_orderMatters_67 : decode cX8_orderMatters 67 = .ok (.ireturn, 1) := by decide +kernel
theorem dX8_mayStand_0 : decode cX8_mayStand 0 = .ok (.iload_n 3, 1) := by decide +kernel
theorem dX8_mayStand_1 : decode cX8_mayStand 1 = .ok (.bipush (-4), 2) := by decide +kernel
theorem dX8_mayStand_3 : decode cX8_mayStand 3 = .ok (.if_icmp .eq 23, 3) := by decide +kernel
theorem dX8_mayStand_6 : decode cX8_mayStand 6 = .ok (.aload_n 0, 1) := by decide +kernel
theorem dX8_mayStand_7 : decode cX8_mayStand 7 = .ok (.iload_n 1, 1) := by decide +kernel
theorem dX8_mayStand_8 : decode cX8_mayStand 8 = .ok (.iload_n 3, 1) := by decide +kernel
theorem dX8_mayStand_9 : decode cX8_mayStand 9 = .ok (.ifCond .ge 7, 3) := by decide +kernel
theorem dX8_mayStand_12 : decode cX8_mayStand 12 = .ok (.iconst 0, 1) := by decide +kernel
theorem dX8_mayStand_13 : decode cX8_mayStand 13 = .ok (.goto 4, 3) := by decide +kernel
theorem dX8_mayStand_16 : decode cX8_mayStand 16 = .ok (.iload_n 3, 1) := by decide +kernel
theorem dX8_mayStand_17 : decode cX8_mayStand 17 = .ok (.iload_n 2, 1) := by decide +kernel
theorem dX8_mayStand_18 : decode cX8_mayStand 18 = .ok (.iload 4, 2) := by decide +kernel
theorem dX8_mayStand_20 : decode cX8_mayStand 20 = .ok (.invokevirtual 155, 3) := by decide +kernel
theorem dX8_mayStand_23 : decode cX8_mayStand 23 = .ok (.ifCond .ne 7, 3) := by decide +kernel
theorem dX8_mayStand_26 : decode cX8_mayStand 26 = .ok (.iconst 1, 1) := by decide +kernel
theorem dX8_mayStand_27 : decode cX8_mayStand 27 = .ok (.goto 4, 3) := by decide +kernel
theorem dX8_mayStand_30 : decode cX8_mayStand 30 = .ok (.iconst 0, 1) := by decide +kernel
theorem dX8_mayStand_31 : decode cX8_mayStand 31 = .ok (.ireturn, 1) := by decide +kernel
theorem dX8_unrank_0 : decode cX8_unrank 0 = .ok (.iconst 0, 1) := by decide +kernel
theorem dX8_unrank_1 : decode cX8_unrank 1 = .ok (.istore_n 3, 1) := by decide +kernel
theorem dX8_unrank_2 : decode cX8_unrank 2 = .ok (.iconst 0, 1) := by decide +kernel
theorem dX8_unrank_3 : decode cX8_unrank 3 = .ok (.istore 4, 2) := by decide +kernel
theorem dX8_unrank_5 : decode cX8_unrank 5 = .ok (.aload_n 0, 1) := by decide +kernel
theorem dX8_unrank_6 : decode cX8_unrank 6 = .ok (.getfield 64, 3) := by decide +kernel
theorem dX8_unrank_9 : decode cX8_unrank 9 = .ok (.iconst 0, 1) := by decide +kernel
theorem dX8_unrank_10 : decode cX8_unrank 10 = .ok (.iconst 0, 1) := by decide +kernel
theorem dX8_unrank_11 : decode cX8_unrank 11 = .ok (.iastore, 1) := by decide +kernel
theorem dX8_unrank_12 : decode cX8_unrank 12 = .ok (.aload_n 0, 1) := by decide +kernel
theorem dX8_unrank_13 : decode cX8_unrank 13 = .ok (.getfield 64, 3) := by decide +kernel
theorem dX8_unrank_16 : decode cX8_unrank 16 = .ok (.iconst 1, 1) := by decide +kernel
theorem dX8_unrank_17 : decode cX8_unrank 17 = .ok (.aload_n 0, 1) := by decide +kernel
theorem dX8_unrank_18 : decode cX8_unrank 18 = .ok (.getfield 126, 3) := by decide +kernel
theorem dX8_unrank_21 : decode cX8_unrank 21 = .ok (.iastore, 1) := by decide +kernel
theorem dX8_unrank_22 : decode cX8_unrank 22 = .ok (.aload_n 0, 1) := by decide +kernel
theorem dX8_unrank_23 : decode cX8_unrank 23 = .ok (.getfield 64, 3) := by decide +kernel
theorem dX8_unrank_26 : decode cX8_unrank 26 = .ok (.iconst 2, 1) := by decide +kernel
theorem dX8_unrank_27 : decode cX8_unrank 27 = .ok (.iload_n 2, 1) := by decide +kernel
theorem dX8_unrank_28 : decode cX8_unrank 28 = .ok (.iastore, 1) := by decide +kernel
theorem dX8_unrank_29 : decode cX8_unrank 29 = .ok (.aload_n 0, 1) := by decide +kernel
theorem dX8_unrank_30 : decode cX8_unrank 30 = .ok (.getfield 64, 3) := by decide +kernel
theorem dX8_unrank_33 : decode cX8_unrank 33 = .ok (.iconst 3, 1) := by decide +kernel
theorem dX8_unrank_34 : decode cX8_unrank 34 = .ok (.bipush (-4), 2) := by decide +kernel
theorem dX8_unrank_36 : decode cX8_unrank 36 = .ok (.iastore, 1) := by decide +kernel
theorem dX8_unrank_37 : decode cX8_unrank 37 = .ok (.aload_n 0, 1) := by decide +kernel
theorem dX8_unrank_38 : decode cX8_unrank 38 = .ok (.getfield 64, 3) := by decide +kernel
theorem dX8_unrank_41 : decode cX8_unrank 41 = .ok (.iconst 4, 1) := by decide +kernel
theorem dX8_unrank_42 : decode cX8_unrank 42 = .ok (.iconst 0, 1) := by decide +kernel
theorem dX8_unrank_43 : decode cX8_unrank 43 = .ok (.iastore, 1) := by decide +kernel
theorem dX8_unrank_44 : decode cX8_unrank 44 = .ok (.aload_n 0, 1) := by decide +kernel
theorem dX8_unrank_45 : decode cX8_unrank 45 = .ok (.getfield 126, 3) := by decide +kernel
theorem dX8_unrank_48 : decode cX8_unrank 48 = .ok (.ifCond .le 7, 3) := by decide +kernel
theorem dX8_unrank_51 : decode cX8_unrank 51 = .ok (.iconst 1, 1) := by decide +kernel
theorem dX8_unrank_52 : decode cX8_unrank 52 = .ok (.goto 4, 3) := by decide +kernel
theorem dX8_unrank_55 : decode cX8_unrank 55 = .ok (.iconst 0, 1) := by decide +kernel
theorem dX8_unrank_56 : decode cX8_unrank 56 = .ok (.istore 4, 2) := by decide +kernel
theorem dX8_unrank_58 : decode cX8_unrank 58 = .ok (.iload 4, 2) := by decide +kernel
theorem dX8_unrank_60 : decode cX8_unrank 60 = .ok (.ifCond .le 391, 3) := by decide +kernel
theorem dX8_unrank_63 : decode cX8_unrank 63 = .ok (.iinc 4 (-1), 3) := by decide +kernel
theorem dX8_unrank_66 : decode cX8_unrank 66 = .ok (.aload_n 0, 1) := by decide +kernel
theorem dX8_unrank_67 : decode cX8_unrank 67 = .ok (.getfield 64, 3) := by decide +kernel
theorem dX8_unrank_70 : decode cX8_unrank 70 = .ok (.iconst 5, 1) := by decide +kernel
theorem dX8_unrank_71 : decode cX8_unrank 71 = .ok (.iload 4, 2) := by decide +kernel
theorem dX8_unrank_73 : decode cX8_unrank 73 = .ok (.imul, 1) := by decide +kernel
theorem dX8_unrank_74 : decode cX8_unrank 74 = .ok (.iaload, 1) := by decide +kernel
theorem dX8_unrank_75 : decode cX8_unrank 75 = .ok (.istore 5, 2) := by decide +kernel
theorem dX8_unrank_77 : decode cX8_unrank 77 = .ok (.aload_n 0, 1) := by decide +kernel
theorem dX8_unrank_78 : decode cX8_unrank 78 = .ok (.getfield 64, 3) := by decide +kernel
theorem dX8_unrank_81 : decode cX8_unrank 81 = .ok (.iconst 5, 1) := by decide +kernel
theorem dX8_unrank_82 : decode cX8_unrank 82 = .ok (.iload 4, 2) := by decide +kernel
theorem dX8_unrank_84 : decode cX8_unrank 84 = .ok (.imul, 1) := by decide +kernel
theorem dX8_unrank_85 : decode cX8_unrank 85 = .ok (.iconst 1, 1) := by decide +kernel
theorem dX8_unrank_86 : decode cX8_unrank 86 = .ok (.iadd, 1) := by decide +kernel
theorem dX8_unrank_87 : decode cX8_unrank 87 = .ok (.iaload, 1) := by decide +kernel
theorem dX8_unrank_88 : decode cX8_unrank 88 = .ok (.istore 6, 2) := by decide +kernel
theorem dX8_unrank_90 : decode cX8_unrank 90 = .ok (.aload_n 0, 1) := by decide +kernel
theorem dX8_unrank_91 : decode cX8_unrank 91 = .ok (.getfield 64, 3) := by decide +kernel
theorem dX8_unrank_94 : decode cX8_unrank 94 = .ok (.iconst 5, 1) := by decide +kernel
theorem dX8_unrank_95 : decode cX8_unrank 95 = .ok (.iload 4, 2) := by decide +kernel
theorem dX8_unrank_97 : decode cX8_unrank 97 = .ok (.imul, 1) := by decide +kernel
theorem dX8_unrank_98 : decode cX8_unrank 98 = .ok (.iconst 2, 1) := by decide +kernel
theorem dX8_unrank_99 : decode cX8_unrank 99 = .ok (.iadd, 1) := by decide +kernel
theorem dX8_unrank_100 : decode cX8_unrank 100 = .ok (.iaload, 1) := by decide +kernel
theorem dX8_unrank_101 : decode cX8_unrank 101 = .ok (.istore 7, 2) := by decide +kernel
theorem dX8_unrank_103 : decode cX8_unrank 103 = .ok (.aload_n 0, 1) := by decide +kernel
theorem dX8_unrank_104 : decode cX8_unrank 104 = .ok (.getfield 64, 3) := by decide +kernel
theorem dX8_unrank_107 : decode cX8_unrank 107 = .ok (.iconst 5, 1) := by decide +kernel
theorem dX8_unrank_108 : decode cX8_unrank 108 = .ok (.iload 4, 2) := by decide +kernel
theorem dX8_unrank_110 : decode cX8_unrank 110 = .ok (.imul, 1) := by decide +kernel
theorem dX8_unrank_111 : decode cX8_unrank 111 = .ok (.iconst 3, 1) := by decide +kernel
theorem dX8_unrank_112 : decode cX8_unrank 112 = .ok (.iadd, 1) := by decide +kernel
theorem dX8_unrank_113 : decode cX8_unrank 113 = .ok (.iaload, 1) := by decide +kernel
theorem dX8_unrank_114 : decode cX8_unrank 114 = .ok (.istore 8, 2) := by decide +kernel
theorem dX8_unrank_116 : decode cX8_unrank 116 = .ok (.aload_n 0, 1) := by decide +kernel
theorem dX8_unrank_117 : decode cX8_unrank 117 = .ok (.getfield 64, 3) := by decide +kernel
theorem dX8_unrank_120 : decode cX8_unrank 120 = .ok (.iconst 5, 1) := by decide +kernel
theorem dX8_unrank_121 : decode cX8_unrank 121 = .ok (.iload 4, 2) := by decide +kernel
theorem dX8_unrank_123 : decode cX8_unrank 123 = .ok (.imul, 1) := by decide +kernel
theorem dX8_unrank_124 : decode cX8_unrank 124 = .ok (.iconst 4, 1) := by decide +kernel
theorem dX8_unrank_125 : decode cX8_unrank 125 = .ok (.iadd, 1) := by decide +kernel
theorem dX8_unrank_126 : decode cX8_unrank 126 = .ok (.iaload, 1) := by decide +kernel
theorem dX8_unrank_127 : decode cX8_unrank 127 = .ok (.istore 9, 2) := by decide +kernel
theorem dX8_unrank_129 : decode cX8_unrank 129 = .ok (.iload 5, 2) := by decide +kernel
theorem dX8_unrank_131 : decode cX8_unrank 131 = .ok (.istore 10, 2) := by decide +kernel
theorem dX8_unrank_133 : decode cX8_unrank 133 = .ok (.aload_n 0, 1) := by decide +kernel
theorem dX8_unrank_134 : decode cX8_unrank 134 = .ok (.iload_n 1, 1) := by decide +kernel
theorem dX8_unrank_135 : decode cX8_unrank 135 = .ok (.iload 10, 2) := by decide +kernel
theorem dX8_unrank_137 : decode cX8_unrank 137 = .ok (.iload 8, 2) := by decide +kernel
theorem dX8_unrank_139 : decode cX8_unrank 139 = .ok (.iload 9, 2) := by decide +kernel
theorem dX8_unrank_141 : decode cX8_unrank 141 = .ok (.invokevirtual 184, 3) := by decide +kernel
theorem dX8_unrank_144 : decode cX8_unrank 144 = .ok (.ifCond .eq 25, 3) := by decide +kernel
theorem dX8_unrank_147 : decode cX8_unrank 147 = .ok (.aload_n 0, 1) := by decide +kernel
theorem dX8_unrank_148 : decode cX8_unrank 148 = .ok (.getfield 43, 3) := by decide +kernel
theorem dX8_unrank_151 : decode cX8_unrank 151 = .ok (.bipush 10, 2) := by decide +kernel
theorem dX8_unrank_153 : decode cX8_unrank 153 = .ok (.bipush 11, 2) := by decide +kernel
theorem dX8_unrank_155 : decode cX8_unrank 155 = .ok (.iload 5, 2) := by decide +kernel
theorem dX8_unrank_157 : decode cX8_unrank 157 = .ok (.imul, 1) := by decide +kernel
theorem dX8_unrank_158 : decode cX8_unrank 158 = .ok (.iload 6, 2) := by decide +kernel
theorem dX8_unrank_160 : decode cX8_unrank 160 = .ok (.iadd, 1) := by decide +kernel
theorem dX8_unrank_161 : decode cX8_unrank 161 = .ok (.imul, 1) := by decide +kernel
theorem dX8_unrank_162 : decode cX8_unrank 162 = .ok (.iload 10, 2) := by decide +kernel
theorem dX8_unrank_164 : decode cX8_unrank 164 = .ok (.iadd, 1) := by decide +kernel
theorem dX8_unrank_165 : decode cX8_unrank 165 = .ok (.iaload, 1) := by decide +kernel
theorem dX8_unrank_166 : decode cX8_unrank 166 = .ok (.goto 4, 3) := by decide +kernel
theorem dX8_unrank_169 : decode cX8_unrank 169 = .ok (.iconst 0, 1) := by decide +kernel
theorem dX8_unrank_170 : decode cX8_unrank 170 = .ok (.istore 11, 2) := by decide +kernel
theorem dX8_unrank_172 : decode cX8_unrank 172 = .ok (.iload 7, 2) := by decide +kernel
theorem dX8_unrank_174 : decode cX8_unrank 174 = .ok (.iload 11, 2) := by decide +kernel
theorem dX8_unrank_176 : decode cX8_unrank 176 = .ok (.if_icmp .lt 55, 3) := by decide +kernel
theorem dX8_unrank_179 : decode cX8_unrank 179 = .ok (.iload 7, 2) := by decide +kernel
theorem dX8_unrank_181 : decode cX8_unrank 181 = .ok (.iload 11, 2) := by decide +kernel
theorem dX8_unrank_183 : decode cX8_unrank 183 = .ok (.isub, 1) := by decide +kernel
theorem dX8_unrank_184 : decode cX8_unrank 184 = .ok (.istore 7, 2) := by decide +kernel
theorem dX8_unrank_186 : decode cX8_unrank 186 = .ok (.iinc 10 1, 3) := by decide +kernel
theorem dX8_unrank_189 : decode cX8_unrank 189 = .ok (.aload_n 0, 1) := by decide +kernel
theorem dX8_unrank_190 : decode cX8_unrank 190 = .ok (.iload_n 1, 1) := by decide +kernel
theorem dX8_unrank_191 : decode cX8_unrank 191 = .ok (.iload 10, 2) := by decide +kernel
theorem dX8_unrank_193 : decode cX8_unrank 193 = .ok (.iload 8, 2) := by decide +kernel
theorem dX8_unrank_195 : decode cX8_unrank 195 = .ok (.iload 9, 2) := by decide +kernel
theorem dX8_unrank_197 : decode cX8_unrank 197 = .ok (.invokevirtual 184, 3) := by decide +kernel
theorem dX8_unrank_200 : decode cX8_unrank 200 = .ok (.ifCond .eq 25, 3) := by decide +kernel
theorem dX8_unrank_203 : decode cX8_unrank 203 = .ok (.aload_n 0, 1) := by decide +kernel
theorem dX8_unrank_204 : decode cX8_unrank 204 = .ok (.getfield 43, 3) := by decide +kernel
theorem dX8_unrank_207 : decode cX8_unrank 207 = .ok (.bipush 10, 2) := by decide +kernel
theorem dX8_unrank_209 : decode cX8_unrank 209 = .ok (.bipush 11, 2) := by decide +kernel
theorem dX8_unrank_211 : decode cX8_unrank 211 = .ok (.iload 5, 2) := by decide +kernel
theorem dX8_unrank_213 : decode cX8_unrank 213 = .ok (.imul, 1) := by decide +kernel
theorem dX8_unrank_214 : decode cX8_unrank 214 = .ok (.iload 6, 2) := by decide +kernel
theorem dX8_unrank_216 : decode cX8_unrank 216 = .ok (.iadd, 1) := by decide +kernel
theorem dX8_unrank_217 : decode cX8_unrank 217 = .ok (.imul, 1) := by decide +kernel
theorem dX8_unrank_218 : decode cX8_unrank 218 = .ok (.iload 10, 2) := by decide +kernel
theorem dX8_unrank_220 : decode cX8_unrank 220 = .ok (.iadd, 1) := by decide +kernel
theorem dX8_unrank_221 : decode cX8_unrank 221 = .ok (.iaload, 1) := by decide +kernel
theorem dX8_unrank_222 : decode cX8_unrank 222 = .ok (.goto 4, 3) := by decide +kernel
theorem dX8_unrank_225 : decode cX8_unrank 225 = .ok (.iconst 0, 1) := by decide +kernel
theorem dX8_unrank_226 : decode cX8_unrank 226 = .ok (.istore 11, 2) := by decide +kernel
theorem dX8_unrank_228 : decode cX8_unrank 228 = .ok (.goto (-56), 3) := by decide +kernel
theorem dX8_unrank_231 : decode cX8_unrank 231 = .ok (.aload_n 0, 1) := by decide +kernel
theorem dX8_unrank_232 : decode cX8_unrank 232 = .ok (.getfield 49, 3) := by decide +kernel
theorem dX8_unrank_235 : decode cX8_unrank 235 = .ok (.iload_n 3, 1) := by decide +kernel
theorem dX8_unrank_236 : decode cX8_unrank 236 = .ok (.iload 10, 2) := by decide +kernel
theorem dX8_unrank_238 : decode cX8_unrank 238 = .ok (.iastore, 1) := by decide +kernel
theorem dX8_unrank_239 : decode cX8_unrank 239 = .ok (.iinc 3 1, 3) := by decide +kernel
theorem dX8_unrank_242 : decode cX8_unrank 242 = .ok (.aload_n 0, 1) := by decide +kernel
theorem dX8_unrank_243 : decode cX8_unrank 243 = .ok (.getfield 52, 3) := by decide +kernel
theorem dX8_unrank_246 : decode cX8_unrank 246 = .ok (.iload 10, 2) := by decide +kernel
theorem dX8_unrank_248 : decode cX8_unrank 248 = .ok (.iload 5, 2) := by decide +kernel
theorem dX8_unrank_250 : decode cX8_unrank 250 = .ok (.iastore, 1) := by decide +kernel
theorem dX8_unrank_251 : decode cX8_unrank 251 = .ok (.aload_n 0, 1) := by decide +kernel
theorem dX8_unrank_252 : decode cX8_unrank 252 = .ok (.getfield 55, 3) := by decide +kernel
theorem dX8_unrank_255 : decode cX8_unrank 255 = .ok (.iload 10, 2) := by decide +kernel
theorem dX8_unrank_257 : decode cX8_unrank 257 = .ok (.iload 6, 2) := by decide +kernel
theorem dX8_unrank_259 : decode cX8_unrank 259 = .ok (.iastore, 1) := by decide +kernel
theorem dX8_unrank_260 : decode cX8_unrank 260 = .ok (.aload_n 0, 1) := by decide +kernel
theorem dX8_unrank_261 : decode cX8_unrank 261 = .ok (.getfield 58, 3) := by decide +kernel
theorem dX8_unrank_264 : decode cX8_unrank 264 = .ok (.iload 10, 2) := by decide +kernel
theorem dX8_unrank_266 : decode cX8_unrank 266 = .ok (.iload 8, 2) := by decide +kernel
theorem dX8_unrank_268 : decode cX8_unrank 268 = .ok (.iastore, 1) := by decide +kernel
theorem dX8_unrank_269 : decode cX8_unrank 269 = .ok (.aload_n 0, 1) := by decide +kernel
theorem dX8_unrank_270 : decode cX8_unrank 270 = .ok (.getfield 61, 3) := by decide +kernel
theorem dX8_unrank_273 : decode cX8_unrank 273 = .ok (.iload 10, 2) := by decide +kernel
theorem dX8_unrank_275 : decode cX8_unrank 275 = .ok (.iload 9, 2) := by decide +kernel
theorem dX8_unrank_277 : decode cX8_unrank 277 = .ok (.iastore, 1) := by decide +kernel
theorem dX8_unrank_278 : decode cX8_unrank 278 = .ok (.aload_n 0, 1) := by decide +kernel
theorem dX8_unrank_279 : decode cX8_unrank 279 = .ok (.iload_n 1, 1) := by decide +kernel
theorem dX8_unrank_280 : decode cX8_unrank 280 = .ok (.iload 10, 2) := by decide +kernel
theorem dX8_unrank_282 : decode cX8_unrank 282 = .ok (.iconst 1, 1) := by decide +kernel
theorem dX8_unrank_283 : decode cX8_unrank 283 = .ok (.iadd, 1) := by decide +kernel
theorem dX8_unrank_284 : decode cX8_unrank 284 = .ok (.iload 6, 2) := by decide +kernel
theorem dX8_unrank_286 : decode cX8_unrank 286 = .ok (.iload 10, 2) := by decide +kernel
theorem dX8_unrank_288 : decode cX8_unrank 288 = .ok (.iconst 1, 1) := by decide +kernel
theorem dX8_unrank_289 : decode cX8_unrank 289 = .ok (.invokevirtual 162, 3) := by decide +kernel
theorem dX8_unrank_292 : decode cX8_unrank 292 = .ok (.istore 12, 2) := by decide +kernel
theorem dX8_unrank_294 : decode cX8_unrank 294 = .ok (.iload 10, 2) := by decide +kernel
theorem dX8_unrank_296 : decode cX8_unrank 296 = .ok (.iconst 1, 1) := by decide +kernel
theorem dX8_unrank_297 : decode cX8_unrank 297 = .ok (.iadd, 1) := by decide +kernel
theorem dX8_unrank_298 : decode cX8_unrank 298 = .ok (.iload 6, 2) := by decide +kernel
theorem dX8_unrank_300 : decode cX8_unrank 300 = .ok (.if_icmp .ge 73, 3) := by decide +kernel
theorem dX8_unrank_303 : decode cX8_unrank 303 = .ok (.aload_n 0, 1) := by decide +kernel
theorem dX8_unrank_304 : decode cX8_unrank 304 = .ok (.getfield 64, 3) := by decide +kernel
theorem dX8_unrank_307 : decode cX8_unrank 307 = .ok (.iconst 5, 1) := by decide +kernel
theorem dX8_unrank_308 : decode cX8_unrank 308 = .ok (.iload 4, 2) := by decide +kernel
theorem dX8_unrank_310 : decode cX8_unrank 310 = .ok (.imul, 1) := by decide +kernel
theorem dX8_unrank_311 : decode cX8_unrank 311 = .ok (.iload 10, 2) := by decide +kernel
theorem dX8_unrank_313 : decode cX8_unrank 313 = .ok (.iconst 1, 1) := by decide +kernel
theorem dX8_unrank_314 : decode cX8_unrank 314 = .ok (.iadd, 1) := by decide +kernel
theorem dX8_unrank_315 : decode cX8_unrank 315 = .ok (.iastore, 1) := by decide +kernel
theorem dX8_unrank_316 : decode cX8_unrank 316 = .ok (.aload_n 0, 1) := by decide +kernel
theorem dX8_unrank_317 : decode cX8_unrank 317 = .ok (.getfield 64, 3) := by decide +kernel
theorem dX8_unrank_320 : decode cX8_unrank 320 = .ok (.iconst 5, 1) := by decide +kernel
theorem dX8_unrank_321 : decode cX8_unrank 321 = .ok (.iload 4, 2) := by decide +kernel
theorem dX8_unrank_323 : decode cX8_unrank 323 = .ok (.imul, 1) := by decide +kernel
theorem dX8_unrank_324 : decode cX8_unrank 324 = .ok (.iconst 1, 1) := by decide +kernel
theorem dX8_unrank_325 : decode cX8_unrank 325 = .ok (.iadd, 1) := by decide +kernel
theorem dX8_unrank_326 : decode cX8_unrank 326 = .ok (.iload 6, 2) := by decide +kernel
theorem dX8_unrank_328 : decode cX8_unrank 328 = .ok (.iastore, 1) := by decide +kernel
theorem dX8_unrank_329 : decode cX8_unrank 329 = .ok (.aload_n 0, 1) := by decide +kernel
theorem dX8_unrank_330 : decode cX8_unrank 330 = .ok (.getfield 64, 3) := by decide +kernel
theorem dX8_unrank_333 : decode cX8_unrank 333 = .ok (.iconst 5, 1) := by decide +kernel
theorem dX8_unrank_334 : decode cX8_unrank 334 = .ok (.iload 4, 2) := by decide +kernel
theorem dX8_unrank_336 : decode cX8_unrank 336 = .ok (.imul, 1) := by decide +kernel
theorem dX8_unrank_337 : decode cX8_unrank 337 = .ok (.iconst 2, 1) := by decide +kernel
theorem dX8_unrank_338 : decode cX8_unrank 338 = .ok (.iadd, 1) := by decide +kernel
theorem dX8_unrank_339 : decode cX8_unrank 339 = .ok (.iload 7, 2) := by decide +kernel
theorem dX8_unrank_341 : decode cX8_unrank 341 = .ok (.iload 12, 2) := by decide +kernel
theorem dX8_unrank_343 : decode cX8_unrank 343 = .ok (.irem, 1) := by decide +kernel
theorem dX8_unrank_344 : decode cX8_unrank 344 = .ok (.iastore, 1) := by decide +kernel
theorem dX8_unrank_345 : decode cX8_unrank 345 = .ok (.aload_n 0, 1) := by decide +kernel
theorem dX8_unrank_346 : decode cX8_unrank 346 = .ok (.getfield 64, 3) := by decide +kernel
theorem dX8_unrank_349 : decode cX8_unrank 349 = .ok (.iconst 5, 1) := by decide +kernel
theorem dX8_unrank_350 : decode cX8_unrank 350 = .ok (.iload 4, 2) := by decide +kernel
theorem dX8_unrank_352 : decode cX8_unrank 352 = .ok (.imul, 1) := by decide +kernel
theorem dX8_unrank_353 : decode cX8_unrank 353 = .ok (.iconst 3, 1) := by decide +kernel
theorem dX8_unrank_354 : decode cX8_unrank 354 = .ok (.iadd, 1) := by decide +kernel
theorem dX8_unrank_355 : decode cX8_unrank 355 = .ok (.iload 10, 2) := by decide +kernel
theorem dX8_unrank_357 : decode cX8_unrank 357 = .ok (.iastore, 1) := by decide +kernel
theorem dX8_unrank_358 : decode cX8_unrank 358 = .ok (.aload_n 0, 1) := by decide +kernel
theorem dX8_unrank_359 : decode cX8_unrank 359 = .ok (.getfield 64, 3) := by decide +kernel
theorem dX8_unrank_362 : decode cX8_unrank 362 = .ok (.iconst 5, 1) := by decide +kernel
theorem dX8_unrank_363 : decode cX8_unrank 363 = .ok (.iload 4, 2) := by decide +kernel
theorem dX8_unrank_365 : decode cX8_unrank 365 = .ok (.imul, 1) := by decide +kernel
theorem dX8_unrank_366 : decode cX8_unrank 366 = .ok (.iconst 4, 1) := by decide +kernel
theorem dX8_unrank_367 : decode cX8_unrank 367 = .ok (.iadd, 1) := by decide +kernel
theorem dX8_unrank_368 : decode cX8_unrank 368 = .ok (.iconst 1, 1) := by decide +kernel
theorem dX8_unrank_369 : decode cX8_unrank 369 = .ok (.iastore, 1) := by decide +kernel
theorem dX8_unrank_370 : decode cX8_unrank 370 = .ok (.iinc 4 1, 3) := by decide +kernel
theorem dX8_unrank_373 : decode cX8_unrank 373 = .ok (.iload 5, 2) := by decide +kernel
theorem dX8_unrank_375 : decode cX8_unrank 375 = .ok (.iload 10, 2) := by decide +kernel
theorem dX8_unrank_377 : decode cX8_unrank 377 = .ok (.if_icmp .ge 71, 3) := by decide +kernel
theorem dX8_unrank_380 : decode cX8_unrank 380 = .ok (.aload_n 0, 1) := by decide +kernel
theorem dX8_unrank_381 : decode cX8_unrank 381 = .ok (.getfield 64, 3) := by decide +kernel
theorem dX8_unrank_384 : decode cX8_unrank 384 = .ok (.iconst 5, 1) := by decide +kernel
theorem dX8_unrank_385 : decode cX8_unrank 385 = .ok (.iload 4, 2) := by decide +kernel
theorem dX8_unrank_387 : decode cX8_unrank 387 = .ok (.imul, 1) := by decide +kernel
theorem dX8_unrank_388 : decode cX8_unrank 388 = .ok (.iload 5, 2) := by decide +kernel
theorem dX8_unrank_390 : decode cX8_unrank 390 = .ok (.iastore, 1) := by decide +kernel
theorem dX8_unrank_391 : decode cX8_unrank 391 = .ok (.aload_n 0, 1) := by decide +kernel
theorem dX8_unrank_392 : decode cX8_unrank 392 = .ok (.getfield 64, 3) := by decide +kernel
theorem dX8_unrank_395 : decode cX8_unrank 395 = .ok (.iconst 5, 1) := by decide +kernel
theorem dX8_unrank_396 : decode cX8_unrank 396 = .ok (.iload 4, 2) := by decide +kernel
theorem dX8_unrank_398 : decode cX8_unrank 398 = .ok (.imul, 1) := by decide +kernel
theorem dX8_unrank_399 : decode cX8_unrank 399 = .ok (.iconst 1, 1) := by decide +kernel
theorem dX8_unrank_400 : decode cX8_unrank 400 = .ok (.iadd, 1) := by decide +kernel
theorem dX8_unrank_401 : decode cX8_unrank 401 = .ok (.iload 10, 2) := by decide +kernel
theorem dX8_unrank_403 : decode cX8_unrank 403 = .ok (.iastore, 1) := by decide +kernel
theorem dX8_unrank_404 : decode cX8_unrank 404 = .ok (.aload_n 0, 1) := by decide +kernel
theorem dX8_unrank_405 : decode cX8_unrank 405 = .ok (.getfield 64, 3) := by decide +kernel
theorem dX8_unrank_408 : decode cX8_unrank 408 = .ok (.iconst 5, 1) := by decide +kernel
theorem dX8_unrank_409 : decode cX8_unrank 409 = .ok (.iload 4, 2) := by decide +kernel
theorem dX8_unrank_411 : decode cX8_unrank 411 = .ok (.imul, 1) := by decide +kernel
theorem dX8_unrank_412 : decode cX8_unrank 412 = .ok (.iconst 2, 1) := by decide +kernel
theorem dX8_unrank_413 : decode cX8_unrank 413 = .ok (.iadd, 1) := by decide +kernel
theorem dX8_unrank_414 : decode cX8_unrank 414 = .ok (.iload 7, 2) := by decide +kernel
theorem dX8_unrank_416 : decode cX8_unrank 416 = .ok (.iload 12, 2) := by decide +kernel
theorem dX8_unrank_418 : decode cX8_unrank 418 = .ok (.idiv, 1) := by decide +kernel
theorem dX8_unrank_419 : decode cX8_unrank 419 = .ok (.iastore, 1) := by decide +kernel
theorem dX8_unrank_420 : decode cX8_unrank 420 = .ok (.aload_n 0, 1) := by decide +kernel
theorem dX8_unrank_421 : decode cX8_unrank 421 = .ok (.getfield 64, 3) := by decide +kernel
theorem dX8_unrank_424 : decode cX8_unrank 424 = .ok (.iconst 5, 1) := by decide +kernel
theorem dX8_unrank_425 : decode cX8_unrank 425 = .ok (.iload 4, 2) := by decide +kernel
theorem dX8_unrank_427 : decode cX8_unrank 427 = .ok (.imul, 1) := by decide +kernel
theorem dX8_unrank_428 : decode cX8_unrank 428 = .ok (.iconst 3, 1) := by decide +kernel
theorem dX8_unrank_429 : decode cX8_unrank 429 = .ok (.iadd, 1) := by decide +kernel
theorem dX8_unrank_430 : decode cX8_unrank 430 = .ok (.iload 10, 2) := by decide +kernel
theorem dX8_unrank_432 : decode cX8_unrank 432 = .ok (.iastore, 1) := by decide +kernel
theorem dX8_unrank_433 : decode cX8_unrank 433 = .ok (.aload_n 0, 1) := by decide +kernel
theorem dX8_unrank_434 : decode cX8_unrank 434 = .ok (.getfield 64, 3) := by decide +kernel
theorem dX8_unrank_437 : decode cX8_unrank 437 = .ok (.iconst 5, 1) := by decide +kernel
theorem dX8_unrank_438 : decode cX8_unrank 438 = .ok (.iload 4, 2) := by decide +kernel
theorem dX8_unrank_440 : decode cX8_unrank 440 = .ok (.imul, 1) := by decide +kernel
theorem dX8_unrank_441 : decode cX8_unrank 441 = .ok (.iconst 4, 1) := by decide +kernel
theorem dX8_unrank_442 : decode cX8_unrank 442 = .ok (.iadd, 1) := by decide +kernel
theorem dX8_unrank_443 : decode cX8_unrank 443 = .ok (.iconst 0, 1) := by decide +kernel
theorem dX8_unrank_444 : decode cX8_unrank 444 = .ok (.iastore, 1) := by decide +kernel
theorem dX8_unrank_445 : decode cX8_unrank 445 = .ok (.iinc 4 1, 3) := by decide +kernel
theorem dX8_unrank_448 : decode cX8_unrank 448 = .ok (.goto (-390), 3) := by decide +kernel
theorem dX8_unrank_451 : decode cX8_unrank 451 = .ok (.return_, 1) := by decide +kernel
theorem dX8_operatorAt_0 : decode cX8_operatorAt 0 = .ok (.aload_n 0, 1) := by decide +kernel
theorem dX8_operatorAt_1 : decode cX8_operatorAt 1 = .ok (.iload_n 1, 1) := by decide +kernel
theorem dX8_operatorAt_2 : decode cX8_operatorAt 2 = .ok (.invokevirtual 178, 3) := by decide +kernel
theorem dX8_operatorAt_5 : decode cX8_operatorAt 5 = .ok (.ifCond .eq 11, 3) := by decide +kernel
theorem dX8_operatorAt_8 : decode cX8_operatorAt 8 = .ok (.iload_n 2, 1) := by decide +kernel
theorem dX8_operatorAt_9 : decode cX8_operatorAt 9 = .ok (.ifCond .lt 7, 3) := by decide +kernel
theorem dX8_operatorAt_12 : decode cX8_operatorAt 12 = .ok (.iload_n 3, 1) := by decide +kernel
theorem dX8_operatorAt_13 : decode cX8_operatorAt 13 = .ok (.ifCond .ge 5, 3) := by decide +kernel
theorem dX8_operatorAt_16 : decode cX8_operatorAt 16 = .ok (.iconst (-1), 1) := by decide +kernel
theorem dX8_operatorAt_17 : decode cX8_operatorAt 17 = .ok (.ireturn, 1) := by decide +kernel
theorem dX8_operatorAt_18 : decode cX8_operatorAt 18 = .ok (.iload_n 2, 1) := by decide +kernel
theorem dX8_operatorAt_19 : decode cX8_operatorAt 19 = .ok (.aload_n 0, 1) := by decide +kernel
theorem dX8_operatorAt_20 : decode cX8_operatorAt 20 = .ok (.iload_n 1, 1) := by decide +kernel
theorem dX8_operatorAt_21 : decode cX8_operatorAt 21 = .ok (.invokevirtual 181, 3) := by decide +kernel
theorem dX8_operatorAt_24 : decode cX8_operatorAt 24 = .ok (.if_icmp .ge 11, 3) := by decide +kernel
theorem dX8_operatorAt_27 : decode cX8_operatorAt 27 = .ok (.iload_n 3, 1) := by decide +kernel
theorem dX8_operatorAt_28 : decode cX8_operatorAt 28 = .ok (.aload_n 0, 1) := by decide +kernel
theorem dX8_operatorAt_29 : decode cX8_operatorAt 29 = .ok (.getfield 126, 3) := by decide +kernel
theorem dX8_operatorAt_32 : decode cX8_operatorAt 32 = .ok (.if_icmp .lt 6, 3) := by decide +kernel
theorem dX8_operatorAt_35 : decode cX8_operatorAt 35 = .ok (.bipush (-4), 2) := by decide +kernel
theorem dX8_operatorAt_37 : decode cX8_operatorAt 37 = .ok (.ireturn, 1) := by decide +kernel
theorem dX8_operatorAt_38 : decode cX8_operatorAt 38 = .ok (.aload_n 0, 1) := by decide +kernel
theorem dX8_operatorAt_39 : decode cX8_operatorAt 39 = .ok (.iload_n 1, 1) := by decide +kernel
theorem dX8_operatorAt_40 : decode cX8_operatorAt 40 = .ok (.iload_n 2, 1) := by decide +kernel
theorem dX8_operatorAt_41 : decode cX8_operatorAt 41 = .ok (.invokevirtual 187, 3) := by decide +kernel
theorem dX8_operatorAt_44 : decode cX8_operatorAt 44 = .ok (.aload_n 0, 1) := by decide +kernel
theorem dX8_operatorAt_45 : decode cX8_operatorAt 45 = .ok (.getfield 49, 3) := by decide +kernel
theorem dX8_operatorAt_48 : decode cX8_operatorAt 48 = .ok (.iload_n 3, 1) := by decide +kernel
theorem dX8_operatorAt_49 : decode cX8_operatorAt 49 = .ok (.iaload, 1) := by decide +kernel
theorem dX8_operatorAt_50 : decode cX8_operatorAt 50 = .ok (.ireturn, 1) := by decide +kernel
theorem dX8_survives_0 : decode cX8_survives 0 = .ok (.iconst 1, 1) := by decide +kernel
theorem dX8_survives_1 : decode cX8_survives 1 = .ok (.istore_n 2, 1) := by decide +kernel
theorem dX8_survives_2 : decode cX8_survives 2 = .ok (.iconst 0, 1) := by decide +kernel
theorem dX8_survives_3 : decode cX8_survives 3 = .ok (.istore_n 3, 1) := by decide +kernel
theorem dX8_survives_4 : decode cX8_survives 4 = .ok (.iload_n 3, 1) := by decide +kernel
theorem dX8_survives_5 : decode cX8_survives 5 = .ok (.aload_n 0, 1) := by decide +kernel
theorem dX8_survives_6 : decode cX8_survives 6 = .ok (.getfield 126, 3) := by decide +kernel
theorem dX8_survives_9 : decode cX8_survives 9 = .ok (.if_icmp .ge 68, 3) := by decide +kernel
theorem dX8_survives_12 : decode cX8_survives 12 = .ok (.iload_n 2, 1) := by decide +kernel
theorem dX8_survives_13 : decode cX8_survives 13 = .ok (.ifCond .eq 64, 3) := by decide +kernel
theorem dX8_survives_16 : decode cX8_survives 16 = .ok (.aload_n 0, 1) := by decide +kernel
theorem dX8_survives_17 : decode cX8_survives 17 = .ok (.getfield 46, 3) := by decide +kernel
theorem dX8_survives_20 : decode cX8_survives 20 = .ok (.bipush 11, 2) := by decide +kernel
theorem dX8_survives_22 : decode cX8_survives 22 = .ok (.aload_n 0, 1) := by decide +kernel
theorem dX8_survives_23 : decode cX8_survives 23 = .ok (.getfield 52, 3) := by decide +kernel
theorem dX8_survives_26 : decode cX8_survives 26 = .ok (.iload_n 3, 1) := by decide +kernel
theorem dX8_survives_27 : decode cX8_survives 27 = .ok (.iaload, 1) := by decide +kernel
theorem dX8_survives_28 : decode cX8_survives 28 = .ok (.imul, 1) := by decide +kernel
theorem dX8_survives_29 : decode cX8_survives 29 = .ok (.aload_n 0, 1) := by decide +kernel
theorem dX8_survives_30 : decode cX8_survives 30 = .ok (.getfield 55, 3) := by decide +kernel
theorem dX8_survives_33 : decode cX8_survives 33 = .ok (.iload_n 3, 1) := by decide +kernel
theorem dX8_survives_34 : decode cX8_survives 34 = .ok (.iaload, 1) := by decide +kernel
theorem dX8_survives_35 : decode cX8_survives 35 = .ok (.iadd, 1) := by decide +kernel
theorem dX8_survives_36 : decode cX8_survives 36 = .ok (.iaload, 1) := by decide +kernel
theorem dX8_survives_37 : decode cX8_survives 37 = .ok (.iload_n 3, 1) := by decide +kernel
theorem dX8_survives_38 : decode cX8_survives 38 = .ok (.invokestatic 158, 3) := by decide +kernel
theorem dX8_survives_41 : decode cX8_survives 41 = .ok (.ifCond .ne 28, 3) := by decide +kernel
theorem dX8_survives_44 : decode cX8_survives 44 = .ok (.aload_n 0, 1) := by decide +kernel
theorem dX8_survives_45 : decode cX8_survives 45 = .ok (.iload_n 1, 1) := by decide +kernel
theorem dX8_survives_46 : decode cX8_survives 46 = .ok (.iload_n 3, 1) := by decide +kernel
theorem dX8_survives_47 : decode cX8_survives 47 = .ok (.aload_n 0, 1) := by decide +kernel
theorem dX8_survives_48 : decode cX8_survives 48 = .ok (.getfield 58, 3) := by decide +kernel
theorem dX8_survives_51 : decode cX8_survives 51 = .ok (.iload_n 3, 1) := by decide +kernel
theorem dX8_survives_52 : decode cX8_survives 52 = .ok (.iaload, 1) := by decide +kernel
theorem dX8_survives_53 : decode cX8_survives 53 = .ok (.aload_n 0, 1) := by decide +kernel
theorem dX8_survives_54 : decode cX8_survives 54 = .ok (.getfield 61, 3) := by decide +kernel
theorem dX8_survives_57 : decode cX8_survives 57 = .ok (.iload_n 3, 1) := by decide +kernel
theorem dX8_survives_58 : decode cX8_survives 58 = .ok (.iaload, 1) := by decide +kernel
theorem dX8_survives_59 : decode cX8_survives 59 = .ok (.invokevirtual 184, 3) := by decide +kernel
theorem dX8_survives_62 : decode cX8_survives 62 = .ok (.ifCond .eq 7, 3) := by decide +kernel
theorem dX8_survives_65 : decode cX8_survives 65 = .ok (.iconst 1, 1) := by decide +kernel
theorem dX8_survives_66 : decode cX8_survives 66 = .ok (.goto 4, 3) := by decide +kernel
theorem dX8_survives_69 : decode cX8_survives 69 = .ok (.iconst 0, 1) := by decide +kernel
theorem dX8_survives_70 : decode cX8_survives 70 = .ok (.istore_n 2, 1) := by decide +kernel
theorem dX8_survives_71 : decode cX8_survives 71 = .ok (.iinc 3 1, 3) := by decide +kernel
theorem dX8_survives_74 : decode cX8_survives 74 = .ok (.goto (-70), 3) := by decide +kernel
theorem dX8_survives_77 : decode cX8_survives 77 = .ok (.iload_n 2, 1) := by decide +kernel
theorem dX8_survives_78 : decode cX8_survives 78 = .ok (.ireturn, 1) := by decide +kernel
theorem dX8_isTree_0 : decode cX8_isTree 0 = .ok (.iload_n 1, 1) := by decide +kernel
theorem dX8_isTree_1 : decode cX8_isTree 1 = .ok (.aload_n 0, 1) := by decide +kernel
theorem dX8_isTree_2 : decode cX8_isTree 2 = .ok (.iconst 0, 1) := by decide +kernel
theorem dX8_isTree_3 : decode cX8_isTree 3 = .ok (.invokevirtual 181, 3) := by decide +kernel
theorem dX8_isTree_6 : decode cX8_isTree 6 = .ok (.if_icmp .lt 5, 3) := by decide +kernel
theorem dX8_isTree_9 : decode cX8_isTree 9 = .ok (.iconst 0, 1) := by decide +kernel
theorem dX8_isTree_10 : decode cX8_isTree 10 = .ok (.ireturn, 1) := by decide +kernel
theorem dX8_isTree_11 : decode cX8_isTree 11 = .ok (.aload_n 0, 1) := by decide +kernel
theorem dX8_isTree_12 : decode cX8_isTree 12 = .ok (.iconst 0, 1) := by decide +kernel
theorem dX8_isTree_13 : decode cX8_isTree 13 = .ok (.iload_n 1, 1) := by decide +kernel
theorem dX8_isTree_14 : decode cX8_isTree 14 = .ok (.invokevirtual 187, 3) := by decide +kernel
theorem dX8_isTree_17 : decode cX8_isTree 17 = .ok (.iconst 1, 1) := by decide +kernel
theorem dX8_isTree_18 : decode cX8_isTree 18 = .ok (.ireturn, 1) := by decide +kernel
theorem dX8_discardedBy_0 : decode cX8_discardedBy 0 = .ok (.iload_n 1, 1) := by decide +kernel
theorem dX8_discardedBy_1 : decode cX8_discardedBy 1 = .ok (.ifCond .ge 5, 3) := by decide +kernel
theorem dX8_discardedBy_4 : decode cX8_discardedBy 4 = .ok (.iconst (-1), 1) := by decide +kernel
theorem dX8_discardedBy_5 : decode cX8_discardedBy 5 = .ok (.ireturn, 1) := by decide +kernel
theorem dX8_discardedBy_6 : decode cX8_discardedBy 6 = .ok (.aload_n 0, 1) := by decide +kernel
theorem dX8_discardedBy_7 : decode cX8_discardedBy 7 = .ok (.iload_n 1, 1) := by decide +kernel
theorem dX8_discardedBy_8 : decode cX8_discardedBy 8 = .ok (.invokevirtual 190, 3) := by decide +kernel
theorem dX8_discardedBy_11 : decode cX8_discardedBy 11 = .ok (.ifCond .ne 6, 3) := by decide +kernel
theorem dX8_discardedBy_14 : decode cX8_discardedBy 14 = .ok (.bipush (-4), 2) := by decide +kernel
theorem dX8_discardedBy_16 : decode cX8_discardedBy 16 = .ok (.ireturn, 1) := by decide +kernel
theorem dX8_discardedBy_17 : decode cX8_discardedBy 17 = .ok (.iconst 0, 1) := by decide +kernel
theorem dX8_discardedBy_18 : decode cX8_discardedBy 18 = .ok (.istore_n 2, 1) := by decide +kernel
theorem dX8_discardedBy_19 : decode cX8_discardedBy 19 = .ok (.iload_n 2, 1) := by decide +kernel
theorem dX8_discardedBy_20 : decode cX8_discardedBy 20 = .ok (.aload_n 0, 1) := by decide +kernel
theorem dX8_discardedBy_21 : decode cX8_discardedBy 21 = .ok (.getfield 7, 3) := by decide +kernel
theorem dX8_discardedBy_24 : decode cX8_discardedBy 24 = .ok (.iconst 0, 1) := by decide +kernel
theorem dX8_discardedBy_25 : decode cX8_discardedBy 25 = .ok (.iaload, 1) := by decide +kernel
theorem dX8_discardedBy_26 : decode cX8_discardedBy 26 = .ok (.if_icmp .ge 28, 3) := by decide +kernel
theorem dX8_discardedBy_29 : decode cX8_discardedBy 29 = .ok (.aload_n 0, 1) := by decide +kernel
theorem dX8_discardedBy_30 : decode cX8_discardedBy 30 = .ok (.iload_n 2, 1) := by decide +kernel
theorem dX8_discardedBy_31 : decode cX8_discardedBy 31 = .ok (.iconst 1, 1) := by decide +kernel
theorem dX8_discardedBy_32 : decode cX8_discardedBy 32 = .ok (.iadd, 1) := by decide +kernel
theorem dX8_discardedBy_33 : decode cX8_discardedBy 33 = .ok (.invokevirtual 172, 3) := by decide +kernel
theorem dX8_discardedBy_36 : decode cX8_discardedBy 36 = .ok (.aload_n 0, 1) := by decide +kernel
theorem dX8_discardedBy_37 : decode cX8_discardedBy 37 = .ok (.iload_n 2, 1) := by decide +kernel
theorem dX8_discardedBy_38 : decode cX8_discardedBy 38 = .ok (.iconst 1, 1) := by decide +kernel
theorem dX8_discardedBy_39 : decode cX8_discardedBy 39 = .ok (.iadd, 1) := by decide +kernel
theorem dX8_discardedBy_40 : decode cX8_discardedBy 40 = .ok (.invokevirtual 193, 3) := by decide +kernel
theorem dX8_discardedBy_43 : decode cX8_discardedBy 43 = .ok (.ifCond .ne 5, 3) := by decide +kernel
theorem dX8_discardedBy_46 : decode cX8_discardedBy 46 = .ok (.iload_n 2, 1) := by decide +kernel
theorem dX8_discardedBy_47 : decode cX8_discardedBy 47 = .ok (.ireturn, 1) := by decide +kernel
theorem dX8_discardedBy_48 : decode cX8_discardedBy 48 = .ok (.iinc 2 1, 3) := by decide +kernel
theorem dX8_discardedBy_51 : decode cX8_discardedBy 51 = .ok (.goto (-32), 3) := by decide +kernel
theorem dX8_discardedBy_54 : decode cX8_discardedBy 54 = .ok (.aload_n 0, 1) := by decide +kernel
theorem dX8_discardedBy_55 : decode cX8_discardedBy 55 = .ok (.getfield 7, 3) := by decide +kernel
theorem dX8_discardedBy_58 : decode cX8_discardedBy 58 = .ok (.iconst 0, 1) := by decide +kernel
theorem dX8_discardedBy_59 : decode cX8_discardedBy 59 = .ok (.iaload, 1) := by decide +kernel
theorem dX8_discardedBy_60 : decode cX8_discardedBy 60 = .ok (.ireturn, 1) := by decide +kernel
theorem dX8_rankOf_0 : decode cX8_rankOf 0 = .ok (.aload_n 0, 1) := by decide +kernel
theorem dX8_rankOf_1 : decode cX8_rankOf 1 = .ok (.getfield 126, 3) := by decide +kernel
theorem dX8_rankOf_4 : decode cX8_rankOf 4 = .ok (.iconst 1, 1) := by decide +kernel
theorem dX8_rankOf_5 : decode cX8_rankOf 5 = .ok (.isub, 1) := by decide +kernel
theorem dX8_rankOf_6 : decode cX8_rankOf 6 = .ok (.istore_n 2, 1) := by decide +kernel
theorem dX8_rankOf_7 : decode cX8_rankOf 7 = .ok (.iload_n 2, 1) := by decide +kernel
theorem dX8_rankOf_8 : decode cX8_rankOf 8 = .ok (.ifCond .lt 222, 3) := by decide +kernel
theorem dX8_rankOf_11 : decode cX8_rankOf 11 = .ok (.aload_n 0, 1) := by decide +kernel
theorem dX8_rankOf_12 : decode cX8_rankOf 12 = .ok (.getfield 49, 3) := by decide +kernel
theorem dX8_rankOf_15 : decode cX8_rankOf 15 = .ok (.iload_n 2, 1) := by decide +kernel
theorem dX8_rankOf_16 : decode cX8_rankOf 16 = .ok (.iaload, 1) := by decide +kernel
theorem dX8_rankOf_17 : decode cX8_rankOf 17 = .ok (.istore_n 3, 1) := by decide +kernel
theorem dX8_rankOf_18 : decode cX8_rankOf 18 = .ok (.aload_n 0, 1) := by decide +kernel
theorem dX8_rankOf_19 : decode cX8_rankOf 19 = .ok (.getfield 52, 3) := by decide +kernel
theorem dX8_rankOf_22 : decode cX8_rankOf 22 = .ok (.iload_n 3, 1) := by decide +kernel
theorem dX8_rankOf_23 : decode cX8_rankOf 23 = .ok (.iaload, 1) := by decide +kernel
theorem dX8_rankOf_24 : decode cX8_rankOf 24 = .ok (.istore 4, 2) := by decide +kernel
theorem dX8_rankOf_26 : decode cX8_rankOf 26 = .ok (.aload_n 0, 1) := by decide +kernel
theorem dX8_rankOf_27 : decode cX8_rankOf 27 = .ok (.getfield 55, 3) := by decide +kernel
theorem dX8_rankOf_30 : decode cX8_rankOf 30 = .ok (.iload_n 3, 1) := by decide +kernel
theorem dX8_rankOf_31 : decode cX8_rankOf 31 = .ok (.iaload, 1) := by decide +kernel
theorem dX8_rankOf_32 : decode cX8_rankOf 32 = .ok (.istore 5, 2) := by decide +kernel
theorem dX8_rankOf_34 : decode cX8_rankOf 34 = .ok (.iconst 0, 1) := by decide +kernel
theorem dX8_rankOf_35 : decode cX8_rankOf 35 = .ok (.istore 6, 2) := by decide +kernel
theorem dX8_rankOf_37 : decode cX8_rankOf 37 = .ok (.iload 4, 2) := by decide +kernel
theorem dX8_rankOf_39 : decode cX8_rankOf 39 = .ok (.istore 7, 2) := by decide +kernel
theorem dX8_rankOf_41 : decode cX8_rankOf 41 = .ok (.iload 7, 2) := by decide +kernel
theorem dX8_rankOf_43 : decode cX8_rankOf 43 = .ok (.iload_n 3, 1) := by decide +kernel
theorem dX8_rankOf_44 : decode cX8_rankOf 44 = .ok (.if_icmp .ge 59, 3) := by decide +kernel
theorem dX8_rankOf_47 : decode cX8_rankOf 47 = .ok (.iload 6, 2) := by decide +kernel
theorem dX8_rankOf_49 : decode cX8_rankOf 49 = .ok (.aload_n 0, 1) := by decide +kernel
theorem dX8_rankOf_50 : decode cX8_rankOf 50 = .ok (.iload_n 1, 1) := by decide +kernel
theorem dX8_rankOf_51 : decode cX8_rankOf 51 = .ok (.iload 7, 2) := by decide +kernel
theorem dX8_rankOf_53 : decode cX8_rankOf 53 = .ok (.aload_n 0, 1) := by decide +kernel
theorem dX8_rankOf_54 : decode cX8_rankOf 54 = .ok (.getfield 58, 3) := by decide +kernel
theorem dX8_rankOf_57 : decode cX8_rankOf 57 = .ok (.iload_n 3, 1) := by decide +kernel
theorem dX8_rankOf_58 : decode cX8_rankOf 58 = .ok (.iaload, 1) := by decide +kernel
theorem dX8_rankOf_59 : decode cX8_rankOf 59 = .ok (.aload_n 0, 1) := by decide +kernel
theorem dX8_rankOf_60 : decode cX8_rankOf 60 = .ok (.getfield 61, 3) := by decide +kernel
theorem dX8_rankOf_63 : decode cX8_rankOf 63 = .ok (.iload_n 3, 1) := by decide +kernel
theorem dX8_rankOf_64 : decode cX8_rankOf 64 = .ok (.iaload, 1) := by decide +kernel
theorem dX8_rankOf_65 : decode cX8_rankOf 65 = .ok (.invokevirtual 184, 3) := by decide +kernel
theorem dX8_rankOf_68 : decode cX8_rankOf 68 = .ok (.ifCond .eq 25, 3) := by decide +kernel
theorem dX8_rankOf_71 : decode cX8_rankOf 71 = .ok (.aload_n 0, 1) := by decide +kernel
theorem dX8_rankOf_72 : decode cX8_rankOf 72 = .ok (.getfield 43, 3) := by decide +kernel
theorem dX8_rankOf_75 : decode cX8_rankOf 75 = .ok (.bipush 10, 2) := by decide +kernel
theorem dX8_rankOf_77 : decode cX8_rankOf 77 = .ok (.bipush 11, 2) := by decide +kernel
theorem dX8_rankOf_79 : decode cX8_rankOf 79 = .ok (.iload 4, 2) := by decide +kernel
theorem dX8_rankOf_81 : decode cX8_rankOf 81 = .ok (.imul, 1) := by decide +kernel
theorem dX8_rankOf_82 : decode cX8_rankOf 82 = .ok (.iload 5, 2) := by decide +kernel
theorem dX8_rankOf_84 : decode cX8_rankOf 84 = .ok (.iadd, 1) := by decide +kernel
theorem dX8_rankOf_85 : decode cX8_rankOf 85 = .ok (.imul, 1) := by decide +kernel
theorem dX8_rankOf_86 : decode cX8_rankOf 86 = .ok (.iload 7, 2) := by decide +kernel
theorem dX8_rankOf_88 : decode cX8_rankOf 88 = .ok (.iadd, 1) := by decide +kernel
theorem dX8_rankOf_89 : decode cX8_rankOf 89 = .ok (.iaload, 1) := by decide +kernel
theorem dX8_rankOf_90 : decode cX8_rankOf 90 = .ok (.goto 4, 3) := by decide +kernel
theorem dX8_rankOf_93 : decode cX8_rankOf 93 = .ok (.iconst 0, 1) := by decide +kernel
theorem dX8_rankOf_94 : decode cX8_rankOf 94 = .ok (.iadd, 1) := by decide +kernel
theorem dX8_rankOf_95 : decode cX8_rankOf 95 = .ok (.istore 6, 2) := by decide +kernel
theorem dX8_rankOf_97 : decode cX8_rankOf 97 = .ok (.iinc 7 1, 3) := by decide +kernel
theorem dX8_rankOf_100 : decode cX8_rankOf 100 = .ok (.goto (-59), 3) := by decide +kernel
theorem dX8_rankOf_103 : decode cX8_rankOf 103 = .ok (.iconst 0, 1) := by decide +kernel
theorem dX8_rankOf_104 : decode cX8_rankOf 104 = .ok (.istore 7, 2) := by decide +kernel
theorem dX8_rankOf_106 : decode cX8_rankOf 106 = .ok (.iconst 0, 1) := by decide +kernel
theorem dX8_rankOf_107 : decode cX8_rankOf 107 = .ok (.istore 8, 2) := by decide +kernel
theorem dX8_rankOf_109 : decode cX8_rankOf 109 = .ok (.iload 4, 2) := by decide +kernel
theorem dX8_rankOf_111 : decode cX8_rankOf 111 = .ok (.istore 9, 2) := by decide +kernel
theorem dX8_rankOf_113 : decode cX8_rankOf 113 = .ok (.iload 9, 2) := by decide +kernel
theorem dX8_rankOf_115 : decode cX8_rankOf 115 = .ok (.iload 5, 2) := by decide +kernel
theorem dX8_rankOf_117 : decode cX8_rankOf 117 = .ok (.if_icmp .ge 80, 3) := by decide +kernel
theorem dX8_rankOf_120 : decode cX8_rankOf 120 = .ok (.aload_n 0, 1) := by decide +kernel
theorem dX8_rankOf_121 : decode cX8_rankOf 121 = .ok (.getfield 58, 3) := by decide +kernel
theorem dX8_rankOf_124 : decode cX8_rankOf 124 = .ok (.iload 9, 2) := by decide +kernel
theorem dX8_rankOf_126 : decode cX8_rankOf 126 = .ok (.iaload, 1) := by decide +kernel
theorem dX8_rankOf_127 : decode cX8_rankOf 127 = .ok (.iload_n 3, 1) := by decide +kernel
theorem dX8_rankOf_128 : decode cX8_rankOf 128 = .ok (.if_icmp .ne 23, 3) := by decide +kernel
theorem dX8_rankOf_131 : decode cX8_rankOf 131 = .ok (.aload_n 0, 1) := by decide +kernel
theorem dX8_rankOf_132 : decode cX8_rankOf 132 = .ok (.getfield 61, 3) := by decide +kernel
theorem dX8_rankOf_135 : decode cX8_rankOf 135 = .ok (.iload 9, 2) := by decide +kernel
theorem dX8_rankOf_137 : decode cX8_rankOf 137 = .ok (.iaload, 1) := by decide +kernel
theorem dX8_rankOf_138 : decode cX8_rankOf 138 = .ok (.ifCond .ne 13, 3) := by decide +kernel
theorem dX8_rankOf_141 : decode cX8_rankOf 141 = .ok (.aload_n 0, 1) := by decide +kernel
theorem dX8_rankOf_142 : decode cX8_rankOf 142 = .ok (.getfield 67, 3) := by decide +kernel
theorem dX8_rankOf_145 : decode cX8_rankOf 145 = .ok (.iload 9, 2) := by decide +kernel
theorem dX8_rankOf_147 : decode cX8_rankOf 147 = .ok (.iaload, 1) := by decide +kernel
theorem dX8_rankOf_148 : decode cX8_rankOf 148 = .ok (.goto 5, 3) := by decide +kernel
theorem dX8_rankOf_151 : decode cX8_rankOf 151 = .ok (.iload 7, 2) := by decide +kernel
theorem dX8_rankOf_153 : decode cX8_rankOf 153 = .ok (.istore 7, 2) := by decide +kernel
theorem dX8_rankOf_155 : decode cX8_rankOf 155 = .ok (.aload_n 0, 1) := by decide +kernel
theorem dX8_rankOf_156 : decode cX8_rankOf 156 = .ok (.getfield 58, 3) := by decide +kernel
theorem dX8_rankOf_159 : decode cX8_rankOf 159 = .ok (.iload 9, 2) := by decide +kernel
theorem dX8_rankOf_161 : decode cX8_rankOf 161 = .ok (.iaload, 1) := by decide +kernel
theorem dX8_rankOf_162 : decode cX8_rankOf 162 = .ok (.iload_n 3, 1) := by decide +kernel
theorem dX8_rankOf_163 : decode cX8_rankOf 163 = .ok (.if_icmp .ne 24, 3) := by decide +kernel
theorem dX8_rankOf_166 : decode cX8_rankOf 166 = .ok (.aload_n 0, 1) := by decide +kernel
theorem dX8_rankOf_167 : decode cX8_rankOf 167 = .ok (.getfield 61, 3) := by decide +kernel
theorem dX8_rankOf_170 : decode cX8_rankOf 170 = .ok (.iload 9, 2) := by decide +kernel
theorem dX8_rankOf_172 : decode cX8_rankOf 172 = .ok (.iaload, 1) := by decide +kernel
theorem dX8_rankOf_173 : decode cX8_rankOf 173 = .ok (.iconst 1, 1) := by decide +kernel
theorem dX8_rankOf_174 : decode cX8_rankOf 174 = .ok (.if_icmp .ne 13, 3) := by decide +kernel
theorem dX8_rankOf_177 : decode cX8_rankOf 177 = .ok (.aload_n 0, 1) := by decide +kernel
theorem dX8_rankOf_178 : decode cX8_rankOf 178 = .ok (.getfield 67, 3) := by decide +kernel
theorem dX8_rankOf_181 : decode cX8_rankOf 181 = .ok (.iload 9, 2) := by decide +kernel
theorem dX8_rankOf_183 : decode cX8_rankOf 183 = .ok (.iaload, 1) := by decide +kernel
theorem dX8_rankOf_184 : decode cX8_rankOf 184 = .ok (.goto 5, 3) := by decide +kernel
theorem dX8_rankOf_187 : decode cX8_rankOf 187 = .ok (.iload 8, 2) := by decide +kernel
theorem dX8_rankOf_189 : decode cX8_rankOf 189 = .ok (.istore 8, 2) := by decide +kernel
theorem dX8_rankOf_191 : decode cX8_rankOf 191 = .ok (.iinc 9 1, 3) := by decide +kernel
theorem dX8_rankOf_194 : decode cX8_rankOf 194 = .ok (.goto (-81), 3) := by decide +kernel
theorem dX8_rankOf_197 : decode cX8_rankOf 197 = .ok (.aload_n 0, 1) := by decide +kernel
theorem dX8_rankOf_198 : decode cX8_rankOf 198 = .ok (.getfield 67, 3) := by decide +kernel
theorem dX8_rankOf_201 : decode cX8_rankOf 201 = .ok (.iload_n 3, 1) := by decide +kernel
theorem dX8_rankOf_202 : decode cX8_rankOf 202 = .ok (.iload 6, 2) := by decide +kernel
theorem dX8_rankOf_204 : decode cX8_rankOf 204 = .ok (.iload 7, 2) := by decide +kernel
theorem dX8_rankOf_206 : decode cX8_rankOf 206 = .ok (.aload_n 0, 1) := by decide +kernel
theorem dX8_rankOf_207 : decode cX8_rankOf 207 = .ok (.iload_n 1, 1) := by decide +kernel
theorem dX8_rankOf_208 : decode cX8_rankOf 208 = .ok (.iload_n 3, 1) := by decide +kernel
theorem dX8_rankOf_209 : decode cX8_rankOf 209 = .ok (.iconst 1, 1) := by decide +kernel
theorem dX8_rankOf_210 : decode cX8_rankOf 210 = .ok (.iadd, 1) := by decide +kernel
theorem dX8_rankOf_211 : decode cX8_rankOf 211 = .ok (.iload 5, 2) := by decide +kernel
theorem dX8_rankOf_213 : decode cX8_rankOf 213 = .ok (.iload_n 3, 1) := by decide +kernel
theorem dX8_rankOf_214 : decode cX8_rankOf 214 = .ok (.iconst 1, 1) := by decide +kernel
theorem dX8_rankOf_215 : decode cX8_rankOf 215 = .ok (.invokevirtual 162, 3) := by decide +kernel
theorem dX8_rankOf_218 : decode cX8_rankOf 218 = .ok (.imul, 1) := by decide +kernel
theorem dX8_rankOf_219 : decode cX8_rankOf 219 = .ok (.iadd, 1) := by decide +kernel
theorem dX8_rankOf_220 : decode cX8_rankOf 220 = .ok (.iload 8, 2) := by decide +kernel
theorem dX8_rankOf_222 : decode cX8_rankOf 222 = .ok (.iadd, 1) := by decide +kernel
theorem dX8_rankOf_223 : decode cX8_rankOf 223 = .ok (.iastore, 1) := by decide +kernel
theorem dX8_rankOf_224 : decode cX8_rankOf 224 = .ok (.iinc 2 (-1), 3) := by decide +kernel
theorem dX8_rankOf_227 : decode cX8_rankOf 227 = .ok (.goto (-220), 3) := by decide +kernel
theorem dX8_rankOf_230 : decode cX8_rankOf 230 = .ok (.aload_n 0, 1) := by decide +kernel
theorem dX8_rankOf_231 : decode cX8_rankOf 231 = .ok (.getfield 126, 3) := by decide +kernel
theorem dX8_rankOf_234 : decode cX8_rankOf 234 = .ok (.ifCond .ne 7, 3) := by decide +kernel
theorem dX8_rankOf_237 : decode cX8_rankOf 237 = .ok (.iconst 0, 1) := by decide +kernel
theorem dX8_rankOf_238 : decode cX8_rankOf 238 = .ok (.goto 14, 3) := by decide +kernel
theorem dX8_rankOf_241 : decode cX8_rankOf 241 = .ok (.aload_n 0, 1) := by decide +kernel
theorem dX8_rankOf_242 : decode cX8_rankOf 242 = .ok (.getfield 67, 3) := by decide +kernel
theorem dX8_rankOf_245 : decode cX8_rankOf 245 = .ok (.aload_n 0, 1) := by decide +kernel
theorem dX8_rankOf_246 : decode cX8_rankOf 246 = .ok (.getfield 49, 3) := by decide +kernel
theorem dX8_rankOf_249 : decode cX8_rankOf 249 = .ok (.iconst 0, 1) := by decide +kernel
theorem dX8_rankOf_250 : decode cX8_rankOf 250 = .ok (.iaload, 1) := by decide +kernel
theorem dX8_rankOf_251 : decode cX8_rankOf 251 = .ok (.iaload, 1) := by decide +kernel
theorem dX8_rankOf_252 : decode cX8_rankOf 252 = .ok (.ireturn, 1) := by decide +kernel
theorem dX8_survivorRank_0 : decode cX8_survivorRank 0 = .ok (.aload_n 0, 1) := by decide +kernel
theorem dX8_survivorRank_1 : decode cX8_survivorRank 1 = .ok (.iload_n 1, 1) := by decide +kernel
theorem dX8_survivorRank_2 : decode cX8_survivorRank 2 = .ok (.invokevirtual 178, 3) := by decide +kernel
theorem dX8_survivorRank_5 : decode cX8_survivorRank 5 = .ok (.ifCond .eq 7, 3) := by decide +kernel
theorem dX8_survivorRank_8 : decode cX8_survivorRank 8 = .ok (.iload_n 2, 1) := by decide +kernel
theorem dX8_survivorRank_9 : decode cX8_survivorRank 9 = .ok (.ifCond .ge 5, 3) := by decide +kernel
theorem dX8_survivorRank_12 : decode cX8_survivorRank 12 = .ok (.iconst (-1), 1) := by decide +kernel
theorem dX8_survivorRank_13 : decode cX8_survivorRank 13 = .ok (.ireturn, 1) := by decide +kernel
theorem dX8_survivorRank_14 : decode cX8_survivorRank 14 = .ok (.aload_n 0, 1) := by decide +kernel
theorem dX8_survivorRank_15 : decode cX8_survivorRank 15 = .ok (.iload_n 2, 1) := by decide +kernel
theorem dX8_survivorRank_16 : decode cX8_survivorRank 16 = .ok (.invokevirtual 190, 3) := by decide +kernel
theorem dX8_survivorRank_19 : decode cX8_survivorRank 19 = .ok (.ifCond .ne 6, 3) := by decide +kernel
theorem dX8_survivorRank_22 : decode cX8_survivorRank 22 = .ok (.bipush (-4), 2) := by decide +kernel
theorem dX8_survivorRank_24 : decode cX8_survivorRank 24 = .ok (.ireturn, 1) := by decide +kernel
theorem dX8_survivorRank_25 : decode cX8_survivorRank 25 = .ok (.aload_n 0, 1) := by decide +kernel
theorem dX8_survivorRank_26 : decode cX8_survivorRank 26 = .ok (.iload_n 1, 1) := by decide +kernel
theorem dX8_survivorRank_27 : decode cX8_survivorRank 27 = .ok (.invokevirtual 172, 3) := by decide +kernel
theorem dX8_survivorRank_30 : decode cX8_survivorRank 30 = .ok (.aload_n 0, 1) := by decide +kernel
theorem dX8_survivorRank_31 : decode cX8_survivorRank 31 = .ok (.iload_n 1, 1) := by decide +kernel
theorem dX8_survivorRank_32 : decode cX8_survivorRank 32 = .ok (.invokevirtual 193, 3) := by decide +kernel
theorem dX8_survivorRank_35 : decode cX8_survivorRank 35 = .ok (.ifCond .eq 11, 3) := by decide +kernel
theorem dX8_survivorRank_38 : decode cX8_survivorRank 38 = .ok (.aload_n 0, 1) := by decide +kernel
theorem dX8_survivorRank_39 : decode cX8_survivorRank 39 = .ok (.iload_n 1, 1) := by decide +kernel
theorem dX8_survivorRank_40 : decode cX8_survivorRank 40 = .ok (.invokevirtual 196, 3) := by decide +kernel
theorem dX8_survivorRank_43 : decode cX8_survivorRank 43 = .ok (.goto 5, 3) := by decide +kernel
theorem dX8_survivorRank_46 : decode cX8_survivorRank 46 = .ok (.bipush (-4), 2) := by decide +kernel
theorem dX8_survivorRank_48 : decode cX8_survivorRank 48 = .ok (.ireturn, 1) := by decide +kernel
theorem dX8_isFailure_0 : decode cX8_isFailure 0 = .ok (.lload_n 0, 1) := by decide +kernel
theorem dX8_isFailure_1 : decode cX8_isFailure 1 = .ok (.ldc2_w 199, 3) := by decide +kernel
theorem dX8_isFailure_4 : decode cX8_isFailure 4 = .ok (.lcmp, 1) := by decide +kernel
theorem dX8_isFailure_5 : decode cX8_isFailure 5 = .ok (.ifCond .lt 7, 3) := by decide +kernel
theorem dX8_isFailure_8 : decode cX8_isFailure 8 = .ok (.iconst 1, 1) := by decide +kernel
theorem dX8_isFailure_9 : decode cX8_isFailure 9 = .ok (.goto 4, 3) := by decide +kernel
theorem dX8_isFailure_12 : decode cX8_isFailure 12 = .ok (.iconst 0, 1) := by decide +kernel
theorem dX8_isFailure_13 : decode cX8_isFailure 13 = .ok (.ireturn, 1) := by decide +kernel
theorem dX8_fit_0 : decode cX8_fit 0 = .ok (.lload_n 0, 1) := by decide +kernel
theorem dX8_fit_1 : decode cX8_fit 1 = .ok (.ldc2_w 201, 3) := by decide +kernel
theorem dX8_fit_4 : decode cX8_fit 4 = .ok (.lcmp, 1) := by decide +kernel
theorem dX8_fit_5 : decode cX8_fit 5 = .ok (.ifCond .lt 11, 3) := by decide +kernel
theorem dX8_fit_8 : decode cX8_fit 8 = .ok (.lload_n 0, 1) := by decide +kernel
theorem dX8_fit_9 : decode cX8_fit 9 = .ok (.ldc2_w 203, 3) := by decide +kernel
theorem dX8_fit_12 : decode cX8_fit 12 = .ok (.lcmp, 1) := by decide +kernel
theorem dX8_fit_13 : decode cX8_fit 13 = .ok (.ifCond .le 9, 3) := by decide +kernel
theorem dX8_fit_16 : decode cX8_fit 16 = .ok (.ldc2_w 199, 3) := by decide +kernel
theorem dX8_fit_19 : decode cX8_fit 19 = .ok (.goto 4, 3) := by decide +kernel
theorem dX8_fit_22 : decode cX8_fit 22 = .ok (.lload_n 0, 1) := by decide +kernel
theorem dX8_fit_23 : decode cX8_fit 23 = .ok (.lreturn, 1) := by decide +kernel
theorem dX8_apply_0 : decode cX8_apply 0 = .ok (.iload_n 0, 1) := by decide +kernel
theorem dX8_apply_1 : decode cX8_apply 1 = .ok (.tableswitch 123 0 7 #[47, 54, 61, 68, 87, 103, 107, 111], 47) := by decide +kernel
theorem dX8_apply_48 : decode cX8_apply 48 = .ok (.lload_n 1, 1) := by decide +kernel
theorem dX8_apply_49 : decode cX8_apply 49 = .ok (.lload_n 3, 1) := by decide +kernel
theorem dX8_apply_50 : decode cX8_apply 50 = .ok (.ladd, 1) := by decide +kernel
theorem dX8_apply_51 : decode cX8_apply 51 = .ok (.invokestatic 205, 3) := by decide +kernel
theorem dX8_apply_54 : decode cX8_apply 54 = .ok (.lreturn, 1) := by decide +kernel
theorem dX8_apply_55 : decode cX8_apply 55 = .ok (.lload_n 1, 1) := by decide +kernel
theorem dX8_apply_56 : decode cX8_apply 56 = .ok (.lload_n 3, 1) := by decide +kernel
theorem dX8_apply_57 : decode cX8_apply 57 = .ok (.lsub, 1) := by decide +kernel
theorem dX8_apply_58 : decode cX8_apply 58 = .ok (.invokestatic 205, 3) := by decide +kernel
theorem dX8_apply_61 : decode cX8_apply 61 = .ok (.lreturn, 1) := by decide +kernel
theorem dX8_apply_62 : decode cX8_apply 62 = .ok (.lload_n 1, 1) := by decide +kernel
theorem dX8_apply_63 : decode cX8_apply 63 = .ok (.lload_n 3, 1) := by decide +kernel
theorem dX8_apply_64 : decode cX8_apply 64 = .ok (.lmul, 1) := by decide +kernel
theorem dX8_apply_65 : decode cX8_apply 65 = .ok (.invokestatic 205, 3) := by decide +kernel
theorem dX8_apply_68 : decode cX8_apply 68 = .ok (.lreturn, 1) := by decide +kernel
theorem dX8_apply_69 : decode cX8_apply 69 = .ok (.lload_n 3, 1) := by decide +kernel
theorem dX8_apply_70 : decode cX8_apply 70 = .ok (.lconst 0, 1) := by decide +kernel
theorem dX8_apply_71 : decode cX8_apply 71 = .ok (.lcmp, 1) := by decide +kernel
theorem dX8_apply_72 : decode cX8_apply 72 = .ok (.ifCond .ne 9, 3) := by decide +kernel
theorem dX8_apply_75 : decode cX8_apply 75 = .ok (.ldc2_w 209, 3) := by decide +kernel
theorem dX8_apply_78 : decode cX8_apply 78 = .ok (.goto 9, 3) := by decide +kernel
theorem dX8_apply_81 : decode cX8_apply 81 = .ok (.lload_n 1, 1) := by decide +kernel
theorem dX8_apply_82 : decode cX8_apply 82 = .ok (.lload_n 3, 1) := by decide +kernel
theorem dX8_apply_83 : decode cX8_apply 83 = .ok (.ldiv, 1) := by decide +kernel
theorem dX8_apply_84 : decode cX8_apply 84 = .ok (.invokestatic 205, 3) := by decide +kernel
theorem dX8_apply_87 : decode cX8_apply 87 = .ok (.lreturn, 1) := by decide +kernel
theorem dX8_apply_88 : decode cX8_apply 88 = .ok (.lload_n 3, 1) := by decide +kernel
theorem dX8_apply_89 : decode cX8_apply 89 = .ok (.lconst 0, 1) := by decide +kernel
theorem dX8_apply_90 : decode cX8_apply 90 = .ok (.lcmp, 1) := by decide +kernel
theorem dX8_apply_91 : decode cX8_apply 91 = .ok (.ifCond .ne 9, 3) := by decide +kernel
theorem dX8_apply_94 : decode cX8_apply 94 = .ok (.ldc2_w 209, 3) := by decide +kernel
theorem dX8_apply_97 : decode cX8_apply 97 = .ok (.goto 6, 3) := by decide +kernel
theorem dX8_apply_100 : decode cX8_apply 100 = .ok (.lload_n 1, 1) := by decide +kernel
theorem dX8_apply_101 : decode cX8_apply 101 = .ok (.lload_n 3, 1) := by decide +kernel
theorem dX8_apply_102 : decode cX8_apply 102 = .ok (.lrem, 1) := by decide +kernel
theorem dX8_apply_103 : decode cX8_apply 103 = .ok (.lreturn, 1) := by decide +kernel
theorem dX8_apply_104 : decode cX8_apply 104 = .ok (.lload_n 1, 1) := by decide +kernel
theorem dX8_apply_105 : decode cX8_apply 105 = .ok (.lload_n 3, 1) := by decide +kernel
theorem dX8_apply_106 : decode cX8_apply 106 = .ok (.land, 1) := by decide +kernel
theorem dX8_apply_107 : decode cX8_apply 107 = .ok (.lreturn, 1) := by decide +kernel
theorem dX8_apply_108 : decode cX8_apply 108 = .ok (.lload_n 1, 1) := by decide +kernel
theorem dX8_apply_109 : decode cX8_apply 109 = .ok (.lload_n 3, 1) := by decide +kernel
theorem dX8_apply_110 : decode cX8_apply 110 = .ok (.lor, 1) := by decide +kernel
theorem dX8_apply_111 : decode cX8_apply 111 = .ok (.lreturn, 1) := by decide +kernel
theorem dX8_apply_112 : decode cX8_apply 112 = .ok (.lload_n 1, 1) := by decide +kernel
theorem dX8_apply_113 : decode cX8_apply 113 = .ok (.lload_n 3, 1) := by decide +kernel
theorem dX8_apply_114 : decode cX8_apply 114 = .ok (.lcmp, 1) := by decide +kernel
theorem dX8_apply_115 : decode cX8_apply 115 = .ok (.ifCond .ge 7, 3) := by decide +kernel
theorem dX8_apply_118 : decode cX8_apply 118 = .ok (.lconst 1, 1) := by decide +kernel
theorem dX8_apply_119 : decode cX8_apply 119 = .ok (.goto 4, 3) := by decide +kernel
theorem dX8_apply_122 : decode cX8_apply 122 = .ok (.lconst 0, 1) := by decide +kernel
theorem dX8_apply_123 : decode cX8_apply 123 = .ok (.lreturn, 1) := by decide +kernel
theorem dX8_apply_124 : decode cX8_apply 124 = .ok (.lload_n 1, 1) := by decide +kernel
theorem dX8_apply_125 : decode cX8_apply 125 = .ok (.lload_n 3, 1) := by decide +kernel
theorem dX8_apply_126 : decode cX8_apply 126 = .ok (.lcmp, 1) := by decide +kernel
theorem dX8_apply_127 : decode cX8_apply 127 = .ok (.ifCond .ne 7, 3) := by decide +kernel
theorem dX8_apply_130 : decode cX8_apply 130 = .ok (.lconst 1, 1) := by decide +kernel
theorem dX8_apply_131 : decode cX8_apply 131 = .ok (.goto 4, 3) := by decide +kernel
theorem dX8_apply_134 : decode cX8_apply 134 = .ok (.lconst 0, 1) := by decide +kernel
theorem dX8_apply_135 : decode cX8_apply 135 = .ok (.lreturn, 1) := by decide +kernel
theorem dX8_leaf_0 : decode cX8_leaf 0 = .ok (.aload_n 0, 1) := by decide +kernel
theorem dX8_leaf_1 : decode cX8_leaf 1 = .ok (.getfield 7, 3) := by decide +kernel
theorem dX8_leaf_4 : decode cX8_leaf 4 = .ok (.bipush 25, 2) := by decide +kernel
theorem dX8_leaf_6 : decode cX8_leaf 6 = .ok (.aload_n 0, 1) := by decide +kernel
theorem dX8_leaf_7 : decode cX8_leaf 7 = .ok (.getfield 25, 3) := by decide +kernel
theorem dX8_leaf_10 : decode cX8_leaf 10 = .ok (.iload_n 1, 1) := by decide +kernel
theorem dX8_leaf_11 : decode cX8_leaf 11 = .ok (.iaload, 1) := by decide +kernel
theorem dX8_leaf_12 : decode cX8_leaf 12 = .ok (.iadd, 1) := by decide +kernel
theorem dX8_leaf_13 : decode cX8_leaf 13 = .ok (.iaload, 1) := by decide +kernel
theorem dX8_leaf_14 : decode cX8_leaf 14 = .ok (.i2l, 1) := by decide +kernel
theorem dX8_leaf_15 : decode cX8_leaf 15 = .ok (.lreturn, 1) := by decide +kernel
theorem dX8_evaluate_0 : decode cX8_evaluate 0 = .ok (.aload_n 0, 1) := by decide +kernel
theorem dX8_evaluate_1 : decode cX8_evaluate 1 = .ok (.getfield 126, 3) := by decide +kernel
theorem dX8_evaluate_4 : decode cX8_evaluate 4 = .ok (.iconst 1, 1) := by decide +kernel
theorem dX8_evaluate_5 : decode cX8_evaluate 5 = .ok (.isub, 1) := by decide +kernel
theorem dX8_evaluate_6 : decode cX8_evaluate 6 = .ok (.istore_n 1, 1) := by decide +kernel
theorem dX8_evaluate_7 : decode cX8_evaluate 7 = .ok (.iload_n 1, 1) := by decide +kernel
theorem dX8_evaluate_8 : decode cX8_evaluate 8 = .ok (.ifCond .lt 167, 3) := by decide +kernel
theorem dX8_evaluate_11 : decode cX8_evaluate 11 = .ok (.aload_n 0, 1) := by decide +kernel
theorem dX8_evaluate_12 : decode cX8_evaluate 12 = .ok (.getfield 49, 3) := by decide +kernel
theorem dX8_evaluate_15 : decode cX8_evaluate 15 = .ok (.iload_n 1, 1) := by decide +kernel
theorem dX8_evaluate_16 : decode cX8_evaluate 16 = .ok (.iaload, 1) := by decide +kernel
theorem dX8_evaluate_17 : decode cX8_evaluate 17 = .ok (.istore_n 2, 1) := by decide +kernel
theorem dX8_evaluate_18 : decode cX8_evaluate 18 = .ok (.aload_n 0, 1) := by decide +kernel
theorem dX8_evaluate_19 : decode cX8_evaluate 19 = .ok (.iload_n 2, 1) := by decide +kernel
theorem dX8_evaluate_20 : decode cX8_evaluate 20 = .ok (.invokevirtual 211, 3) := by decide +kernel
theorem dX8_evaluate_23 : decode cX8_evaluate 23 = .ok (.lstore_n 3, 1) := by decide +kernel
theorem dX8_evaluate_24 : decode cX8_evaluate 24 = .ok (.aload_n 0, 1) := by decide +kernel
theorem dX8_evaluate_25 : decode cX8_evaluate 25 = .ok (.iload_n 2, 1) := by decide +kernel
theorem dX8_evaluate_26 : decode cX8_evaluate 26 = .ok (.iconst 1, 1) := by decide +kernel
theorem dX8_evaluate_27 : decode cX8_evaluate 27 = .ok (.iadd, 1) := by decide +kernel
theorem dX8_evaluate_28 : decode cX8_evaluate 28 = .ok (.invokevirtual 211, 3) := by decide +kernel
theorem dX8_evaluate_31 : decode cX8_evaluate 31 = .ok (.lstore 5, 2) := by decide +kernel
theorem dX8_evaluate_33 : decode cX8_evaluate 33 = .ok (.aload_n 0, 1) := by decide +kernel
theorem dX8_evaluate_34 : decode cX8_evaluate 34 = .ok (.getfield 52, 3) := by decide +kernel
theorem dX8_evaluate_37 : decode cX8_evaluate 37 = .ok (.iload_n 2, 1) := by decide +kernel
theorem dX8_evaluate_38 : decode cX8_evaluate 38 = .ok (.iaload, 1) := by decide +kernel
theorem dX8_evaluate_39 : decode cX8_evaluate 39 = .ok (.istore 7, 2) := by decide +kernel
theorem dX8_evaluate_41 : decode cX8_evaluate 41 = .ok (.iload 7, 2) := by decide +kernel
theorem dX8_evaluate_43 : decode cX8_evaluate 43 = .ok (.aload_n 0, 1) := by decide +kernel
theorem dX8_evaluate_44 : decode cX8_evaluate 44 = .ok (.getfield 55, 3) := by decide +kernel
theorem dX8_evaluate_47 : decode cX8_evaluate 47 = .ok (.iload_n 2, 1) := by decide +kernel
theorem dX8_evaluate_48 : decode cX8_evaluate 48 = .ok (.iaload, 1) := by decide +kernel
theorem dX8_evaluate_49 : decode cX8_evaluate 49 = .ok (.if_icmp .ge 78, 3) := by decide +kernel
theorem dX8_evaluate_52 : decode cX8_evaluate 52 = .ok (.aload_n 0, 1) := by decide +kernel
theorem dX8_evaluate_53 : decode cX8_evaluate 53 = .ok (.getfield 58, 3) := by decide +kernel
theorem dX8_evaluate_56 : decode cX8_evaluate 56 = .ok (.iload 7, 2) := by decide +kernel
theorem dX8_evaluate_58 : decode cX8_evaluate 58 = .ok (.iaload, 1) := by decide +kernel
theorem dX8_evaluate_59 : decode cX8_evaluate 59 = .ok (.iload_n 2, 1) := by decide +kernel
theorem dX8_evaluate_60 : decode cX8_evaluate 60 = .ok (.if_icmp .ne 23, 3) := by decide +kernel
theorem dX8_evaluate_63 : decode cX8_evaluate 63 = .ok (.aload_n 0, 1) := by decide +kernel
theorem dX8_evaluate_64 : decode cX8_evaluate 64 = .ok (.getfield 61, 3) := by decide +kernel
theorem dX8_evaluate_67 : decode cX8_evaluate 67 = .ok (.iload 7, 2) := by decide +kernel
theorem dX8_evaluate_69 : decode cX8_evaluate 69 = .ok (.iaload, 1) := by decide +kernel
theorem dX8_evaluate_70 : decode cX8_evaluate 70 = .ok (.ifCond .ne 13, 3) := by decide +kernel
theorem dX8_evaluate_73 : decode cX8_evaluate 73 = .ok (.aload_n 0, 1) := by decide +kernel
theorem dX8_evaluate_74 : decode cX8_evaluate 74 = .ok (.getfield 70, 3) := by decide +kernel
theorem dX8_evaluate_77 : decode cX8_evaluate 77 = .ok (.iload 7, 2) := by decide +kernel
theorem dX8_evaluate_79 : decode cX8_evaluate 79 = .ok (.laload, 1) := by decide +kernel
theorem dX8_evaluate_80 : decode cX8_evaluate 80 = .ok (.goto 4, 3) := by decide +kernel
theorem dX8_evaluate_83 : decode cX8_evaluate 83 = .ok (.lload_n 3, 1) := by decide +kernel
theorem dX8_evaluate_84 : decode cX8_evaluate 84 = .ok (.lstore_n 3, 1) := by decide +kernel
theorem dX8_evaluate_85 : decode cX8_evaluate 85 = .ok (.aload_n 0, 1) := by decide +kernel
theorem dX8_evaluate_86 : decode cX8_evaluate 86 = .ok (.getfield 58, 3) := by decide +kernel
theorem dX8_evaluate_89 : decode cX8_evaluate 89 = .ok (.iload 7, 2) := by decide +kernel
theorem dX8_evaluate_91 : decode cX8_evaluate 91 = .ok (.iaload, 1) := by decide +kernel
theorem dX8_evaluate_92 : decode cX8_evaluate 92 = .ok (.iload_n 2, 1) := by decide +kernel
theorem dX8_evaluate_93 : decode cX8_evaluate 93 = .ok (.if_icmp .ne 24, 3) := by decide +kernel
theorem dX8_evaluate_96 : decode cX8_evaluate 96 = .ok (.aload_n 0, 1) := by decide +kernel
theorem dX8_evaluate_97 : decode cX8_evaluate 97 = .ok (.getfield 61, 3) := by decide +kernel
theorem dX8_evaluate_100 : decode cX8_evaluate 100 = .ok (.iload 7, 2) := by decide +kernel
theorem dX8_evaluate_102 : decode cX8_evaluate 102 = .ok (.iaload, 1) := by decide +kernel
theorem dX8_evaluate_103 : decode cX8_evaluate 103 = .ok (.iconst 1, 1) := by decide +kernel
theorem dX8_evaluate_104 : decode cX8_evaluate 104 = .ok (.if_icmp .ne 13, 3) := by decide +kernel
theorem dX8_evaluate_107 : decode cX8_evaluate 107 = .ok (.aload_n 0, 1) := by decide +kernel
theorem dX8_evaluate_108 : decode cX8_evaluate 108 = .ok (.getfield 70, 3) := by decide +kernel
theorem dX8_evaluate_111 : decode cX8_evaluate 111 = .ok (.iload 7, 2) := by decide +kernel
theorem dX8_evaluate_113 : decode cX8_evaluate 113 = .ok (.laload, 1) := by decide +kernel
theorem dX8_evaluate_114 : decode cX8_evaluate 114 = .ok (.goto 5, 3) := by decide +kernel
theorem dX8_evaluate_117 : decode cX8_evaluate 117 = .ok (.lload 5, 2) := by decide +kernel
theorem dX8_evaluate_119 : decode cX8_evaluate 119 = .ok (.lstore 5, 2) := by decide +kernel
theorem dX8_evaluate_121 : decode cX8_evaluate 121 = .ok (.iinc 7 1, 3) := by decide +kernel
theorem dX8_evaluate_124 : decode cX8_evaluate 124 = .ok (.goto (-83), 3) := by decide +kernel
theorem dX8_evaluate_127 : decode cX8_evaluate 127 = .ok (.aload_n 0, 1) := by decide +kernel
theorem dX8_evaluate_128 : decode cX8_evaluate 128 = .ok (.getfield 70, 3) := by decide +kernel
theorem dX8_evaluate_131 : decode cX8_evaluate 131 = .ok (.iload_n 2, 1) := by decide +kernel
theorem dX8_evaluate_132 : decode cX8_evaluate 132 = .ok (.lload_n 3, 1) := by decide +kernel
theorem dX8_evaluate_133 : decode cX8_evaluate 133 = .ok (.invokestatic 215, 3) := by decide +kernel
theorem dX8_evaluate_136 : decode cX8_evaluate 136 = .ok (.ifCond .eq 7, 3) := by decide +kernel
theorem dX8_evaluate_139 : decode cX8_evaluate 139 = .ok (.lload_n 3, 1) := by decide +kernel
theorem dX8_evaluate_140 : decode cX8_evaluate 140 = .ok (.goto 28, 3) := by decide +kernel
theorem dX8_evaluate_143 : decode cX8_evaluate 143 = .ok (.lload 5, 2) := by decide +kernel
theorem dX8_evaluate_145 : decode cX8_evaluate 145 = .ok (.invokestatic 215, 3) := by decide +kernel
theorem dX8_evaluate_148 : decode cX8_evaluate 148 = .ok (.ifCond .eq 8, 3) := by decide +kernel
theorem dX8_evaluate_151 : decode cX8_evaluate 151 = .ok (.lload 5, 2) := by decide +kernel
theorem dX8_evaluate_153 : decode cX8_evaluate 153 = .ok (.goto 15, 3) := by decide +kernel
theorem dX8_evaluate_156 : decode cX8_evaluate 156 = .ok (.aload_n 0, 1) := by decide +kernel
theorem dX8_evaluate_157 : decode cX8_evaluate 157 = .ok (.getfield 22, 3) := by decide +kernel
theorem dX8_evaluate_160 : decode cX8_evaluate 160 = .ok (.iload_n 2, 1) := by decide +kernel
theorem dX8_evaluate_161 : decode cX8_evaluate 161 = .ok (.iaload, 1) := by decide +kernel
theorem dX8_evaluate_162 : decode cX8_evaluate 162 = .ok (.lload_n 3, 1) := by decide +kernel
theorem dX8_evaluate_163 : decode cX8_evaluate 163 = .ok (.lload 5, 2) := by decide +kernel
theorem dX8_evaluate_165 : decode cX8_evaluate 165 = .ok (.invokestatic 219, 3) := by decide +kernel
theorem dX8_evaluate_168 : decode cX8_evaluate 168 = .ok (.lastore, 1) := by decide +kernel
theorem dX8_evaluate_169 : decode cX8_evaluate 169 = .ok (.iinc 1 (-1), 3) := by decide +kernel
theorem dX8_evaluate_172 : decode cX8_evaluate 172 = .ok (.goto (-165), 3) := by decide +kernel
theorem dX8_evaluate_175 : decode cX8_evaluate 175 = .ok (.aload_n 0, 1) := by decide +kernel
theorem dX8_evaluate_176 : decode cX8_evaluate 176 = .ok (.getfield 126, 3) := by decide +kernel
theorem dX8_evaluate_179 : decode cX8_evaluate 179 = .ok (.ifCond .ne 11, 3) := by decide +kernel
theorem dX8_evaluate_182 : decode cX8_evaluate 182 = .ok (.aload_n 0, 1) := by decide +kernel
theorem dX8_evaluate_183 : decode cX8_evaluate 183 = .ok (.iconst 0, 1) := by decide +kernel
theorem dX8_evaluate_184 : decode cX8_evaluate 184 = .ok (.invokevirtual 211, 3) := by decide +kernel
theorem dX8_evaluate_187 : decode cX8_evaluate 187 = .ok (.goto 14, 3) := by decide +kernel
theorem dX8_evaluate_190 : decode cX8_evaluate 190 = .ok (.aload_n 0, 1) := by decide +kernel
theorem dX8_evaluate_191 : decode cX8_evaluate 191 = .ok (.getfield 70, 3) := by decide +kernel
theorem dX8_evaluate_194 : decode cX8_evaluate 194 = .ok (.aload_n 0, 1) := by decide +kernel
theorem dX8_evaluate_195 : decode cX8_evaluate 195 = .ok (.getfield 49, 3) := by decide +kernel
theorem dX8_evaluate_198 : decode cX8_evaluate 198 = .ok (.iconst 0, 1) := by decide +kernel
theorem dX8_evaluate_199 : decode cX8_evaluate 199 = .ok (.iaload, 1) := by decide +kernel
theorem dX8_evaluate_200 : decode cX8_evaluate 200 = .ok (.laload, 1) := by decide +kernel
theorem dX8_evaluate_201 : decode cX8_evaluate 201 = .ok (.lreturn, 1) := by decide +kernel
theorem dX8_value_0 : decode cX8_value 0 = .ok (.aload_n 0, 1) := by decide +kernel
theorem dX8_value_1 : decode cX8_value 1 = .ok (.iload_n 1, 1) := by decide +kernel
theorem dX8_value_2 : decode cX8_value 2 = .ok (.invokevirtual 178, 3) := by decide +kernel
theorem dX8_value_5 : decode cX8_value 5 = .ok (.ifCond .eq 16, 3) := by decide +kernel
theorem dX8_value_8 : decode cX8_value 8 = .ok (.iload_n 2, 1) := by decide +kernel
theorem dX8_value_9 : decode cX8_value 9 = .ok (.ifCond .lt 12, 3) := by decide +kernel
theorem dX8_value_12 : decode cX8_value 12 = .ok (.iload_n 2, 1) := by decide +kernel
theorem dX8_value_13 : decode cX8_value 13 = .ok (.aload_n 0, 1) := by decide +kernel
theorem dX8_value_14 : decode cX8_value 14 = .ok (.iload_n 1, 1) := by decide +kernel
theorem dX8_value_15 : decode cX8_value 15 = .ok (.invokevirtual 181, 3) := by decide +kernel
theorem dX8_value_18 : decode cX8_value 18 = .ok (.if_icmp .lt 7, 3) := by decide +kernel
theorem dX8_value_21 : decode cX8_value 21 = .ok (.ldc2_w 223, 3) := by decide +kernel
theorem dX8_value_24 : decode cX8_value 24 = .ok (.lreturn, 1) := by decide +kernel
theorem dX8_value_25 : decode cX8_value 25 = .ok (.aload_n 0, 1) := by decide +kernel
theorem dX8_value_26 : decode cX8_value 26 = .ok (.iload_n 1, 1) := by decide +kernel
theorem dX8_value_27 : decode cX8_value 27 = .ok (.iload_n 2, 1) := by decide +kernel
theorem dX8_value_28 : decode cX8_value 28 = .ok (.invokevirtual 187, 3) := by decide +kernel
theorem dX8_value_31 : decode cX8_value 31 = .ok (.aload_n 0, 1) := by decide +kernel
theorem dX8_value_32 : decode cX8_value 32 = .ok (.invokevirtual 225, 3) := by decide +kernel
theorem dX8_value_35 : decode cX8_value 35 = .ok (.lreturn, 1) := by decide +kernel
theorem dX8_distinctValues_0 : decode cX8_distinctValues 0 = .ok (.aload_n 0, 1) := by decide +kernel
theorem dX8_distinctValues_1 : decode cX8_distinctValues 1 = .ok (.iload_n 1, 1) := by decide +kernel
theorem dX8_distinctValues_2 : decode cX8_distinctValues 2 = .ok (.invokevirtual 178, 3) := by decide +kernel
theorem dX8_distinctValues_5 : decode cX8_distinctValues 5 = .ok (.ifCond .ne 5, 3) := by decide +kernel
theorem dX8_distinctValues_8 : decode cX8_distinctValues 8 = .ok (.iconst (-1), 1) := by decide +kernel
theorem dX8_distinctValues_9 : decode cX8_distinctValues 9 = .ok (.ireturn, 1) := by decide +kernel
theorem dX8_distinctValues_10 : decode cX8_distinctValues 10 = .ok (.aload_n 0, 1) := by decide +kernel
theorem dX8_distinctValues_11 : decode cX8_distinctValues 11 = .ok (.iload_n 1, 1) := by decide +kernel
theorem dX8_distinctValues_12 : decode cX8_distinctValues 12 = .ok (.invokevirtual 181, 3) := by decide +kernel
theorem dX8_distinctValues_15 : decode cX8_distinctValues 15 = .ok (.istore_n 2, 1) := by decide +kernel
theorem dX8_distinctValues_16 : decode cX8_distinctValues 16 = .ok (.iload_n 2, 1) := by decide +kernel
theorem dX8_distinctValues_17 : decode cX8_distinctValues 17 = .ok (.sipush 300, 3) := by decide +kernel
theorem dX8_distinctValues_20 : decode cX8_distinctValues 20 = .ok (.if_icmp .le 6, 3) := by decide +kernel
theorem dX8_distinctValues_23 : decode cX8_distinctValues 23 = .ok (.bipush (-3), 2) := by decide +kernel
theorem dX8_distinctValues_25 : decode cX8_distinctValues 25 = .ok (.ireturn, 1) := by decide +kernel
theorem dX8_distinctValues_26 : decode cX8_distinctValues 26 = .ok (.iconst 0, 1) := by decide +kernel
theorem dX8_distinctValues_27 : decode cX8_distinctValues 27 = .ok (.istore_n 3, 1) := by decide +kernel
theorem dX8_distinctValues_28 : decode cX8_distinctValues 28 = .ok (.iconst 0, 1) := by decide +kernel
theorem dX8_distinctValues_29 : decode cX8_distinctValues 29 = .ok (.istore 4, 2) := by decide +kernel
theorem dX8_distinctValues_31 : decode cX8_distinctValues 31 = .ok (.iload 4, 2) := by decide +kernel
theorem dX8_distinctValues_33 : decode cX8_distinctValues 33 = .ok (.iload_n 2, 1) := by decide +kernel
theorem dX8_distinctValues_34 : decode cX8_distinctValues 34 = .ok (.if_icmp .ge 122, 3) := by decide +kernel
theorem dX8_distinctValues_37 : decode cX8_distinctValues 37 = .ok (.aload_n 0, 1) := by decide +kernel
theorem dX8_distinctValues_38 : decode cX8_distinctValues 38 = .ok (.iload_n 1, 1) := by decide +kernel
theorem dX8_distinctValues_39 : decode cX8_distinctValues 39 = .ok (.iload 4, 2) := by decide +kernel
theorem dX8_distinctValues_41 : decode cX8_distinctValues 41 = .ok (.invokevirtual 187, 3) := by decide +kernel
theorem dX8_distinctValues_44 : decode cX8_distinctValues 44 = .ok (.aload_n 0, 1) := by decide +kernel
theorem dX8_distinctValues_45 : decode cX8_distinctValues 45 = .ok (.invokevirtual 225, 3) := by decide +kernel
theorem dX8_distinctValues_48 : decode cX8_distinctValues 48 = .ok (.lstore 5, 2) := by decide +kernel
theorem dX8_distinctValues_50 : decode cX8_distinctValues 50 = .ok (.iconst 1, 1) := by decide +kernel
theorem dX8_distinctValues_51 : decode cX8_distinctValues 51 = .ok (.istore 7, 2) := by decide +kernel
theorem dX8_distinctValues_53 : decode cX8_distinctValues 53 = .ok (.iconst 0, 1) := by decide +kernel
theorem dX8_distinctValues_54 : decode cX8_distinctValues 54 = .ok (.istore 8, 2) := by decide +kernel
theorem dX8_distinctValues_56 : decode cX8_distinctValues 56 = .ok (.iload 8, 2) := by decide +kernel
theorem dX8_distinctValues_58 : decode cX8_distinctValues 58 = .ok (.iload_n 3, 1) := by decide +kernel
theorem dX8_distinctValues_59 : decode cX8_distinctValues 59 = .ok (.if_icmp .ge 34, 3) := by decide +kernel
theorem dX8_distinctValues_62 : decode cX8_distinctValues 62 = .ok (.iload 7, 2) := by decide +kernel
theorem dX8_distinctValues_64 : decode cX8_distinctValues 64 = .ok (.ifCond .eq 20, 3) := by decide +kernel
theorem dX8_distinctValues_67 : decode cX8_distinctValues 67 = .ok (.aload_n 0, 1) := by decide +kernel
theorem dX8_distinctValues_68 : decode cX8_distinctValues 68 = .ok (.getfield 74, 3) := by decide +kernel
theorem dX8_distinctValues_71 : decode cX8_distinctValues 71 = .ok (.iload 8, 2) := by decide +kernel
theorem dX8_distinctValues_73 : decode cX8_distinctValues 73 = .ok (.laload, 1) := by decide +kernel
theorem dX8_distinctValues_74 : decode cX8_distinctValues 74 = .ok (.lload 5, 2) := by decide +kernel
theorem dX8_distinctValues_76 : decode cX8_distinctValues 76 = .ok (.lcmp, 1) := by decide +kernel
theorem dX8_distinctValues_77 : decode cX8_distinctValues 77 = .ok (.ifCond .eq 7, 3) := by decide +kernel
theorem dX8_distinctValues_80 : decode cX8_distinctValues 80 = .ok (.iconst 1, 1) := by decide +kernel
theorem dX8_distinctValues_81 : decode cX8_distinctValues 81 = .ok (.goto 4, 3) := by decide +kernel
theorem dX8_distinctValues_84 : decode cX8_distinctValues 84 = .ok (.iconst 0, 1) := by decide +kernel
theorem dX8_distinctValues_85 : decode cX8_distinctValues 85 = .ok (.istore 7, 2) := by decide +kernel
theorem dX8_distinctValues_87 : decode cX8_distinctValues 87 = .ok (.iinc 8 1, 3) := by decide +kernel
theorem dX8_distinctValues_90 : decode cX8_distinctValues 90 = .ok (.goto (-34), 3) := by decide +kernel
theorem dX8_distinctValues_93 : decode cX8_distinctValues 93 = .ok (.aload_n 0, 1) := by decide +kernel
theorem dX8_distinctValues_94 : decode cX8_distinctValues 94 = .ok (.getfield 74, 3) := by decide +kernel
theorem dX8_distinctValues_97 : decode cX8_distinctValues 97 = .ok (.iload_n 3, 1) := by decide +kernel
theorem dX8_distinctValues_98 : decode cX8_distinctValues 98 = .ok (.sipush 300, 3) := by decide +kernel
theorem dX8_distinctValues_101 : decode cX8_distinctValues 101 = .ok (.if_icmp .ge 7, 3) := by decide +kernel
theorem dX8_distinctValues_104 : decode cX8_distinctValues 104 = .ok (.iload_n 3, 1) := by decide +kernel
theorem dX8_distinctValues_105 : decode cX8_distinctValues 105 = .ok (.goto 4, 3) := by decide +kernel
theorem dX8_distinctValues_108 : decode cX8_distinctValues 108 = .ok (.iconst 0, 1) := by decide +kernel
theorem dX8_distinctValues_109 : decode cX8_distinctValues 109 = .ok (.iload 7, 2) := by decide +kernel
theorem dX8_distinctValues_111 : decode cX8_distinctValues 111 = .ok (.ifCond .eq 8, 3) := by decide +kernel
theorem dX8_distinctValues_114 : decode cX8_distinctValues 114 = .ok (.lload 5, 2) := by decide +kernel
theorem dX8_distinctValues_116 : decode cX8_distinctValues 116 = .ok (.goto 20, 3) := by decide +kernel
theorem dX8_distinctValues_119 : decode cX8_distinctValues 119 = .ok (.aload_n 0, 1) := by decide +kernel
theorem dX8_distinctValues_120 : decode cX8_distinctValues 120 = .ok (.getfield 74, 3) := by decide +kernel
theorem dX8_distinctValues_123 : decode cX8_distinctValues 123 = .ok (.iload_n 3, 1) := by decide +kernel
theorem dX8_distinctValues_124 : decode cX8_distinctValues 124 = .ok (.sipush 300, 3) := by decide +kernel
theorem dX8_distinctValues_127 : decode cX8_distinctValues 127 = .ok (.if_icmp .ge 7, 3) := by decide +kernel
theorem dX8_distinctValues_130 : decode cX8_distinctValues 130 = .ok (.iload_n 3, 1) := by decide +kernel
theorem dX8_distinctValues_131 : decode cX8_distinctValues 131 = .ok (.goto 4, 3) := by decide +kernel
theorem dX8_distinctValues_134 : decode cX8_distinctValues 134 = .ok (.iconst 0, 1) := by decide +kernel
theorem dX8_distinctValues_135 : decode cX8_distinctValues 135 = .ok (.laload, 1) := by decide +kernel
theorem dX8_distinctValues_136 : decode cX8_distinctValues 136 = .ok (.lastore, 1) := by decide +kernel
theorem dX8_distinctValues_137 : decode cX8_distinctValues 137 = .ok (.iload_n 3, 1) := by decide +kernel
theorem dX8_distinctValues_138 : decode cX8_distinctValues 138 = .ok (.iload 7, 2) := by decide +kernel
theorem dX8_distinctValues_140 : decode cX8_distinctValues 140 = .ok (.ifCond .eq 7, 3) := by decide +kernel
theorem dX8_distinctValues_143 : decode cX8_distinctValues 143 = .ok (.iconst 1, 1) := by decide +kernel
theorem dX8_distinctValues_144 : decode cX8_distinctValues 144 = .ok (.goto 4, 3) := by decide +kernel
theorem dX8_distinctValues_147 : decode cX8_distinctValues 147 = .ok (.iconst 0, 1) := by decide +kernel
theorem dX8_distinctValues_148 : decode cX8_distinctValues 148 = .ok (.iadd, 1) := by decide +kernel
theorem dX8_distinctValues_149 : decode cX8_distinctValues 149 = .ok (.istore_n 3, 1) := by decide +kernel
theorem dX8_distinctValues_150 : decode cX8_distinctValues 150 = .ok (.iinc 4 1, 3) := by decide +kernel
theorem dX8_distinctValues_153 : decode cX8_distinctValues 153 = .ok (.goto (-122), 3) := by decide +kernel
theorem dX8_distinctValues_156 : decode cX8_distinctValues 156 = .ok (.iload_n 3, 1) := by decide +kernel
theorem dX8_distinctValues_157 : decode cX8_distinctValues 157 = .ok (.ireturn, 1) := by decide +kernel
theorem dX8_operatorCount_0 : decode cX8_operatorCount 0 = .ok (.aload_n 0, 1) := by decide +kernel
theorem dX8_operatorCount_1 : decode cX8_operatorCount 1 = .ok (.getfield 126, 3) := by decide +kernel
theorem dX8_operatorCount_4 : decode cX8_operatorCount 4 = .ok (.ireturn, 1) := by decide +kernel
theorem dX8_filterCount_0 : decode cX8_filterCount 0 = .ok (.aload_n 0, 1) := by decide +kernel
theorem dX8_filterCount_1 : decode cX8_filterCount 1 = .ok (.getfield 7, 3) := by decide +kernel
theorem dX8_filterCount_4 : decode cX8_filterCount 4 = .ok (.iconst 0, 1) := by decide +kernel
theorem dX8_filterCount_5 : decode cX8_filterCount 5 = .ok (.iaload, 1) := by decide +kernel
theorem dX8_filterCount_6 : decode cX8_filterCount 6 = .ok (.ireturn, 1) := by decide +kernel
theorem dX8_historySize_0 : decode cX8_historySize 0 = .ok (.aload_n 0, 1) := by decide +kernel
theorem dX8_historySize_1 : decode cX8_historySize 1 = .ok (.getfield 129, 3) := by decide +kernel
theorem dX8_historySize_4 : decode cX8_historySize 4 = .ok (.ireturn, 1) := by decide +kernel
