theorem dX8_init_0 : decode cX8_init 0 = .ok (.aload_n 0, 1) := by decide +kernel
theorem dX8_init_1 : decode cX8_init 1 = .ok (.invokespecial 1, 3) := by decide +kernel
theorem dX8_init_4 : decode cX8_init 4 = .ok (.aload_n 0, 1) := by decide +kernel
theorem dX8_init_5 : decode cX8_init 5 = .ok (.sipush 1436, 3) := by decide +kernel
theorem dX8_init_8 : decode cX8_init 8 = .ok (.newarray .int, 2) := by decide +kernel
theorem dX8_init_10 : decode cX8_init 10 = .ok (.putfield 9, 3) := by decide +kernel
theorem dX8_init_13 : decode cX8_init 13 = .ok (.aload_n 0, 1) := by decide +kernel
theorem dX8_init_14 : decode cX8_init 14 = .ok (.sipush 1436, 3) := by decide +kernel
theorem dX8_init_17 : decode cX8_init 17 = .ok (.newarray .int, 2) := by decide +kernel
theorem dX8_init_19 : decode cX8_init 19 = .ok (.putfield 13, 3) := by decide +kernel
theorem dX8_init_22 : decode cX8_init 22 = .ok (.aload_n 0, 1) := by decide +kernel
theorem dX8_init_23 : decode cX8_init 23 = .ok (.sipush 1436, 3) := by decide +kernel
theorem dX8_init_26 : decode cX8_init 26 = .ok (.newarray .int, 2) := by decide +kernel
theorem dX8_init_28 : decode cX8_init 28 = .ok (.putfield 16, 3) := by decide +kernel
theorem dX8_init_31 : decode cX8_init 31 = .ok (.aload_n 0, 1) := by decide +kernel
theorem dX8_init_32 : decode cX8_init 32 = .ok (.bipush 10, 2) := by decide +kernel
theorem dX8_init_34 : decode cX8_init 34 = .ok (.newarray .int, 2) := by decide +kernel
theorem dX8_init_36 : decode cX8_init 36 = .ok (.putfield 19, 3) := by decide +kernel
theorem dX8_init_39 : decode cX8_init 39 = .ok (.aload_n 0, 1) := by decide +kernel
theorem dX8_init_40 : decode cX8_init 40 = .ok (.bipush 10, 2) := by decide +kernel
theorem dX8_init_42 : decode cX8_init 42 = .ok (.newarray .int, 2) := by decide +kernel
theorem dX8_init_44 : decode cX8_init 44 = .ok (.putfield 22, 3) := by decide +kernel
theorem dX8_init_47 : decode cX8_init 47 = .ok (.aload_n 0, 1) := by decide +kernel
theorem dX8_init_48 : decode cX8_init 48 = .ok (.bipush 64, 2) := by decide +kernel
theorem dX8_init_50 : decode cX8_init 50 = .ok (.newarray .int, 2) := by decide +kernel
theorem dX8_init_52 : decode cX8_init 52 = .ok (.putfield 25, 3) := by decide +kernel
theorem dX8_init_55 : decode cX8_init 55 = .ok (.aload_n 0, 1) := by decide +kernel
theorem dX8_init_56 : decode cX8_init 56 = .ok (.bipush 96, 2) := by decide +kernel
theorem dX8_init_58 : decode cX8_init 58 = .ok (.newarray .int, 2) := by decide +kernel
theorem dX8_init_60 : decode cX8_init 60 = .ok (.putfield 28, 3) := by decide +kernel
theorem dX8_init_63 : decode cX8_init 63 = .ok (.aload_n 0, 1) := by decide +kernel
theorem dX8_init_64 : decode cX8_init 64 = .ok (.bipush 11, 2) := by decide +kernel
theorem dX8_init_66 : decode cX8_init 66 = .ok (.newarray .char, 2) := by decide +kernel
theorem dX8_init_68 : decode cX8_init 68 = .ok (.dup, 1) := by decide +kernel
theorem dX8_init_69 : decode cX8_init 69 = .ok (.iconst 0, 1) := by decide +kernel
theorem dX8_init_70 : decode cX8_init 70 = .ok (.bipush 104, 2) := by decide +kernel
theorem dX8_init_72 : decode cX8_init 72 = .ok (.castore, 1) := by decide +kernel
theorem dX8_init_73 : decode cX8_init 73 = .ok (.dup, 1) := by decide +kernel
theorem dX8_init_74 : decode cX8_init 74 = .ok (.iconst 1, 1) := by decide +kernel
theorem dX8_init_75 : decode cX8_init 75 = .ok (.bipush 117, 2) := by decide +kernel
theorem dX8_init_77 : decode cX8_init 77 = .ok (.castore, 1) := by decide +kernel
theorem dX8_init_78 : decode cX8_init 78 = .ok (.dup, 1) := by decide +kernel
theorem dX8_init_79 : decode cX8_init 79 = .ok (.iconst 2, 1) := by decide +kernel
theorem dX8_init_80 : decode cX8_init 80 = .ok (.bipush 114, 2) := by decide +kernel
theorem dX8_init_82 : decode cX8_init 82 = .ok (.castore, 1) := by decide +kernel
theorem dX8_init_83 : decode cX8_init 83 = .ok (.dup, 1) := by decide +kernel
theorem dX8_init_84 : decode cX8_init 84 = .ok (.iconst 3, 1) := by decide +kernel
theorem dX8_init_85 : decode cX8_init 85 = .ok (.bipush 116, 2) := by decide +kernel
theorem dX8_init_87 : decode cX8_init 87 = .ok (.castore, 1) := by decide +kernel
theorem dX8_init_88 : decode cX8_init 88 = .ok (.dup, 1) := by decide +kernel
theorem dX8_init_89 : decode cX8_init 89 = .ok (.iconst 4, 1) := by decide +kernel
theorem dX8_init_90 : decode cX8_init 90 = .ok (.bipush 102, 2) := by decide +kernel
theorem dX8_init_92 : decode cX8_init 92 = .ok (.castore, 1) := by decide +kernel
theorem dX8_init_93 : decode cX8_init 93 = .ok (.dup, 1) := by decide +kernel
theorem dX8_init_94 : decode cX8_init 94 = .ok (.iconst 5, 1) := by decide +kernel
theorem dX8_init_95 : decode cX8_init 95 = .ok (.bipush 101, 2) := by decide +kernel
theorem dX8_init_97 : decode cX8_init 97 = .ok (.castore, 1) := by decide +kernel
theorem dX8_init_98 : decode cX8_init 98 = .ok (.dup, 1) := by decide +kernel
theorem dX8_init_99 : decode cX8_init 99 = .ok (.bipush 6, 2) := by decide +kernel
theorem dX8_init_101 : decode cX8_init 101 = .ok (.bipush 101, 2) := by decide +kernel
theorem dX8_init_103 : decode cX8_init 103 = .ok (.castore, 1) := by decide +kernel
theorem dX8_init_104 : decode cX8_init 104 = .ok (.dup, 1) := by decide +kernel
theorem dX8_init_105 : decode cX8_init 105 = .ok (.bipush 7, 2) := by decide +kernel
theorem dX8_init_107 : decode cX8_init 107 = .ok (.bipush 102, 2) := by decide +kernel
theorem dX8_init_109 : decode cX8_init 109 = .ok (.castore, 1) := by decide +kernel
theorem dX8_init_110 : decode cX8_init 110 = .ok (.dup, 1) := by decide +kernel
theorem dX8_init_111 : decode cX8_init 111 = .ok (.bipush 8, 2) := by decide +kernel
theorem dX8_init_113 : decode cX8_init 113 = .ok (.bipush 105, 2) := by decide +kernel
theorem dX8_init_115 : decode cX8_init 115 = .ok (.castore, 1) := by decide +kernel
theorem dX8_init_116 : decode cX8_init 116 = .ok (.dup, 1) := by decide +kernel
theorem dX8_init_117 : decode cX8_init 117 = .ok (.bipush 9, 2) := by decide +kernel
theorem dX8_init_119 : decode cX8_init 119 = .ok (.bipush 110, 2) := by decide +kernel
theorem dX8_init_121 : decode cX8_init 121 = .ok (.castore, 1) := by decide +kernel
theorem dX8_init_122 : decode cX8_init 122 = .ok (.dup, 1) := by decide +kernel
theorem dX8_init_123 : decode cX8_init 123 = .ok (.bipush 10, 2) := by decide +kernel
theorem dX8_init_125 : decode cX8_init 125 = .ok (.bipush 101, 2) := by decide +kernel
theorem dX8_init_127 : decode cX8_init 127 = .ok (.castore, 1) := by decide +kernel
theorem dX8_init_128 : decode cX8_init 128 = .ok (.putfield 31, 3) := by decide +kernel
theorem dX8_init_131 : decode cX8_init 131 = .ok (.aload_n 0, 1) := by decide +kernel
theorem dX8_init_132 : decode cX8_init 132 = .ok (.iconst 4, 1) := by decide +kernel
theorem dX8_init_133 : decode cX8_init 133 = .ok (.newarray .int, 2) := by decide +kernel
theorem dX8_init_135 : decode cX8_init 135 = .ok (.dup, 1) := by decide +kernel
theorem dX8_init_136 : decode cX8_init 136 = .ok (.iconst 0, 1) := by decide +kernel
theorem dX8_init_137 : decode cX8_init 137 = .ok (.iconst 0, 1) := by decide +kernel
theorem dX8_init_138 : decode cX8_init 138 = .ok (.iastore, 1) := by decide +kernel
theorem dX8_init_139 : decode cX8_init 139 = .ok (.dup, 1) := by decide +kernel
theorem dX8_init_140 : decode cX8_init 140 = .ok (.iconst 1, 1) := by decide +kernel
theorem dX8_init_141 : decode cX8_init 141 = .ok (.iconst 4, 1) := by decide +kernel
theorem dX8_init_142 : decode cX8_init 142 = .ok (.iastore, 1) := by decide +kernel
theorem dX8_init_143 : decode cX8_init 143 = .ok (.dup, 1) := by decide +kernel
theorem dX8_init_144 : decode cX8_init 144 = .ok (.iconst 2, 1) := by decide +kernel
theorem dX8_init_145 : decode cX8_init 145 = .ok (.bipush 7, 2) := by decide +kernel
theorem dX8_init_147 : decode cX8_init 147 = .ok (.iastore, 1) := by decide +kernel
theorem dX8_init_148 : decode cX8_init 148 = .ok (.dup, 1) := by decide +kernel
theorem dX8_init_149 : decode cX8_init 149 = .ok (.iconst 3, 1) := by decide +kernel
theorem dX8_init_150 : decode cX8_init 150 = .ok (.bipush 11, 2) := by decide +kernel
theorem dX8_init_152 : decode cX8_init 152 = .ok (.iastore, 1) := by decide +kernel
theorem dX8_init_153 : decode cX8_init 153 = .ok (.putfield 35, 3) := by decide +kernel
theorem dX8_init_156 : decode cX8_init 156 = .ok (.aload_n 0, 1) := by decide +kernel
theorem dX8_init_157 : decode cX8_init 157 = .ok (.bipush 96, 2) := by decide +kernel
theorem dX8_init_159 : decode cX8_init 159 = .ok (.newarray .int, 2) := by decide +kernel
theorem dX8_init_161 : decode cX8_init 161 = .ok (.putfield 38, 3) := by decide +kernel
theorem dX8_init_164 : decode cX8_init 164 = .ok (.aload_n 0, 1) := by decide +kernel
theorem dX8_init_165 : decode cX8_init 165 = .ok (.bipush 96, 2) := by decide +kernel
theorem dX8_init_167 : decode cX8_init 167 = .ok (.newarray .int, 2) := by decide +kernel
theorem dX8_init_169 : decode cX8_init 169 = .ok (.putfield 41, 3) := by decide +kernel
theorem dX8_init_172 : decode cX8_init 172 = .ok (.aload_n 0, 1) := by decide +kernel
theorem dX8_init_173 : decode cX8_init 173 = .ok (.bipush 10, 2) := by decide +kernel
theorem dX8_init_175 : decode cX8_init 175 = .ok (.newarray .boolean, 2) := by decide +kernel
theorem dX8_init_177 : decode cX8_init 177 = .ok (.putfield 44, 3) := by decide +kernel
theorem dX8_init_180 : decode cX8_init 180 = .ok (.aload_n 0, 1) := by decide +kernel
theorem dX8_init_181 : decode cX8_init 181 = .ok (.bipush 96, 2) := by decide +kernel
theorem dX8_init_183 : decode cX8_init 183 = .ok (.newarray .int, 2) := by decide +kernel
theorem dX8_init_185 : decode cX8_init 185 = .ok (.putfield 48, 3) := by decide +kernel
theorem dX8_init_188 : decode cX8_init 188 = .ok (.aload_n 0, 1) := by decide +kernel
theorem dX8_init_189 : decode cX8_init 189 = .ok (.iconst 4, 1) := by decide +kernel
theorem dX8_init_190 : decode cX8_init 190 = .ok (.newarray .int, 2) := by decide +kernel
theorem dX8_init_192 : decode cX8_init 192 = .ok (.putfield 51, 3) := by decide +kernel
theorem dX8_init_195 : decode cX8_init 195 = .ok (.aload_n 0, 1) := by decide +kernel
theorem dX8_init_196 : decode cX8_init 196 = .ok (.iconst 4, 1) := by decide +kernel
theorem dX8_init_197 : decode cX8_init 197 = .ok (.newarray .int, 2) := by decide +kernel
theorem dX8_init_199 : decode cX8_init 199 = .ok (.dup, 1) := by decide +kernel
theorem dX8_init_200 : decode cX8_init 200 = .ok (.iconst 0, 1) := by decide +kernel
theorem dX8_init_201 : decode cX8_init 201 = .ok (.iconst (-1), 1) := by decide +kernel
theorem dX8_init_202 : decode cX8_init 202 = .ok (.iastore, 1) := by decide +kernel
theorem dX8_init_203 : decode cX8_init 203 = .ok (.dup, 1) := by decide +kernel
theorem dX8_init_204 : decode cX8_init 204 = .ok (.iconst 1, 1) := by decide +kernel
theorem dX8_init_205 : decode cX8_init 205 = .ok (.iconst (-1), 1) := by decide +kernel
theorem dX8_init_206 : decode cX8_init 206 = .ok (.iastore, 1) := by decide +kernel
theorem dX8_init_207 : decode cX8_init 207 = .ok (.dup, 1) := by decide +kernel
theorem dX8_init_208 : decode cX8_init 208 = .ok (.iconst 2, 1) := by decide +kernel
theorem dX8_init_209 : decode cX8_init 209 = .ok (.iconst (-1), 1) := by decide +kernel
theorem dX8_init_210 : decode cX8_init 210 = .ok (.iastore, 1) := by decide +kernel
theorem dX8_init_211 : decode cX8_init 211 = .ok (.dup, 1) := by decide +kernel
theorem dX8_init_212 : decode cX8_init 212 = .ok (.iconst 3, 1) := by decide +kernel
theorem dX8_init_213 : decode cX8_init 213 = .ok (.iconst (-1), 1) := by decide +kernel
theorem dX8_init_214 : decode cX8_init 214 = .ok (.iastore, 1) := by decide +kernel
theorem dX8_init_215 : decode cX8_init 215 = .ok (.putfield 54, 3) := by decide +kernel
theorem dX8_init_218 : decode cX8_init 218 = .ok (.aload_n 0, 1) := by decide +kernel
theorem dX8_init_219 : decode cX8_init 219 = .ok (.iconst 4, 1) := by decide +kernel
theorem dX8_init_220 : decode cX8_init 220 = .ok (.newarray .int, 2) := by decide +kernel
theorem dX8_init_222 : decode cX8_init 222 = .ok (.putfield 57, 3) := by decide +kernel
theorem dX8_init_225 : decode cX8_init 225 = .ok (.aload_n 0, 1) := by decide +kernel
theorem dX8_init_226 : decode cX8_init 226 = .ok (.bipush 96, 2) := by decide +kernel
theorem dX8_init_228 : decode cX8_init 228 = .ok (.newarray .int, 2) := by decide +kernel
theorem dX8_init_230 : decode cX8_init 230 = .ok (.putfield 60, 3) := by decide +kernel
theorem dX8_init_233 : decode cX8_init 233 = .ok (.aload_n 0, 1) := by decide +kernel
theorem dX8_init_234 : decode cX8_init 234 = .ok (.iconst 5, 1) := by decide +kernel
theorem dX8_init_235 : decode cX8_init 235 = .ok (.newarray .int, 2) := by decide +kernel
theorem dX8_init_237 : decode cX8_init 237 = .ok (.putfield 63, 3) := by decide +kernel
theorem dX8_init_240 : decode cX8_init 240 = .ok (.aload_n 0, 1) := by decide +kernel
theorem dX8_init_241 : decode cX8_init 241 = .ok (.iconst 5, 1) := by decide +kernel
theorem dX8_init_242 : decode cX8_init 242 = .ok (.newarray .int, 2) := by decide +kernel
theorem dX8_init_244 : decode cX8_init 244 = .ok (.putfield 66, 3) := by decide +kernel
theorem dX8_init_247 : decode cX8_init 247 = .ok (.aload_n 0, 1) := by decide +kernel
theorem dX8_init_248 : decode cX8_init 248 = .ok (.iconst 5, 1) := by decide +kernel
theorem dX8_init_249 : decode cX8_init 249 = .ok (.newarray .int, 2) := by decide +kernel
theorem dX8_init_251 : decode cX8_init 251 = .ok (.putfield 69, 3) := by decide +kernel
theorem dX8_init_254 : decode cX8_init 254 = .ok (.aload_n 0, 1) := by decide +kernel
theorem dX8_init_255 : decode cX8_init 255 = .ok (.bipush 120, 2) := by decide +kernel
theorem dX8_init_257 : decode cX8_init 257 = .ok (.newarray .int, 2) := by decide +kernel
theorem dX8_init_259 : decode cX8_init 259 = .ok (.putfield 72, 3) := by decide +kernel
theorem dX8_init_262 : decode cX8_init 262 = .ok (.aload_n 0, 1) := by decide +kernel
theorem dX8_init_263 : decode cX8_init 263 = .ok (.bipush 24, 2) := by decide +kernel
theorem dX8_init_265 : decode cX8_init 265 = .ok (.newarray .int, 2) := by decide +kernel
theorem dX8_init_267 : decode cX8_init 267 = .ok (.putfield 75, 3) := by decide +kernel
theorem dX8_init_270 : decode cX8_init 270 = .ok (.aload_n 0, 1) := by decide +kernel
theorem dX8_init_271 : decode cX8_init 271 = .ok (.bipush 60, 2) := by decide +kernel
theorem dX8_init_273 : decode cX8_init 273 = .ok (.newarray .int, 2) := by decide +kernel
theorem dX8_init_275 : decode cX8_init 275 = .ok (.putfield 78, 3) := by decide +kernel
theorem dX8_init_278 : decode cX8_init 278 = .ok (.aload_n 0, 1) := by decide +kernel
theorem dX8_init_279 : decode cX8_init 279 = .ok (.getfield 9, 3) := by decide +kernel
theorem dX8_init_282 : decode cX8_init 282 = .ok (.iconst 0, 1) := by decide +kernel
theorem dX8_init_283 : decode cX8_init 283 = .ok (.iconst 1, 1) := by decide +kernel
theorem dX8_init_284 : decode cX8_init 284 = .ok (.iastore, 1) := by decide +kernel
theorem dX8_init_285 : decode cX8_init 285 = .ok (.aload_n 0, 1) := by decide +kernel
theorem dX8_init_286 : decode cX8_init 286 = .ok (.getfield 9, 3) := by decide +kernel
theorem dX8_init_289 : decode cX8_init 289 = .ok (.iconst 3, 1) := by decide +kernel
theorem dX8_init_290 : decode cX8_init 290 = .ok (.bipush 10, 2) := by decide +kernel
theorem dX8_init_292 : decode cX8_init 292 = .ok (.iastore, 1) := by decide +kernel
theorem dX8_init_293 : decode cX8_init 293 = .ok (.aload_n 0, 1) := by decide +kernel
theorem dX8_init_294 : decode cX8_init 294 = .ok (.getfield 9, 3) := by decide +kernel
theorem dX8_init_297 : decode cX8_init 297 = .ok (.iconst 4, 1) := by decide +kernel
theorem dX8_init_298 : decode cX8_init 298 = .ok (.iconst 1, 1) := by decide +kernel
theorem dX8_init_299 : decode cX8_init 299 = .ok (.iastore, 1) := by decide +kernel
theorem dX8_init_300 : decode cX8_init 300 = .ok (.aload_n 0, 1) := by decide +kernel
theorem dX8_init_301 : decode cX8_init 301 = .ok (.getfield 9, 3) := by decide +kernel
theorem dX8_init_304 : decode cX8_init 304 = .ok (.bipush 12, 2) := by decide +kernel
theorem dX8_init_306 : decode cX8_init 306 = .ok (.iconst (-1), 1) := by decide +kernel
theorem dX8_init_307 : decode cX8_init 307 = .ok (.iastore, 1) := by decide +kernel
theorem dX8_init_308 : decode cX8_init 308 = .ok (.return_, 1) := by decide +kernel
theorem dX8_in_0 : decode cX8_in 0 = .ok (.iload_n 0, 1) := by decide +kernel
theorem dX8_in_1 : decode cX8_in 1 = .ok (.iload_n 1, 1) := by decide +kernel
theorem dX8_in_2 : decode cX8_in 2 = .ok (.if_icmp .lt 12, 3) := by decide +kernel
theorem dX8_in_5 : decode cX8_in 5 = .ok (.iload_n 0, 1) := by decide +kernel
theorem dX8_in_6 : decode cX8_in 6 = .ok (.iload_n 2, 1) := by decide +kernel
theorem dX8_in_7 : decode cX8_in 7 = .ok (.if_icmp .gt 7, 3) := by decide +kernel
theorem dX8_in_10 : decode cX8_in 10 = .ok (.iconst 1, 1) := by decide +kernel
theorem dX8_in_11 : decode cX8_in 11 = .ok (.goto 4, 3) := by decide +kernel
theorem dX8_in_14 : decode cX8_in 14 = .ok (.iconst 0, 1) := by decide +kernel
theorem dX8_in_15 : decode cX8_in 15 = .ok (.ireturn, 1) := by decide +kernel
theorem dX8_within_0 : decode cX8_within 0 = .ok (.iload_n 0, 1) := by decide +kernel
theorem dX8_within_1 : decode cX8_within 1 = .ok (.iload_n 1, 1) := by decide +kernel
theorem dX8_within_2 : decode cX8_within 2 = .ok (.if_icmp .ge 7, 3) := by decide +kernel
theorem dX8_within_5 : decode cX8_within 5 = .ok (.iload_n 1, 1) := by decide +kernel
theorem dX8_within_6 : decode cX8_within 6 = .ok (.goto 13, 3) := by decide +kernel
theorem dX8_within_9 : decode cX8_within 9 = .ok (.iload_n 0, 1) := by decide +kernel
theorem dX8_within_10 : decode cX8_within 10 = .ok (.iload_n 2, 1) := by decide +kernel
theorem dX8_within_11 : decode cX8_within 11 = .ok (.if_icmp .le 7, 3) := by decide +kernel
theorem dX8_within_14 : decode cX8_within 14 = .ok (.iload_n 2, 1) := by decide +kernel
theorem dX8_within_15 : decode cX8_within 15 = .ok (.goto 4, 3) := by decide +kernel
theorem dX8_within_18 : decode cX8_within 18 = .ok (.iload_n 0, 1) := by decide +kernel
theorem dX8_within_19 : decode cX8_within 19 = .ok (.ireturn, 1) := by decide +kernel
theorem dX8_copyAll_0 : decode cX8_copyAll 0 = .ok (.iconst 0, 1) := by decide +kernel
theorem dX8_copyAll_1 : decode cX8_copyAll 1 = .ok (.istore_n 2, 1) := by decide +kernel
theorem dX8_copyAll_2 : decode cX8_copyAll 2 = .ok (.iload_n 2, 1) := by decide +kernel
theorem dX8_copyAll_3 : decode cX8_copyAll 3 = .ok (.sipush 1436, 3) := by decide +kernel
theorem dX8_copyAll_6 : decode cX8_copyAll 6 = .ok (.if_icmp .ge 15, 3) := by decide +kernel
theorem dX8_copyAll_9 : decode cX8_copyAll 9 = .ok (.aload_n 1, 1) := by decide +kernel
theorem dX8_copyAll_10 : decode cX8_copyAll 10 = .ok (.iload_n 2, 1) := by decide +kernel
theorem dX8_copyAll_11 : decode cX8_copyAll 11 = .ok (.aload_n 0, 1) := by decide +kernel
theorem dX8_copyAll_12 : decode cX8_copyAll 12 = .ok (.iload_n 2, 1) := by decide +kernel
theorem dX8_copyAll_13 : decode cX8_copyAll 13 = .ok (.iaload, 1) := by decide +kernel
theorem dX8_copyAll_14 : decode cX8_copyAll 14 = .ok (.iastore, 1) := by decide +kernel
theorem dX8_copyAll_15 : decode cX8_copyAll 15 = .ok (.iinc 2 1, 3) := by decide +kernel
theorem dX8_copyAll_18 : decode cX8_copyAll 18 = .ok (.goto (-16), 3) := by decide +kernel
theorem dX8_copyAll_21 : decode cX8_copyAll 21 = .ok (.return_, 1) := by decide +kernel
theorem dX8_isRun_0 : decode cX8_isRun 0 = .ok (.iload_n 1, 1) := by decide +kernel
theorem dX8_isRun_1 : decode cX8_isRun 1 = .ok (.iconst 0, 1) := by decide +kernel
theorem dX8_isRun_2 : decode cX8_isRun 2 = .ok (.aload_n 0, 1) := by decide +kernel
theorem dX8_isRun_3 : decode cX8_isRun 3 = .ok (.getfield 9, 3) := by decide +kernel
theorem dX8_isRun_6 : decode cX8_isRun 6 = .ok (.iconst 1, 1) := by decide +kernel
theorem dX8_isRun_7 : decode cX8_isRun 7 = .ok (.iaload, 1) := by decide +kernel
theorem dX8_isRun_8 : decode cX8_isRun 8 = .ok (.iconst 1, 1) := by decide +kernel
theorem dX8_isRun_9 : decode cX8_isRun 9 = .ok (.isub, 1) := by decide +kernel
theorem dX8_isRun_10 : decode cX8_isRun 10 = .ok (.invokestatic 81, 3) := by decide +kernel
theorem dX8_isRun_13 : decode cX8_isRun 13 = .ok (.ireturn, 1) := by decide +kernel
theorem dX8_isCell_0 : decode cX8_isCell 0 = .ok (.iload_n 0, 1) := by decide +kernel
theorem dX8_isCell_1 : decode cX8_isCell 1 = .ok (.iconst 0, 1) := by decide +kernel
theorem dX8_isCell_2 : decode cX8_isCell 2 = .ok (.bipush 35, 2) := by decide +kernel
theorem dX8_isCell_4 : decode cX8_isCell 4 = .ok (.invokestatic 81, 3) := by decide +kernel
theorem dX8_isCell_7 : decode cX8_isCell 7 = .ok (.ireturn, 1) := by decide +kernel
theorem dX8_of_0 : decode cX8_of 0 = .ok (.aload_n 0, 1) := by decide +kernel
theorem dX8_of_1 : decode cX8_of 1 = .ok (.getfield 9, 3) := by decide +kernel
theorem dX8_of_4 : decode cX8_of 4 = .ok (.bipush 14, 2) := by decide +kernel
theorem dX8_of_6 : decode cX8_of 6 = .ok (.iconst 5, 1) := by decide +kernel
theorem dX8_of_7 : decode cX8_of 7 = .ok (.iload_n 1, 1) := by decide +kernel
theorem dX8_of_8 : decode cX8_of 8 = .ok (.imul, 1) := by decide +kernel
theorem dX8_of_9 : decode cX8_of 9 = .ok (.iadd, 1) := by decide +kernel
theorem dX8_of_10 : decode cX8_of 10 = .ok (.iload_n 2, 1) := by decide +kernel
theorem dX8_of_11 : decode cX8_of 11 = .ok (.iadd, 1) := by decide +kernel
theorem dX8_of_12 : decode cX8_of 12 = .ok (.iaload, 1) := by decide +kernel
theorem dX8_of_13 : decode cX8_of 13 = .ok (.ireturn, 1) := by decide +kernel
theorem dX8_put_0 : decode cX8_put 0 = .ok (.aload_n 0, 1) := by decide +kernel
theorem dX8_put_1 : decode cX8_put 1 = .ok (.getfield 9, 3) := by decide +kernel
theorem dX8_put_4 : decode cX8_put 4 = .ok (.bipush 14, 2) := by decide +kernel
theorem dX8_put_6 : decode cX8_put 6 = .ok (.iconst 5, 1) := by decide +kernel
theorem dX8_put_7 : decode cX8_put 7 = .ok (.iload_n 1, 1) := by decide +kernel
theorem dX8_put_8 : decode cX8_put 8 = .ok (.imul, 1) := by decide +kernel
theorem dX8_put_9 : decode cX8_put 9 = .ok (.iadd, 1) := by decide +kernel
theorem dX8_put_10 : decode cX8_put 10 = .ok (.iload_n 2, 1) := by decide +kernel
theorem dX8_put_11 : decode cX8_put 11 = .ok (.iadd, 1) := by decide +kernel
theorem dX8_put_12 : decode cX8_put 12 = .ok (.iload_n 3, 1) := by decide +kernel
theorem dX8_put_13 : decode cX8_put 13 = .ok (.iastore, 1) := by decide +kernel
theorem dX8_put_14 : decode cX8_put 14 = .ok (.return_, 1) := by decide +kernel
theorem dX8_becomes_0 : decode cX8_becomes 0 = .ok (.aload_n 0, 1) := by decide +kernel
theorem dX8_becomes_1 : decode cX8_becomes 1 = .ok (.getfield 9, 3) := by decide +kernel
theorem dX8_becomes_4 : decode cX8_becomes 4 = .ok (.iload_n 1, 1) := by decide +kernel
theorem dX8_becomes_5 : decode cX8_becomes 5 = .ok (.iaload, 1) := by decide +kernel
theorem dX8_becomes_6 : decode cX8_becomes 6 = .ok (.istore_n 3, 1) := by decide +kernel
theorem dX8_becomes_7 : decode cX8_becomes 7 = .ok (.aload_n 0, 1) := by decide +kernel
theorem dX8_becomes_8 : decode cX8_becomes 8 = .ok (.getfield 9, 3) := by decide +kernel
theorem dX8_becomes_11 : decode cX8_becomes 11 = .ok (.iload_n 1, 1) := by decide +kernel
theorem dX8_becomes_12 : decode cX8_becomes 12 = .ok (.iload_n 2, 1) := by decide +kernel
theorem dX8_becomes_13 : decode cX8_becomes 13 = .ok (.iastore, 1) := by decide +kernel
theorem dX8_becomes_14 : decode cX8_becomes 14 = .ok (.iload_n 3, 1) := by decide +kernel
theorem dX8_becomes_15 : decode cX8_becomes 15 = .ok (.ireturn, 1) := by decide +kernel
theorem dX8_comes_0 : decode cX8_comes 0 = .ok (.aload_n 0, 1) := by decide +kernel
theorem dX8_comes_1 : decode cX8_comes 1 = .ok (.getfield 9, 3) := by decide +kernel
theorem dX8_comes_4 : decode cX8_comes 4 = .ok (.iconst 1, 1) := by decide +kernel
theorem dX8_comes_5 : decode cX8_comes 5 = .ok (.iaload, 1) := by decide +kernel
theorem dX8_comes_6 : decode cX8_comes 6 = .ok (.istore 5, 2) := by decide +kernel
theorem dX8_comes_8 : decode cX8_comes 8 = .ok (.aload_n 0, 1) := by decide +kernel
theorem dX8_comes_9 : decode cX8_comes 9 = .ok (.getfield 9, 3) := by decide +kernel
theorem dX8_comes_12 : decode cX8_comes 12 = .ok (.iconst 1, 1) := by decide +kernel
theorem dX8_comes_13 : decode cX8_comes 13 = .ok (.dup2, 1) := by decide +kernel
theorem dX8_comes_14 : decode cX8_comes 14 = .ok (.iaload, 1) := by decide +kernel
theorem dX8_comes_15 : decode cX8_comes 15 = .ok (.iconst 1, 1) := by decide +kernel
theorem dX8_comes_16 : decode cX8_comes 16 = .ok (.iadd, 1) := by decide +kernel
theorem dX8_comes_17 : decode cX8_comes 17 = .ok (.iastore, 1) := by decide +kernel
theorem dX8_comes_18 : decode cX8_comes 18 = .ok (.aload_n 0, 1) := by decide +kernel
theorem dX8_comes_19 : decode cX8_comes 19 = .ok (.iload 5, 2) := by decide +kernel
theorem dX8_comes_21 : decode cX8_comes 21 = .ok (.iconst 0, 1) := by decide +kernel
theorem dX8_comes_22 : decode cX8_comes 22 = .ok (.iload_n 1, 1) := by decide +kernel
theorem dX8_comes_23 : decode cX8_comes 23 = .ok (.invokevirtual 85, 3) := by decide +kernel
theorem dX8_comes_26 : decode cX8_comes 26 = .ok (.aload_n 0, 1) := by decide +kernel
theorem dX8_comes_27 : decode cX8_comes 27 = .ok (.iload 5, 2) := by decide +kernel
theorem dX8_comes_29 : decode cX8_comes 29 = .ok (.iconst 1, 1) := by decide +kernel
theorem dX8_comes_30 : decode cX8_comes 30 = .ok (.iload_n 2, 1) := by decide +kernel
theorem dX8_comes_31 : decode cX8_comes 31 = .ok (.invokevirtual 85, 3) := by decide +kernel
theorem dX8_comes_34 : decode cX8_comes 34 = .ok (.aload_n 0, 1) := by decide +kernel
theorem dX8_comes_35 : decode cX8_comes 35 = .ok (.iload 5, 2) := by decide +kernel
theorem dX8_comes_37 : decode cX8_comes 37 = .ok (.iconst 2, 1) := by decide +kernel
theorem dX8_comes_38 : decode cX8_comes 38 = .ok (.iload_n 3, 1) := by decide +kernel
theorem dX8_comes_39 : decode cX8_comes 39 = .ok (.invokevirtual 85, 3) := by decide +kernel
theorem dX8_comes_42 : decode cX8_comes 42 = .ok (.aload_n 0, 1) := by decide +kernel
theorem dX8_comes_43 : decode cX8_comes 43 = .ok (.iload 5, 2) := by decide +kernel
theorem dX8_comes_45 : decode cX8_comes 45 = .ok (.iconst 3, 1) := by decide +kernel
theorem dX8_comes_46 : decode cX8_comes 46 = .ok (.iload 4, 2) := by decide +kernel
theorem dX8_comes_48 : decode cX8_comes 48 = .ok (.invokevirtual 85, 3) := by decide +kernel
theorem dX8_comes_51 : decode cX8_comes 51 = .ok (.aload_n 0, 1) := by decide +kernel
theorem dX8_comes_52 : decode cX8_comes 52 = .ok (.iload 5, 2) := by decide +kernel
theorem dX8_comes_54 : decode cX8_comes 54 = .ok (.iconst 4, 1) := by decide +kernel
theorem dX8_comes_55 : decode cX8_comes 55 = .ok (.sipush 1000, 3) := by decide +kernel
theorem dX8_comes_58 : decode cX8_comes 58 = .ok (.iload_n 3, 1) := by decide +kernel
theorem dX8_comes_59 : decode cX8_comes 59 = .ok (.imul, 1) := by decide +kernel
theorem dX8_comes_60 : decode cX8_comes 60 = .ok (.invokevirtual 85, 3) := by decide +kernel
theorem dX8_comes_63 : decode cX8_comes 63 = .ok (.iload 5, 2) := by decide +kernel
theorem dX8_comes_65 : decode cX8_comes 65 = .ok (.ireturn, 1) := by decide +kernel
theorem dX8_isOf_0 : decode cX8_isOf 0 = .ok (.iload_n 0, 1) := by decide +kernel
theorem dX8_isOf_1 : decode cX8_isOf 1 = .ok (.iconst 1, 1) := by decide +kernel
theorem dX8_isOf_2 : decode cX8_isOf 2 = .ok (.if_icmp .ne 10, 3) := by decide +kernel
theorem dX8_isOf_5 : decode cX8_isOf 5 = .ok (.iload_n 1, 1) := by decide +kernel
theorem dX8_isOf_6 : decode cX8_isOf 6 = .ok (.invokestatic 89, 3) := by decide +kernel
theorem dX8_isOf_9 : decode cX8_isOf 9 = .ok (.goto 20, 3) := by decide +kernel
theorem dX8_isOf_12 : decode cX8_isOf 12 = .ok (.iload_n 1, 1) := by decide +kernel
theorem dX8_isOf_13 : decode cX8_isOf 13 = .ok (.iconst 1, 1) := by decide +kernel
theorem dX8_isOf_14 : decode cX8_isOf 14 = .ok (.iload_n 0, 1) := by decide +kernel
theorem dX8_isOf_15 : decode cX8_isOf 15 = .ok (.iconst 2, 1) := by decide +kernel
theorem dX8_isOf_16 : decode cX8_isOf 16 = .ok (.if_icmp .ne 8, 3) := by decide +kernel
theorem dX8_isOf_19 : decode cX8_isOf 19 = .ok (.bipush 99, 2) := by decide +kernel
theorem dX8_isOf_21 : decode cX8_isOf 21 = .ok (.goto 5, 3) := by decide +kernel
theorem dX8_isOf_24 : decode cX8_isOf 24 = .ok (.bipush 9, 2) := by decide +kernel
theorem dX8_isOf_26 : decode cX8_isOf 26 = .ok (.invokestatic 81, 3) := by decide +kernel
theorem dX8_isOf_29 : decode cX8_isOf 29 = .ok (.ireturn, 1) := by decide +kernel
theorem dX8_run_0 : decode cX8_run 0 = .ok (.iload_n 1, 1) := by decide +kernel
theorem dX8_run_1 : decode cX8_run 1 = .ok (.iconst 0, 1) := by decide +kernel
theorem dX8_run_2 : decode cX8_run 2 = .ok (.iconst 5, 1) := by decide +kernel
theorem dX8_run_3 : decode cX8_run 3 = .ok (.invokestatic 81, 3) := by decide +kernel
theorem dX8_run_6 : decode cX8_run 6 = .ok (.ifCond .eq 28, 3) := by decide +kernel
theorem dX8_run_9 : decode cX8_run 9 = .ok (.iconst 1, 1) := by decide +kernel
theorem dX8_run_10 : decode cX8_run 10 = .ok (.iload_n 2, 1) := by decide +kernel
theorem dX8_run_11 : decode cX8_run 11 = .ok (.invokestatic 93, 3) := by decide +kernel
theorem dX8_run_14 : decode cX8_run 14 = .ok (.ifCond .eq 20, 3) := by decide +kernel
theorem dX8_run_17 : decode cX8_run 17 = .ok (.iconst 2, 1) := by decide +kernel
theorem dX8_run_18 : decode cX8_run 18 = .ok (.iload_n 3, 1) := by decide +kernel
theorem dX8_run_19 : decode cX8_run 19 = .ok (.invokestatic 93, 3) := by decide +kernel
theorem dX8_run_22 : decode cX8_run 22 = .ok (.ifCond .eq 12, 3) := by decide +kernel
theorem dX8_run_25 : decode cX8_run 25 = .ok (.iconst 3, 1) := by decide +kernel
theorem dX8_run_26 : decode cX8_run 26 = .ok (.iload 4, 2) := by decide +kernel
theorem dX8_run_28 : decode cX8_run 28 = .ok (.invokestatic 93, 3) := by decide +kernel
theorem dX8_run_31 : decode cX8_run 31 = .ok (.ifCond .ne 6, 3) := by decide +kernel
theorem dX8_run_34 : decode cX8_run 34 = .ok (.ldc 97, 2) := by decide +kernel
theorem dX8_run_36 : decode cX8_run 36 = .ok (.ireturn, 1) := by decide +kernel
theorem dX8_run_37 : decode cX8_run 37 = .ok (.aload_n 0, 1) := by decide +kernel
theorem dX8_run_38 : decode cX8_run 38 = .ok (.getfield 9, 3) := by decide +kernel
theorem dX8_run_41 : decode cX8_run 41 = .ok (.iconst 1, 1) := by decide +kernel
theorem dX8_run_42 : decode cX8_run 42 = .ok (.iaload, 1) := by decide +kernel
theorem dX8_run_43 : decode cX8_run 43 = .ok (.bipush 10, 2) := by decide +kernel
theorem dX8_run_45 : decode cX8_run 45 = .ok (.if_icmp .ne 8, 3) := by decide +kernel
theorem dX8_run_48 : decode cX8_run 48 = .ok (.ldc 98, 2) := by decide +kernel
theorem dX8_run_50 : decode cX8_run 50 = .ok (.goto 12, 3) := by decide +kernel
theorem dX8_run_53 : decode cX8_run 53 = .ok (.aload_n 0, 1) := by decide +kernel
theorem dX8_run_54 : decode cX8_run 54 = .ok (.iload_n 1, 1) := by decide +kernel
theorem dX8_run_55 : decode cX8_run 55 = .ok (.iload_n 2, 1) := by decide +kernel
theorem dX8_run_56 : decode cX8_run 56 = .ok (.iload_n 3, 1) := by decide +kernel
theorem dX8_run_57 : decode cX8_run 57 = .ok (.iload 4, 2) := by decide +kernel
theorem dX8_run_59 : decode cX8_run 59 = .ok (.invokevirtual 99, 3) := by decide +kernel
theorem dX8_run_62 : decode cX8_run 62 = .ok (.ireturn, 1) := by decide +kernel
theorem dX8_doesPass_0 : decode cX8_doesPass 0 = .ok (.iload_n 2, 1) := by decide +kernel
theorem dX8_doesPass_1 : decode cX8_doesPass 1 = .ok (.bipush 6, 2) := by decide +kernel
theorem dX8_doesPass_3 : decode cX8_doesPass 3 = .ok (.idiv, 1) := by decide +kernel
theorem dX8_doesPass_4 : decode cX8_doesPass 4 = .ok (.aload_n 0, 1) := by decide +kernel
theorem dX8_doesPass_5 : decode cX8_doesPass 5 = .ok (.iload_n 1, 1) := by decide +kernel
theorem dX8_doesPass_6 : decode cX8_doesPass 6 = .ok (.iconst 1, 1) := by decide +kernel
theorem dX8_doesPass_7 : decode cX8_doesPass 7 = .ok (.invokevirtual 103, 3) := by decide +kernel
theorem dX8_doesPass_10 : decode cX8_doesPass 10 = .ok (.bipush 6, 2) := by decide +kernel
theorem dX8_doesPass_12 : decode cX8_doesPass 12 = .ok (.idiv, 1) := by decide +kernel
theorem dX8_doesPass_13 : decode cX8_doesPass 13 = .ok (.isub, 1) := by decide +kernel
theorem dX8_doesPass_14 : decode cX8_doesPass 14 = .ok (.istore_n 3, 1) := by decide +kernel
theorem dX8_doesPass_15 : decode cX8_doesPass 15 = .ok (.iload_n 2, 1) := by decide +kernel
theorem dX8_doesPass_16 : decode cX8_doesPass 16 = .ok (.bipush 6, 2) := by decide +kernel
theorem dX8_doesPass_18 : decode cX8_doesPass 18 = .ok (.irem, 1) := by decide +kernel
theorem dX8_doesPass_19 : decode cX8_doesPass 19 = .ok (.istore 4, 2) := by decide +kernel
theorem dX8_doesPass_21 : decode cX8_doesPass 21 = .ok (.aload_n 0, 1) := by decide +kernel
theorem dX8_doesPass_22 : decode cX8_doesPass 22 = .ok (.iload_n 1, 1) := by decide +kernel
theorem dX8_doesPass_23 : decode cX8_doesPass 23 = .ok (.iconst 1, 1) := by decide +kernel
theorem dX8_doesPass_24 : decode cX8_doesPass 24 = .ok (.invokevirtual 103, 3) := by decide +kernel
theorem dX8_doesPass_27 : decode cX8_doesPass 27 = .ok (.bipush 6, 2) := by decide +kernel
theorem dX8_doesPass_29 : decode cX8_doesPass 29 = .ok (.irem, 1) := by decide +kernel
theorem dX8_doesPass_30 : decode cX8_doesPass 30 = .ok (.istore 5, 2) := by decide +kernel
theorem dX8_doesPass_32 : decode cX8_doesPass 32 = .ok (.aload_n 0, 1) := by decide +kernel
theorem dX8_doesPass_33 : decode cX8_doesPass 33 = .ok (.iload_n 1, 1) := by decide +kernel
theorem dX8_doesPass_34 : decode cX8_doesPass 34 = .ok (.iconst 0, 1) := by decide +kernel
theorem dX8_doesPass_35 : decode cX8_doesPass 35 = .ok (.invokevirtual 103, 3) := by decide +kernel
theorem dX8_doesPass_38 : decode cX8_doesPass 38 = .ok (.tableswitch 129 2 5 #[30, 47, 71, 98], 30) := by decide +kernel
theorem dX8_doesPass_68 : decode cX8_doesPass 68 = .ok (.iload_n 3, 1) := by decide +kernel
theorem dX8_doesPass_69 : decode cX8_doesPass 69 = .ok (.ifCond .ne 14, 3) := by decide +kernel
theorem dX8_doesPass_72 : decode cX8_doesPass 72 = .ok (.iload 4, 2) := by decide +kernel
theorem dX8_doesPass_74 : decode cX8_doesPass 74 = .ok (.iload 5, 2) := by decide +kernel
theorem dX8_doesPass_76 : decode cX8_doesPass 76 = .ok (.if_icmp .lt 7, 3) := by decide +kernel
theorem dX8_doesPass_79 : decode cX8_doesPass 79 = .ok (.iconst 1, 1) := by decide +kernel
theorem dX8_doesPass_80 : decode cX8_doesPass 80 = .ok (.goto 4, 3) := by decide +kernel
theorem dX8_doesPass_83 : decode cX8_doesPass 83 = .ok (.iconst 0, 1) := by decide +kernel
theorem dX8_doesPass_84 : decode cX8_doesPass 84 = .ok (.ireturn, 1) := by decide +kernel
theorem dX8_doesPass_85 : decode cX8_doesPass 85 = .ok (.iload_n 3, 1) := by decide +kernel
theorem dX8_doesPass_86 : decode cX8_doesPass 86 = .ok (.ifCond .lt 21, 3) := by decide +kernel
theorem dX8_doesPass_89 : decode cX8_doesPass 89 = .ok (.iload 4, 2) := by decide +kernel
theorem dX8_doesPass_91 : decode cX8_doesPass 91 = .ok (.iload 5, 2) := by decide +kernel
theorem dX8_doesPass_93 : decode cX8_doesPass 93 = .ok (.iload_n 3, 1) := by decide +kernel
theorem dX8_doesPass_94 : decode cX8_doesPass 94 = .ok (.iadd, 1) := by decide +kernel
theorem dX8_doesPass_95 : decode cX8_doesPass 95 = .ok (.iconst 0, 1) := by decide +kernel
theorem dX8_doesPass_96 : decode cX8_doesPass 96 = .ok (.iconst 5, 1) := by decide +kernel
theorem dX8_doesPass_97 : decode cX8_doesPass 97 = .ok (.invokestatic 107, 3) := by decide +kernel
theorem dX8_doesPass_100 : decode cX8_doesPass 100 = .ok (.if_icmp .ne 7, 3) := by decide +kernel
theorem dX8_doesPass_103 : decode cX8_doesPass 103 = .ok (.iconst 1, 1) := by decide +kernel
theorem dX8_doesPass_104 : decode cX8_doesPass 104 = .ok (.goto 4, 3) := by decide +kernel
theorem dX8_doesPass_107 : decode cX8_doesPass 107 = .ok (.iconst 0, 1) := by decide +kernel
theorem dX8_doesPass_108 : decode cX8_doesPass 108 = .ok (.ireturn, 1) := by decide +kernel
theorem dX8_doesPass_109 : decode cX8_doesPass 109 = .ok (.iload_n 3, 1) := by decide +kernel
theorem dX8_doesPass_110 : decode cX8_doesPass 110 = .ok (.ifCond .ne 10, 3) := by decide +kernel
theorem dX8_doesPass_113 : decode cX8_doesPass 113 = .ok (.iload 4, 2) := by decide +kernel
theorem dX8_doesPass_115 : decode cX8_doesPass 115 = .ok (.iload 5, 2) := by decide +kernel
theorem dX8_doesPass_117 : decode cX8_doesPass 117 = .ok (.if_icmp .ge 13, 3) := by decide +kernel
theorem dX8_doesPass_120 : decode cX8_doesPass 120 = .ok (.iload_n 3, 1) := by decide +kernel
theorem dX8_doesPass_121 : decode cX8_doesPass 121 = .ok (.ifCond .le 13, 3) := by decide +kernel
theorem dX8_doesPass_124 : decode cX8_doesPass 124 = .ok (.iload 4, 2) := by decide +kernel
theorem dX8_doesPass_126 : decode cX8_doesPass 126 = .ok (.iconst 5, 1) := by decide +kernel
theorem dX8_doesPass_127 : decode cX8_doesPass 127 = .ok (.if_icmp .ne 7, 3) := by decide +kernel
theorem dX8_doesPass_130 : decode cX8_doesPass 130 = .ok (.iconst 1, 1) := by decide +kernel
theorem dX8_doesPass_131 : decode cX8_doesPass 131 = .ok (.goto 4, 3) := by decide +kernel
theorem dX8_doesPass_134 : decode cX8_doesPass 134 = .ok (.iconst 0, 1) := by decide +kernel
theorem dX8_doesPass_135 : decode cX8_doesPass 135 = .ok (.ireturn, 1) := by decide +kernel
theorem dX8_doesPass_136 : decode cX8_doesPass 136 = .ok (.iload 4, 2) := by decide +kernel
theorem dX8_doesPass_138 : decode cX8_doesPass 138 = .ok (.iload 5, 2) := by decide +kernel
theorem dX8_doesPass_140 : decode cX8_doesPass 140 = .ok (.if_icmp .eq 21, 3) := by decide +kernel
theorem dX8_doesPass_143 : decode cX8_doesPass 143 = .ok (.iload 4, 2) := by decide +kernel
theorem dX8_doesPass_145 : decode cX8_doesPass 145 = .ok (.iload 5, 2) := by decide +kernel
theorem dX8_doesPass_147 : decode cX8_doesPass 147 = .ok (.isub, 1) := by decide +kernel
theorem dX8_doesPass_148 : decode cX8_doesPass 148 = .ok (.iconst 3, 1) := by decide +kernel
theorem dX8_doesPass_149 : decode cX8_doesPass 149 = .ok (.if_icmp .eq 12, 3) := by decide +kernel
theorem dX8_doesPass_152 : decode cX8_doesPass 152 = .ok (.iload 5, 2) := by decide +kernel
theorem dX8_doesPass_154 : decode cX8_doesPass 154 = .ok (.iload 4, 2) := by decide +kernel
theorem dX8_doesPass_156 : decode cX8_doesPass 156 = .ok (.isub, 1) := by decide +kernel
theorem dX8_doesPass_157 : decode cX8_doesPass 157 = .ok (.iconst 3, 1) := by decide +kernel
theorem dX8_doesPass_158 : decode cX8_doesPass 158 = .ok (.if_icmp .ne 7, 3) := by decide +kernel
theorem dX8_doesPass_161 : decode cX8_doesPass 161 = .ok (.iconst 1, 1) := by decide +kernel
theorem dX8_doesPass_162 : decode cX8_doesPass 162 = .ok (.goto 4, 3) := by decide +kernel
theorem dX8_doesPass_165 : decode cX8_doesPass 165 = .ok (.iconst 0, 1) := by decide +kernel
theorem dX8_doesPass_166 : decode cX8_doesPass 166 = .ok (.ireturn, 1) := by decide +kernel
theorem dX8_doesPass_167 : decode cX8_doesPass 167 = .ok (.iload_n 3, 1) := by decide +kernel
theorem dX8_doesPass_168 : decode cX8_doesPass 168 = .ok (.ifCond .lt 14, 3) := by decide +kernel
theorem dX8_doesPass_171 : decode cX8_doesPass 171 = .ok (.iload 4, 2) := by decide +kernel
theorem dX8_doesPass_173 : decode cX8_doesPass 173 = .ok (.iload 5, 2) := by decide +kernel
theorem dX8_doesPass_175 : decode cX8_doesPass 175 = .ok (.if_icmp .ne 7, 3) := by decide +kernel
theorem dX8_doesPass_178 : decode cX8_doesPass 178 = .ok (.iconst 1, 1) := by decide +kernel
theorem dX8_doesPass_179 : decode cX8_doesPass 179 = .ok (.goto 4, 3) := by decide +kernel
theorem dX8_doesPass_182 : decode cX8_doesPass 182 = .ok (.iconst 0, 1) := by decide +kernel
theorem dX8_doesPass_183 : decode cX8_doesPass 183 = .ok (.ireturn, 1) := by decide +kernel
theorem dX8_doesTell_0 : decode cX8_doesTell 0 = .ok (.aload_n 0, 1) := by decide +kernel
theorem dX8_doesTell_1 : decode cX8_doesTell 1 = .ok (.iload_n 1, 1) := by decide +kernel
theorem dX8_doesTell_2 : decode cX8_doesTell 2 = .ok (.iload_n 3, 1) := by decide +kernel
theorem dX8_doesTell_3 : decode cX8_doesTell 3 = .ok (.invokevirtual 111, 3) := by decide +kernel
theorem dX8_doesTell_6 : decode cX8_doesTell 6 = .ok (.istore 4, 2) := by decide +kernel
theorem dX8_doesTell_8 : decode cX8_doesTell 8 = .ok (.aload_n 0, 1) := by decide +kernel
theorem dX8_doesTell_9 : decode cX8_doesTell 9 = .ok (.iload_n 1, 1) := by decide +kernel
theorem dX8_doesTell_10 : decode cX8_doesTell 10 = .ok (.iconst 0, 1) := by decide +kernel
theorem dX8_doesTell_11 : decode cX8_doesTell 11 = .ok (.invokevirtual 103, 3) := by decide +kernel
theorem dX8_doesTell_14 : decode cX8_doesTell 14 = .ok (.istore 5, 2) := by decide +kernel
theorem dX8_doesTell_16 : decode cX8_doesTell 16 = .ok (.iload 5, 2) := by decide +kernel
theorem dX8_doesTell_18 : decode cX8_doesTell 18 = .ok (.iconst 2, 1) := by decide +kernel
theorem dX8_doesTell_19 : decode cX8_doesTell 19 = .ok (.if_icmp .eq 9, 3) := by decide +kernel
theorem dX8_doesTell_22 : decode cX8_doesTell 22 = .ok (.iload 5, 2) := by decide +kernel
theorem dX8_doesTell_24 : decode cX8_doesTell 24 = .ok (.iconst 4, 1) := by decide +kernel
theorem dX8_doesTell_25 : decode cX8_doesTell 25 = .ok (.if_icmp .ne 7, 3) := by decide +kernel
theorem dX8_doesTell_28 : decode cX8_doesTell 28 = .ok (.iconst 1, 1) := by decide +kernel
theorem dX8_doesTell_29 : decode cX8_doesTell 29 = .ok (.goto 4, 3) := by decide +kernel
theorem dX8_doesTell_32 : decode cX8_doesTell 32 = .ok (.iconst 0, 1) := by decide +kernel
theorem dX8_doesTell_33 : decode cX8_doesTell 33 = .ok (.istore 6, 2) := by decide +kernel
theorem dX8_doesTell_35 : decode cX8_doesTell 35 = .ok (.iload_n 2, 1) := by decide +kernel
theorem dX8_doesTell_36 : decode cX8_doesTell 36 = .ok (.tableswitch 121 0 2 #[28, 60, 105], 28) := by decide +kernel
theorem dX8_doesTell_64 : decode cX8_doesTell 64 = .ok (.iload 4, 2) := by decide +kernel
theorem dX8_doesTell_66 : decode cX8_doesTell 66 = .ok (.ifCond .eq 28, 3) := by decide +kernel
theorem dX8_doesTell_69 : decode cX8_doesTell 69 = .ok (.iload 5, 2) := by decide +kernel
theorem dX8_doesTell_71 : decode cX8_doesTell 71 = .ok (.iconst 5, 1) := by decide +kernel
theorem dX8_doesTell_72 : decode cX8_doesTell 72 = .ok (.if_icmp .eq 18, 3) := by decide +kernel
theorem dX8_doesTell_75 : decode cX8_doesTell 75 = .ok (.iload 6, 2) := by decide +kernel
theorem dX8_doesTell_77 : decode cX8_doesTell 77 = .ok (.ifCond .eq 17, 3) := by decide +kernel
theorem dX8_doesTell_80 : decode cX8_doesTell 80 = .ok (.aload_n 0, 1) := by decide +kernel
theorem dX8_doesTell_81 : decode cX8_doesTell 81 = .ok (.iload_n 1, 1) := by decide +kernel
theorem dX8_doesTell_82 : decode cX8_doesTell 82 = .ok (.iconst 3, 1) := by decide +kernel
theorem dX8_doesTell_83 : decode cX8_doesTell 83 = .ok (.invokevirtual 103, 3) := by decide +kernel
theorem dX8_doesTell_86 : decode cX8_doesTell 86 = .ok (.iconst 4, 1) := by decide +kernel
theorem dX8_doesTell_87 : decode cX8_doesTell 87 = .ok (.if_icmp .ge 7, 3) := by decide +kernel
theorem dX8_doesTell_90 : decode cX8_doesTell 90 = .ok (.iconst 1, 1) := by decide +kernel
theorem dX8_doesTell_91 : decode cX8_doesTell 91 = .ok (.goto 4, 3) := by decide +kernel
theorem dX8_doesTell_94 : decode cX8_doesTell 94 = .ok (.iconst 0, 1) := by decide +kernel
theorem dX8_doesTell_95 : decode cX8_doesTell 95 = .ok (.ireturn, 1) := by decide +kernel
theorem dX8_doesTell_96 : decode cX8_doesTell 96 = .ok (.iload 4, 2) := by decide +kernel
theorem dX8_doesTell_98 : decode cX8_doesTell 98 = .ok (.ifCond .eq 41, 3) := by decide +kernel
theorem dX8_doesTell_101 : decode cX8_doesTell 101 = .ok (.iload 6, 2) := by decide +kernel
theorem dX8_doesTell_103 : decode cX8_doesTell 103 = .ok (.ifCond .eq 17, 3) := by decide +kernel
theorem dX8_doesTell_106 : decode cX8_doesTell 106 = .ok (.aload_n 0, 1) := by decide +kernel
theorem dX8_doesTell_107 : decode cX8_doesTell 107 = .ok (.iload_n 1, 1) := by decide +kernel
theorem dX8_doesTell_108 : decode cX8_doesTell 108 = .ok (.iconst 3, 1) := by decide +kernel
theorem dX8_doesTell_109 : decode cX8_doesTell 109 = .ok (.invokevirtual 103, 3) := by decide +kernel
theorem dX8_doesTell_112 : decode cX8_doesTell 112 = .ok (.bipush 7, 2) := by decide +kernel
theorem dX8_doesTell_114 : decode cX8_doesTell 114 = .ok (.if_icmp .ge 25, 3) := by decide +kernel
theorem dX8_doesTell_117 : decode cX8_doesTell 117 = .ok (.goto 18, 3) := by decide +kernel
theorem dX8_doesTell_120 : decode cX8_doesTell 120 = .ok (.iload 5, 2) := by decide +kernel
theorem dX8_doesTell_122 : decode cX8_doesTell 122 = .ok (.iconst 5, 1) := by decide +kernel
theorem dX8_doesTell_123 : decode cX8_doesTell 123 = .ok (.if_icmp .ne 12, 3) := by decide +kernel
theorem dX8_doesTell_126 : decode cX8_doesTell 126 = .ok (.iload_n 3, 1) := by decide +kernel
theorem dX8_doesTell_127 : decode cX8_doesTell 127 = .ok (.bipush 6, 2) := by decide +kernel
theorem dX8_doesTell_129 : decode cX8_doesTell 129 = .ok (.idiv, 1) := by decide +kernel
theorem dX8_doesTell_130 : decode cX8_doesTell 130 = .ok (.iconst 2, 1) := by decide +kernel
theorem dX8_doesTell_131 : decode cX8_doesTell 131 = .ok (.irem, 1) := by decide +kernel
theorem dX8_doesTell_132 : decode cX8_doesTell 132 = .ok (.ifCond .ne 7, 3) := by decide +kernel
theorem dX8_doesTell_135 : decode cX8_doesTell 135 = .ok (.iconst 1, 1) := by decide +kernel
theorem dX8_doesTell_136 : decode cX8_doesTell 136 = .ok (.goto 4, 3) := by decide +kernel
theorem dX8_doesTell_139 : decode cX8_doesTell 139 = .ok (.iconst 0, 1) := by decide +kernel
theorem dX8_doesTell_140 : decode cX8_doesTell 140 = .ok (.ireturn, 1) := by decide +kernel
theorem dX8_doesTell_141 : decode cX8_doesTell 141 = .ok (.iload 4, 2) := by decide +kernel
theorem dX8_doesTell_143 : decode cX8_doesTell 143 = .ok (.ifCond .eq 12, 3) := by decide +kernel
theorem dX8_doesTell_146 : decode cX8_doesTell 146 = .ok (.iload 6, 2) := by decide +kernel
theorem dX8_doesTell_148 : decode cX8_doesTell 148 = .ok (.ifCond .eq 7, 3) := by decide +kernel
theorem dX8_doesTell_151 : decode cX8_doesTell 151 = .ok (.iconst 1, 1) := by decide +kernel
theorem dX8_doesTell_152 : decode cX8_doesTell 152 = .ok (.goto 4, 3) := by decide +kernel
theorem dX8_doesTell_155 : decode cX8_doesTell 155 = .ok (.iconst 0, 1) := by decide +kernel
theorem dX8_doesTell_156 : decode cX8_doesTell 156 = .ok (.ireturn, 1) := by decide +kernel
theorem dX8_doesTell_157 : decode cX8_doesTell 157 = .ok (.iload 4, 2) := by decide +kernel
theorem dX8_doesTell_159 : decode cX8_doesTell 159 = .ok (.ireturn, 1) := by decide +kernel
theorem dX8_hurtBy_0 : decode cX8_hurtBy 0 = .ok (.aload_n 0, 1) := by decide +kernel
theorem dX8_hurtBy_1 : decode cX8_hurtBy 1 = .ok (.iconst 0, 1) := by decide +kernel
theorem dX8_hurtBy_2 : decode cX8_hurtBy 2 = .ok (.invokevirtual 114, 3) := by decide +kernel
theorem dX8_hurtBy_5 : decode cX8_hurtBy 5 = .ok (.istore_n 2, 1) := by decide +kernel
theorem dX8_hurtBy_6 : decode cX8_hurtBy 6 = .ok (.aload_n 0, 1) := by decide +kernel
theorem dX8_hurtBy_7 : decode cX8_hurtBy 7 = .ok (.getfield 51, 3) := by decide +kernel
theorem dX8_hurtBy_10 : decode cX8_hurtBy 10 = .ok (.iconst 0, 1) := by decide +kernel
theorem dX8_hurtBy_11 : decode cX8_hurtBy 11 = .ok (.aload_n 0, 1) := by decide +kernel
theorem dX8_hurtBy_12 : decode cX8_hurtBy 12 = .ok (.iload_n 1, 1) := by decide +kernel
theorem dX8_hurtBy_13 : decode cX8_hurtBy 13 = .ok (.iconst 3, 1) := by decide +kernel
theorem dX8_hurtBy_14 : decode cX8_hurtBy 14 = .ok (.invokevirtual 103, 3) := by decide +kernel
theorem dX8_hurtBy_17 : decode cX8_hurtBy 17 = .ok (.iastore, 1) := by decide +kernel
theorem dX8_hurtBy_18 : decode cX8_hurtBy 18 = .ok (.aload_n 0, 1) := by decide +kernel
theorem dX8_hurtBy_19 : decode cX8_hurtBy 19 = .ok (.getfield 51, 3) := by decide +kernel
theorem dX8_hurtBy_22 : decode cX8_hurtBy 22 = .ok (.iconst 1, 1) := by decide +kernel
theorem dX8_hurtBy_23 : decode cX8_hurtBy 23 = .ok (.aload_n 0, 1) := by decide +kernel
theorem dX8_hurtBy_24 : decode cX8_hurtBy 24 = .ok (.getfield 9, 3) := by decide +kernel
theorem dX8_hurtBy_27 : decode cX8_hurtBy 27 = .ok (.iconst 4, 1) := by decide +kernel
theorem dX8_hurtBy_28 : decode cX8_hurtBy 28 = .ok (.iaload, 1) := by decide +kernel
theorem dX8_hurtBy_29 : decode cX8_hurtBy 29 = .ok (.iastore, 1) := by decide +kernel
theorem dX8_hurtBy_30 : decode cX8_hurtBy 30 = .ok (.aload_n 0, 1) := by decide +kernel
theorem dX8_hurtBy_31 : decode cX8_hurtBy 31 = .ok (.getfield 51, 3) := by decide +kernel
theorem dX8_hurtBy_34 : decode cX8_hurtBy 34 = .ok (.iconst 2, 1) := by decide +kernel
theorem dX8_hurtBy_35 : decode cX8_hurtBy 35 = .ok (.aload_n 0, 1) := by decide +kernel
theorem dX8_hurtBy_36 : decode cX8_hurtBy 36 = .ok (.iload_n 1, 1) := by decide +kernel
theorem dX8_hurtBy_37 : decode cX8_hurtBy 37 = .ok (.iconst 2, 1) := by decide +kernel
theorem dX8_hurtBy_38 : decode cX8_hurtBy 38 = .ok (.invokevirtual 103, 3) := by decide +kernel
theorem dX8_hurtBy_41 : decode cX8_hurtBy 41 = .ok (.iastore, 1) := by decide +kernel
theorem dX8_hurtBy_42 : decode cX8_hurtBy 42 = .ok (.iload_n 2, 1) := by decide +kernel
theorem dX8_hurtBy_43 : decode cX8_hurtBy 43 = .ok (.ifCond .ge 12, 3) := by decide +kernel
theorem dX8_hurtBy_46 : decode cX8_hurtBy 46 = .ok (.aload_n 0, 1) := by decide +kernel
theorem dX8_hurtBy_47 : decode cX8_hurtBy 47 = .ok (.iload_n 1, 1) := by decide +kernel
theorem dX8_hurtBy_48 : decode cX8_hurtBy 48 = .ok (.iconst 3, 1) := by decide +kernel
theorem dX8_hurtBy_49 : decode cX8_hurtBy 49 = .ok (.invokevirtual 103, 3) := by decide +kernel
theorem dX8_hurtBy_52 : decode cX8_hurtBy 52 = .ok (.goto 14, 3) := by decide +kernel
theorem dX8_hurtBy_55 : decode cX8_hurtBy 55 = .ok (.aload_n 0, 1) := by decide +kernel
theorem dX8_hurtBy_56 : decode cX8_hurtBy 56 = .ok (.iload_n 2, 1) := by decide +kernel
theorem dX8_hurtBy_57 : decode cX8_hurtBy 57 = .ok (.invokevirtual 118, 3) := by decide +kernel
theorem dX8_hurtBy_60 : decode cX8_hurtBy 60 = .ok (.iconst 0, 1) := by decide +kernel
theorem dX8_hurtBy_61 : decode cX8_hurtBy 61 = .ok (.bipush 99, 2) := by decide +kernel
theorem dX8_hurtBy_63 : decode cX8_hurtBy 63 = .ok (.invokestatic 107, 3) := by decide +kernel
theorem dX8_hurtBy_66 : decode cX8_hurtBy 66 = .ok (.istore_n 3, 1) := by decide +kernel
theorem dX8_hurtBy_67 : decode cX8_hurtBy 67 = .ok (.aload_n 0, 1) := by decide +kernel
theorem dX8_hurtBy_68 : decode cX8_hurtBy 68 = .ok (.iload_n 1, 1) := by decide +kernel
theorem dX8_hurtBy_69 : decode cX8_hurtBy 69 = .ok (.iconst 0, 1) := by decide +kernel
theorem dX8_hurtBy_70 : decode cX8_hurtBy 70 = .ok (.invokevirtual 103, 3) := by decide +kernel
theorem dX8_hurtBy_73 : decode cX8_hurtBy 73 = .ok (.tableswitch 57 1 5 #[35, 39, 44, 50, 55], 35) := by decide +kernel
theorem dX8_hurtBy_108 : decode cX8_hurtBy 108 = .ok (.iconst 2, 1) := by decide +kernel
theorem dX8_hurtBy_109 : decode cX8_hurtBy 109 = .ok (.iload_n 3, 1) := by decide +kernel
theorem dX8_hurtBy_110 : decode cX8_hurtBy 110 = .ok (.imul, 1) := by decide +kernel
theorem dX8_hurtBy_111 : decode cX8_hurtBy 111 = .ok (.ireturn, 1) := by decide +kernel
theorem dX8_hurtBy_112 : decode cX8_hurtBy 112 = .ok (.iload_n 3, 1) := by decide +kernel
theorem dX8_hurtBy_113 : decode cX8_hurtBy 113 = .ok (.bipush 9, 2) := by decide +kernel
theorem dX8_hurtBy_115 : decode cX8_hurtBy 115 = .ok (.iadd, 1) := by decide +kernel
theorem dX8_hurtBy_116 : decode cX8_hurtBy 116 = .ok (.ireturn, 1) := by decide +kernel
theorem dX8_hurtBy_117 : decode cX8_hurtBy 117 = .ok (.iconst 2, 1) := by decide +kernel
theorem dX8_hurtBy_118 : decode cX8_hurtBy 118 = .ok (.iload_n 3, 1) := by decide +kernel
theorem dX8_hurtBy_119 : decode cX8_hurtBy 119 = .ok (.imul, 1) := by decide +kernel
theorem dX8_hurtBy_120 : decode cX8_hurtBy 120 = .ok (.iconst 1, 1) := by decide +kernel
theorem dX8_hurtBy_121 : decode cX8_hurtBy 121 = .ok (.iadd, 1) := by decide +kernel
theorem dX8_hurtBy_122 : decode cX8_hurtBy 122 = .ok (.ireturn, 1) := by decide +kernel
theorem dX8_hurtBy_123 : decode cX8_hurtBy 123 = .ok (.iload_n 3, 1) := by decide +kernel
theorem dX8_hurtBy_124 : decode cX8_hurtBy 124 = .ok (.bipush 7, 2) := by decide +kernel
theorem dX8_hurtBy_126 : decode cX8_hurtBy 126 = .ok (.iadd, 1) := by decide +kernel
theorem dX8_hurtBy_127 : decode cX8_hurtBy 127 = .ok (.ireturn, 1) := by decide +kernel
theorem dX8_hurtBy_128 : decode cX8_hurtBy 128 = .ok (.iconst 1, 1) := by decide +kernel
theorem dX8_hurtBy_129 : decode cX8_hurtBy 129 = .ok (.ireturn, 1) := by decide +kernel
theorem dX8_hurtBy_130 : decode cX8_hurtBy 130 = .ok (.iload_n 3, 1) := by decide +kernel
theorem dX8_hurtBy_131 : decode cX8_hurtBy 131 = .ok (.ireturn, 1) := by decide +kernel
theorem dX8_worthOf_0 : decode cX8_worthOf 0 = .ok (.aload_n 0, 1) := by decide +kernel
theorem dX8_worthOf_1 : decode cX8_worthOf 1 = .ok (.iload_n 1, 1) := by decide +kernel
theorem dX8_worthOf_2 : decode cX8_worthOf 2 = .ok (.iconst 3, 1) := by decide +kernel
theorem dX8_worthOf_3 : decode cX8_worthOf 3 = .ok (.invokevirtual 103, 3) := by decide +kernel
theorem dX8_worthOf_6 : decode cX8_worthOf 6 = .ok (.istore_n 2, 1) := by decide +kernel
theorem dX8_worthOf_7 : decode cX8_worthOf 7 = .ok (.aload_n 0, 1) := by decide +kernel
theorem dX8_worthOf_8 : decode cX8_worthOf 8 = .ok (.iload_n 1, 1) := by decide +kernel
theorem dX8_worthOf_9 : decode cX8_worthOf 9 = .ok (.iconst 0, 1) := by decide +kernel
theorem dX8_worthOf_10 : decode cX8_worthOf 10 = .ok (.invokevirtual 103, 3) := by decide +kernel
theorem dX8_worthOf_13 : decode cX8_worthOf 13 = .ok (.tableswitch 59 1 5 #[35, 40, 45, 52, 57], 35) := by decide +kernel
theorem dX8_worthOf_48 : decode cX8_worthOf 48 = .ok (.iload_n 2, 1) := by decide +kernel
theorem dX8_worthOf_49 : decode cX8_worthOf 49 = .ok (.bipush 9, 2) := by decide +kernel
theorem dX8_worthOf_51 : decode cX8_worthOf 51 = .ok (.iadd, 1) := by decide +kernel
theorem dX8_worthOf_52 : decode cX8_worthOf 52 = .ok (.ireturn, 1) := by decide +kernel
theorem dX8_worthOf_53 : decode cX8_worthOf 53 = .ok (.bipush 99, 2) := by decide +kernel
theorem dX8_worthOf_55 : decode cX8_worthOf 55 = .ok (.iload_n 2, 1) := by decide +kernel
theorem dX8_worthOf_56 : decode cX8_worthOf 56 = .ok (.isub, 1) := by decide +kernel
theorem dX8_worthOf_57 : decode cX8_worthOf 57 = .ok (.ireturn, 1) := by decide +kernel
theorem dX8_worthOf_58 : decode cX8_worthOf 58 = .ok (.iconst 2, 1) := by decide +kernel
theorem dX8_worthOf_59 : decode cX8_worthOf 59 = .ok (.iload_n 2, 1) := by decide +kernel
theorem dX8_worthOf_60 : decode cX8_worthOf 60 = .ok (.bipush 9, 2) := by decide +kernel
theorem dX8_worthOf_62 : decode cX8_worthOf 62 = .ok (.iadd, 1) := by decide +kernel
theorem dX8_worthOf_63 : decode cX8_worthOf 63 = .ok (.imul, 1) := by decide +kernel
theorem dX8_worthOf_64 : decode cX8_worthOf 64 = .ok (.ireturn, 1) := by decide +kernel
theorem dX8_worthOf_65 : decode cX8_worthOf 65 = .ok (.bipush 94, 2) := by decide +kernel
theorem dX8_worthOf_67 : decode cX8_worthOf 67 = .ok (.iload_n 2, 1) := by decide +kernel
theorem dX8_worthOf_68 : decode cX8_worthOf 68 = .ok (.isub, 1) := by decide +kernel
theorem dX8_worthOf_69 : decode cX8_worthOf 69 = .ok (.ireturn, 1) := by decide +kernel
theorem dX8_worthOf_70 : decode cX8_worthOf 70 = .ok (.iconst 2, 1) := by decide +kernel
theorem dX8_worthOf_71 : decode cX8_worthOf 71 = .ok (.ireturn, 1) := by decide +kernel
theorem dX8_worthOf_72 : decode cX8_worthOf 72 = .ok (.iload_n 2, 1) := by decide +kernel
theorem dX8_worthOf_73 : decode cX8_worthOf 73 = .ok (.ireturn, 1) := by decide +kernel
theorem dX8_manyPassed_0 : decode cX8_manyPassed 0 = .ok (.iconst 0, 1) := by decide +kernel
theorem dX8_manyPassed_1 : decode cX8_manyPassed 1 = .ok (.istore_n 2, 1) := by decide +kernel
theorem dX8_manyPassed_2 : decode cX8_manyPassed 2 = .ok (.iconst 0, 1) := by decide +kernel
theorem dX8_manyPassed_3 : decode cX8_manyPassed 3 = .ok (.istore_n 3, 1) := by decide +kernel
theorem dX8_manyPassed_4 : decode cX8_manyPassed 4 = .ok (.iload_n 3, 1) := by decide +kernel
theorem dX8_manyPassed_5 : decode cX8_manyPassed 5 = .ok (.bipush 36, 2) := by decide +kernel
theorem dX8_manyPassed_7 : decode cX8_manyPassed 7 = .ok (.if_icmp .ge 26, 3) := by decide +kernel
theorem dX8_manyPassed_10 : decode cX8_manyPassed 10 = .ok (.iload_n 2, 1) := by decide +kernel
theorem dX8_manyPassed_11 : decode cX8_manyPassed 11 = .ok (.aload_n 0, 1) := by decide +kernel
theorem dX8_manyPassed_12 : decode cX8_manyPassed 12 = .ok (.iload_n 1, 1) := by decide +kernel
theorem dX8_manyPassed_13 : decode cX8_manyPassed 13 = .ok (.iload_n 3, 1) := by decide +kernel
theorem dX8_manyPassed_14 : decode cX8_manyPassed 14 = .ok (.invokevirtual 111, 3) := by decide +kernel
theorem dX8_manyPassed_17 : decode cX8_manyPassed 17 = .ok (.ifCond .eq 7, 3) := by decide +kernel
theorem dX8_manyPassed_20 : decode cX8_manyPassed 20 = .ok (.iconst 1, 1) := by decide +kernel
theorem dX8_manyPassed_21 : decode cX8_manyPassed 21 = .ok (.goto 4, 3) := by decide +kernel
theorem dX8_manyPassed_24 : decode cX8_manyPassed 24 = .ok (.iconst 0, 1) := by decide +kernel
theorem dX8_manyPassed_25 : decode cX8_manyPassed 25 = .ok (.iadd, 1) := by decide +kernel
theorem dX8_manyPassed_26 : decode cX8_manyPassed 26 = .ok (.istore_n 2, 1) := by decide +kernel
theorem dX8_manyPassed_27 : decode cX8_manyPassed 27 = .ok (.iinc 3 1, 3) := by decide +kernel
theorem dX8_manyPassed_30 : decode cX8_manyPassed 30 = .ok (.goto (-26), 3) := by decide +kernel
theorem dX8_manyPassed_33 : decode cX8_manyPassed 33 = .ok (.iload_n 2, 1) := by decide +kernel
theorem dX8_manyPassed_34 : decode cX8_manyPassed 34 = .ok (.ireturn, 1) := by decide +kernel
theorem dX8_told_0 : decode cX8_told 0 = .ok (.aload_n 0, 1) := by decide +kernel
theorem dX8_told_1 : decode cX8_told 1 = .ok (.iload_n 1, 1) := by decide +kernel
theorem dX8_told_2 : decode cX8_told 2 = .ok (.invokevirtual 121, 3) := by decide +kernel
theorem dX8_told_5 : decode cX8_told 5 = .ok (.ifCond .ne 6, 3) := by decide +kernel
theorem dX8_told_8 : decode cX8_told 8 = .ok (.ldc 97, 2) := by decide +kernel
theorem dX8_told_10 : decode cX8_told 10 = .ok (.ireturn, 1) := by decide +kernel
theorem dX8_told_11 : decode cX8_told 11 = .ok (.iload_n 2, 1) := by decide +kernel
theorem dX8_told_12 : decode cX8_told 12 = .ok (.tableswitch 73 0 7 #[48, 48, 48, 48, 48, 55, 61, 67], 48) := by decide +kernel
theorem dX8_told_60 : decode cX8_told 60 = .ok (.aload_n 0, 1) := by decide +kernel
theorem dX8_told_61 : decode cX8_told 61 = .ok (.iload_n 1, 1) := by decide +kernel
theorem dX8_told_62 : decode cX8_told 62 = .ok (.iload_n 2, 1) := by decide +kernel
theorem dX8_told_63 : decode cX8_told 63 = .ok (.invokevirtual 103, 3) := by decide +kernel
theorem dX8_told_66 : decode cX8_told 66 = .ok (.ireturn, 1) := by decide +kernel
theorem dX8_told_67 : decode cX8_told 67 = .ok (.aload_n 0, 1) := by decide +kernel
theorem dX8_told_68 : decode cX8_told 68 = .ok (.iload_n 1, 1) := by decide +kernel
theorem dX8_told_69 : decode cX8_told 69 = .ok (.invokevirtual 124, 3) := by decide +kernel
theorem dX8_told_72 : decode cX8_told 72 = .ok (.ireturn, 1) := by decide +kernel
theorem dX8_told_73 : decode cX8_told 73 = .ok (.aload_n 0, 1) := by decide +kernel
theorem dX8_told_74 : decode cX8_told 74 = .ok (.iload_n 1, 1) := by decide +kernel
theorem dX8_told_75 : decode cX8_told 75 = .ok (.invokevirtual 127, 3) := by decide +kernel
theorem dX8_told_78 : decode cX8_told 78 = .ok (.ireturn, 1) := by decide +kernel
theorem dX8_told_79 : decode cX8_told 79 = .ok (.aload_n 0, 1) := by decide +kernel
theorem dX8_told_80 : decode cX8_told 80 = .ok (.iload_n 1, 1) := by decide +kernel
theorem dX8_told_81 : decode cX8_told 81 = .ok (.invokevirtual 130, 3) := by decide +kernel
theorem dX8_told_84 : decode cX8_told 84 = .ok (.ireturn, 1) := by decide +kernel
theorem dX8_told_85 : decode cX8_told 85 = .ok (.ldc 97, 2) := by decide +kernel
theorem dX8_told_87 : decode cX8_told 87 = .ok (.ireturn, 1) := by decide +kernel
theorem dX8_isUnder_0 : decode cX8_isUnder 0 = .ok (.iload_n 1, 1) := by decide +kernel
theorem dX8_isUnder_1 : decode cX8_isUnder 1 = .ok (.ifCond .eq 28, 3) := by decide +kernel
theorem dX8_isUnder_4 : decode cX8_isUnder 4 = .ok (.iload_n 0, 1) := by decide +kernel
theorem dX8_isUnder_5 : decode cX8_isUnder 5 = .ok (.iload_n 1, 1) := by decide +kernel
theorem dX8_isUnder_6 : decode cX8_isUnder 6 = .ok (.if_icmp .eq 23, 3) := by decide +kernel
theorem dX8_isUnder_9 : decode cX8_isUnder 9 = .ok (.iload_n 1, 1) := by decide +kernel
theorem dX8_isUnder_10 : decode cX8_isUnder 10 = .ok (.iconst 1, 1) := by decide +kernel
theorem dX8_isUnder_11 : decode cX8_isUnder 11 = .ok (.if_icmp .ne 8, 3) := by decide +kernel
theorem dX8_isUnder_14 : decode cX8_isUnder 14 = .ok (.iload_n 0, 1) := by decide +kernel
theorem dX8_isUnder_15 : decode cX8_isUnder 15 = .ok (.iconst 3, 1) := by decide +kernel
theorem dX8_isUnder_16 : decode cX8_isUnder 16 = .ok (.if_icmp .eq 13, 3) := by decide +kernel
theorem dX8_isUnder_19 : decode cX8_isUnder 19 = .ok (.iload_n 1, 1) := by decide +kernel
theorem dX8_isUnder_20 : decode cX8_isUnder 20 = .ok (.iconst 2, 1) := by decide +kernel
theorem dX8_isUnder_21 : decode cX8_isUnder 21 = .ok (.if_icmp .ne 12, 3) := by decide +kernel
theorem dX8_isUnder_24 : decode cX8_isUnder 24 = .ok (.iload_n 0, 1) := by decide +kernel
theorem dX8_isUnder_25 : decode cX8_isUnder 25 = .ok (.iconst 4, 1) := by decide +kernel
theorem dX8_isUnder_26 : decode cX8_isUnder 26 = .ok (.if_icmp .ne 7, 3) := by decide +kernel
theorem dX8_isUnder_29 : decode cX8_isUnder 29 = .ok (.iconst 1, 1) := by decide +kernel
theorem dX8_isUnder_30 : decode cX8_isUnder 30 = .ok (.goto 4, 3) := by decide +kernel
theorem dX8_isUnder_33 : decode cX8_isUnder 33 = .ok (.iconst 0, 1) := by decide +kernel
theorem dX8_isUnder_34 : decode cX8_isUnder 34 = .ok (.ireturn, 1) := by decide +kernel
theorem dX8_as_0 : decode cX8_as 0 = .ok (.aload_n 0, 1) := by decide +kernel
theorem dX8_as_1 : decode cX8_as 1 = .ok (.iload_n 1, 1) := by decide +kernel
theorem dX8_as_2 : decode cX8_as 2 = .ok (.invokevirtual 121, 3) := by decide +kernel
theorem dX8_as_5 : decode cX8_as 5 = .ok (.ifCond .eq 12, 3) := by decide +kernel
theorem dX8_as_8 : decode cX8_as 8 = .ok (.iload_n 2, 1) := by decide +kernel
theorem dX8_as_9 : decode cX8_as 9 = .ok (.iconst 0, 1) := by decide +kernel
theorem dX8_as_10 : decode cX8_as 10 = .ok (.iconst 5, 1) := by decide +kernel
theorem dX8_as_11 : decode cX8_as 11 = .ok (.invokestatic 81, 3) := by decide +kernel
theorem dX8_as_14 : decode cX8_as 14 = .ok (.ifCond .ne 6, 3) := by decide +kernel
theorem dX8_as_17 : decode cX8_as 17 = .ok (.ldc 97, 2) := by decide +kernel
theorem dX8_as_19 : decode cX8_as 19 = .ok (.ireturn, 1) := by decide +kernel
theorem dX8_as_20 : decode cX8_as 20 = .ok (.aload_n 0, 1) := by decide +kernel
theorem dX8_as_21 : decode cX8_as 21 = .ok (.iload_n 1, 1) := by decide +kernel
theorem dX8_as_22 : decode cX8_as 22 = .ok (.iconst 0, 1) := by decide +kernel
theorem dX8_as_23 : decode cX8_as 23 = .ok (.invokevirtual 103, 3) := by decide +kernel
theorem dX8_as_26 : decode cX8_as 26 = .ok (.iload_n 2, 1) := by decide +kernel
theorem dX8_as_27 : decode cX8_as 27 = .ok (.invokestatic 133, 3) := by decide +kernel
theorem dX8_as_30 : decode cX8_as 30 = .ok (.ifCond .eq 12, 3) := by decide +kernel
theorem dX8_as_33 : decode cX8_as 33 = .ok (.aload_n 0, 1) := by decide +kernel
theorem dX8_as_34 : decode cX8_as 34 = .ok (.iload_n 1, 1) := by decide +kernel
theorem dX8_as_35 : decode cX8_as 35 = .ok (.iconst 3, 1) := by decide +kernel
theorem dX8_as_36 : decode cX8_as 36 = .ok (.invokevirtual 103, 3) := by decide +kernel
theorem dX8_as_39 : decode cX8_as 39 = .ok (.goto 5, 3) := by decide +kernel
theorem dX8_as_42 : decode cX8_as 42 = .ok (.ldc 136, 2) := by decide +kernel
theorem dX8_as_44 : decode cX8_as 44 = .ok (.ireturn, 1) := by decide +kernel
theorem dX8_turns_0 : decode cX8_turns 0 = .ok (.aload_n 0, 1) := by decide +kernel
theorem dX8_turns_1 : decode cX8_turns 1 = .ok (.iload_n 1, 1) := by decide +kernel
theorem dX8_turns_2 : decode cX8_turns 2 = .ok (.invokevirtual 121, 3) := by decide +kernel
theorem dX8_turns_5 : decode cX8_turns 5 = .ok (.ifCond .eq 26, 3) := by decide +kernel
theorem dX8_turns_8 : decode cX8_turns 8 = .ok (.iload_n 2, 1) := by decide +kernel
theorem dX8_turns_9 : decode cX8_turns 9 = .ok (.iconst 0, 1) := by decide +kernel
theorem dX8_turns_10 : decode cX8_turns 10 = .ok (.iconst 5, 1) := by decide +kernel
theorem dX8_turns_11 : decode cX8_turns 11 = .ok (.invokestatic 81, 3) := by decide +kernel
theorem dX8_turns_14 : decode cX8_turns 14 = .ok (.ifCond .eq 17, 3) := by decide +kernel
theorem dX8_turns_17 : decode cX8_turns 17 = .ok (.aload_n 0, 1) := by decide +kernel
theorem dX8_turns_18 : decode cX8_turns 18 = .ok (.bipush 14, 2) := by decide +kernel
theorem dX8_turns_20 : decode cX8_turns 20 = .ok (.iconst 5, 1) := by decide +kernel
theorem dX8_turns_21 : decode cX8_turns 21 = .ok (.iload_n 1, 1) := by decide +kernel
theorem dX8_turns_22 : decode cX8_turns 22 = .ok (.imul, 1) := by decide +kernel
theorem dX8_turns_23 : decode cX8_turns 23 = .ok (.iadd, 1) := by decide +kernel
theorem dX8_turns_24 : decode cX8_turns 24 = .ok (.iload_n 2, 1) := by decide +kernel
theorem dX8_turns_25 : decode cX8_turns 25 = .ok (.invokevirtual 137, 3) := by decide +kernel
theorem dX8_turns_28 : decode cX8_turns 28 = .ok (.goto 5, 3) := by decide +kernel
theorem dX8_turns_31 : decode cX8_turns 31 = .ok (.ldc 97, 2) := by decide +kernel
theorem dX8_turns_33 : decode cX8_turns 33 = .ok (.ireturn, 1) := by decide +kernel
theorem dX8_set_0 : decode cX8_set 0 = .ok (.aload_n 0, 1) := by decide +kernel
theorem dX8_set_1 : decode cX8_set 1 = .ok (.iload_n 1, 1) := by decide +kernel
theorem dX8_set_2 : decode cX8_set 2 = .ok (.invokevirtual 121, 3) := by decide +kernel
theorem dX8_set_5 : decode cX8_set 5 = .ok (.ifCond .eq 36, 3) := by decide +kernel
theorem dX8_set_8 : decode cX8_set 8 = .ok (.iload_n 2, 1) := by decide +kernel
theorem dX8_set_9 : decode cX8_set 9 = .ok (.iconst 1, 1) := by decide +kernel
theorem dX8_set_10 : decode cX8_set 10 = .ok (.iconst 3, 1) := by decide +kernel
theorem dX8_set_11 : decode cX8_set 11 = .ok (.invokestatic 81, 3) := by decide +kernel
theorem dX8_set_14 : decode cX8_set 14 = .ok (.ifCond .eq 27, 3) := by decide +kernel
theorem dX8_set_17 : decode cX8_set 17 = .ok (.iload_n 2, 1) := by decide +kernel
theorem dX8_set_18 : decode cX8_set 18 = .ok (.iload_n 3, 1) := by decide +kernel
theorem dX8_set_19 : decode cX8_set 19 = .ok (.invokestatic 93, 3) := by decide +kernel
theorem dX8_set_22 : decode cX8_set 22 = .ok (.ifCond .eq 19, 3) := by decide +kernel
theorem dX8_set_25 : decode cX8_set 25 = .ok (.aload_n 0, 1) := by decide +kernel
theorem dX8_set_26 : decode cX8_set 26 = .ok (.bipush 14, 2) := by decide +kernel
theorem dX8_set_28 : decode cX8_set 28 = .ok (.iconst 5, 1) := by decide +kernel
theorem dX8_set_29 : decode cX8_set 29 = .ok (.iload_n 1, 1) := by decide +kernel
theorem dX8_set_30 : decode cX8_set 30 = .ok (.imul, 1) := by decide +kernel
theorem dX8_set_31 : decode cX8_set 31 = .ok (.iadd, 1) := by decide +kernel
theorem dX8_set_32 : decode cX8_set 32 = .ok (.iload_n 2, 1) := by decide +kernel
theorem dX8_set_33 : decode cX8_set 33 = .ok (.iadd, 1) := by decide +kernel
theorem dX8_set_34 : decode cX8_set 34 = .ok (.iload_n 3, 1) := by decide +kernel
theorem dX8_set_35 : decode cX8_set 35 = .ok (.invokevirtual 137, 3) := by decide +kernel
theorem dX8_set_38 : decode cX8_set 38 = .ok (.goto 5, 3) := by decide +kernel
theorem dX8_set_41 : decode cX8_set 41 = .ok (.ldc 97, 2) := by decide +kernel
theorem dX8_set_43 : decode cX8_set 43 = .ok (.ireturn, 1) := by decide +kernel
theorem dX8_passes_0 : decode cX8_passes 0 = .ok (.aload_n 0, 1) := by decide +kernel
theorem dX8_passes_1 : decode cX8_passes 1 = .ok (.iload_n 1, 1) := by decide +kernel
theorem dX8_passes_2 : decode cX8_passes 2 = .ok (.invokevirtual 121, 3) := by decide +kernel
theorem dX8_passes_5 : decode cX8_passes 5 = .ok (.ifCond .eq 12, 3) := by decide +kernel
theorem dX8_passes_8 : decode cX8_passes 8 = .ok (.iload_n 2, 1) := by decide +kernel
theorem dX8_passes_9 : decode cX8_passes 9 = .ok (.iconst 0, 1) := by decide +kernel
theorem dX8_passes_10 : decode cX8_passes 10 = .ok (.iconst 5, 1) := by decide +kernel
theorem dX8_passes_11 : decode cX8_passes 11 = .ok (.invokestatic 81, 3) := by decide +kernel
theorem dX8_passes_14 : decode cX8_passes 14 = .ok (.ifCond .ne 6, 3) := by decide +kernel
theorem dX8_passes_17 : decode cX8_passes 17 = .ok (.ldc 97, 2) := by decide +kernel
theorem dX8_passes_19 : decode cX8_passes 19 = .ok (.ireturn, 1) := by decide +kernel
theorem dX8_passes_20 : decode cX8_passes 20 = .ok (.iconst 0, 1) := by decide +kernel
theorem dX8_passes_21 : decode cX8_passes 21 = .ok (.istore_n 3, 1) := by decide +kernel
theorem dX8_passes_22 : decode cX8_passes 22 = .ok (.iconst 0, 1) := by decide +kernel
theorem dX8_passes_23 : decode cX8_passes 23 = .ok (.istore 4, 2) := by decide +kernel
theorem dX8_passes_25 : decode cX8_passes 25 = .ok (.iload 4, 2) := by decide +kernel
theorem dX8_passes_27 : decode cX8_passes 27 = .ok (.bipush 6, 2) := by decide +kernel
theorem dX8_passes_29 : decode cX8_passes 29 = .ok (.if_icmp .ge 35, 3) := by decide +kernel
theorem dX8_passes_32 : decode cX8_passes 32 = .ok (.iload_n 3, 1) := by decide +kernel
theorem dX8_passes_33 : decode cX8_passes 33 = .ok (.aload_n 0, 1) := by decide +kernel
theorem dX8_passes_34 : decode cX8_passes 34 = .ok (.iload_n 1, 1) := by decide +kernel
theorem dX8_passes_35 : decode cX8_passes 35 = .ok (.bipush 6, 2) := by decide +kernel
theorem dX8_passes_37 : decode cX8_passes 37 = .ok (.iload_n 2, 1) := by decide +kernel
theorem dX8_passes_38 : decode cX8_passes 38 = .ok (.imul, 1) := by decide +kernel
theorem dX8_passes_39 : decode cX8_passes 39 = .ok (.iload 4, 2) := by decide +kernel
theorem dX8_passes_41 : decode cX8_passes 41 = .ok (.iadd, 1) := by decide +kernel
theorem dX8_passes_42 : decode cX8_passes 42 = .ok (.invokevirtual 111, 3) := by decide +kernel
theorem dX8_passes_45 : decode cX8_passes 45 = .ok (.ifCond .eq 10, 3) := by decide +kernel
theorem dX8_passes_48 : decode cX8_passes 48 = .ok (.iconst 1, 1) := by decide +kernel
theorem dX8_passes_49 : decode cX8_passes 49 = .ok (.iload 4, 2) := by decide +kernel
theorem dX8_passes_51 : decode cX8_passes 51 = .ok (.ishl, 1) := by decide +kernel
theorem dX8_passes_52 : decode cX8_passes 52 = .ok (.goto 4, 3) := by decide +kernel
theorem dX8_passes_55 : decode cX8_passes 55 = .ok (.iconst 0, 1) := by decide +kernel
theorem dX8_passes_56 : decode cX8_passes 56 = .ok (.ior, 1) := by decide +kernel
theorem dX8_passes_57 : decode cX8_passes 57 = .ok (.istore_n 3, 1) := by decide +kernel
theorem dX8_passes_58 : decode cX8_passes 58 = .ok (.iinc 4 1, 3) := by decide +kernel
theorem dX8_passes_61 : decode cX8_passes 61 = .ok (.goto (-36), 3) := by decide +kernel
theorem dX8_passes_64 : decode cX8_passes 64 = .ok (.iload_n 3, 1) := by decide +kernel
theorem dX8_passes_65 : decode cX8_passes 65 = .ok (.ireturn, 1) := by decide +kernel
theorem dX8_isTest_0 : decode cX8_isTest 0 = .ok (.iload_n 0, 1) := by decide +kernel
theorem dX8_isTest_1 : decode cX8_isTest 1 = .ok (.iconst 0, 1) := by decide +kernel
theorem dX8_isTest_2 : decode cX8_isTest 2 = .ok (.iconst 3, 1) := by decide +kernel
theorem dX8_isTest_3 : decode cX8_isTest 3 = .ok (.invokestatic 81, 3) := by decide +kernel
theorem dX8_isTest_6 : decode cX8_isTest 6 = .ok (.ifCond .eq 14, 3) := by decide +kernel
theorem dX8_isTest_9 : decode cX8_isTest 9 = .ok (.iload_n 1, 1) := by decide +kernel
theorem dX8_isTest_10 : decode cX8_isTest 10 = .ok (.invokestatic 89, 3) := by decide +kernel
theorem dX8_isTest_13 : decode cX8_isTest 13 = .ok (.ifCond .eq 7, 3) := by decide +kernel
theorem dX8_isTest_16 : decode cX8_isTest 16 = .ok (.iconst 1, 1) := by decide +kernel
theorem dX8_isTest_17 : decode cX8_isTest 17 = .ok (.goto 4, 3) := by decide +kernel
theorem dX8_isTest_20 : decode cX8_isTest 20 = .ok (.iconst 0, 1) := by decide +kernel
theorem dX8_isTest_21 : decode cX8_isTest 21 = .ok (.ireturn, 1) := by decide +kernel
theorem dX8_tells_0 : decode cX8_tells 0 = .ok (.aload_n 0, 1) := by decide +kernel
theorem dX8_tells_1 : decode cX8_tells 1 = .ok (.iload_n 1, 1) := by decide +kernel
theorem dX8_tells_2 : decode cX8_tells 2 = .ok (.invokevirtual 121, 3) := by decide +kernel
theorem dX8_tells_5 : decode cX8_tells 5 = .ok (.ifCond .eq 11, 3) := by decide +kernel
theorem dX8_tells_8 : decode cX8_tells 8 = .ok (.iload_n 2, 1) := by decide +kernel
theorem dX8_tells_9 : decode cX8_tells 9 = .ok (.iload_n 3, 1) := by decide +kernel
theorem dX8_tells_10 : decode cX8_tells 10 = .ok (.invokestatic 140, 3) := by decide +kernel
theorem dX8_tells_13 : decode cX8_tells 13 = .ok (.ifCond .ne 6, 3) := by decide +kernel
theorem dX8_tells_16 : decode cX8_tells 16 = .ok (.ldc 97, 2) := by decide +kernel
theorem dX8_tells_18 : decode cX8_tells 18 = .ok (.ireturn, 1) := by decide +kernel
theorem dX8_tells_19 : decode cX8_tells 19 = .ok (.aload_n 0, 1) := by decide +kernel
theorem dX8_tells_20 : decode cX8_tells 20 = .ok (.iload_n 1, 1) := by decide +kernel
theorem dX8_tells_21 : decode cX8_tells 21 = .ok (.iload_n 2, 1) := by decide +kernel
theorem dX8_tells_22 : decode cX8_tells 22 = .ok (.iload_n 3, 1) := by decide +kernel
theorem dX8_tells_23 : decode cX8_tells 23 = .ok (.invokevirtual 143, 3) := by decide +kernel
theorem dX8_tells_26 : decode cX8_tells 26 = .ok (.ifCond .eq 7, 3) := by decide +kernel
theorem dX8_tells_29 : decode cX8_tells 29 = .ok (.iconst 1, 1) := by decide +kernel
theorem dX8_tells_30 : decode cX8_tells 30 = .ok (.goto 4, 3) := by decide +kernel
theorem dX8_tells_33 : decode cX8_tells 33 = .ok (.iconst 0, 1) := by decide +kernel
theorem dX8_tells_34 : decode cX8_tells 34 = .ok (.ireturn, 1) := by decide +kernel
theorem dX8_draw_0 : decode cX8_draw 0 = .ok (.aload_n 0, 1) := by decide +kernel
theorem dX8_draw_1 : decode cX8_draw 1 = .ok (.getfield 9, 3) := by decide +kernel
theorem dX8_draw_4 : decode cX8_draw 4 = .ok (.iconst 0, 1) := by decide +kernel
theorem dX8_draw_5 : decode cX8_draw 5 = .ok (.aload_n 0, 1) := by decide +kernel
theorem dX8_draw_6 : decode cX8_draw 6 = .ok (.getfield 9, 3) := by decide +kernel
theorem dX8_draw_9 : decode cX8_draw 9 = .ok (.iconst 0, 1) := by decide +kernel
theorem dX8_draw_10 : decode cX8_draw 10 = .ok (.iaload, 1) := by decide +kernel
theorem dX8_draw_11 : decode cX8_draw 11 = .ok (.ldc 146, 2) := by decide +kernel
theorem dX8_draw_13 : decode cX8_draw 13 = .ok (.imul, 1) := by decide +kernel
theorem dX8_draw_14 : decode cX8_draw 14 = .ok (.sipush 12345, 3) := by decide +kernel
theorem dX8_draw_17 : decode cX8_draw 17 = .ok (.iadd, 1) := by decide +kernel
theorem dX8_draw_18 : decode cX8_draw 18 = .ok (.iastore, 1) := by decide +kernel
theorem dX8_draw_19 : decode cX8_draw 19 = .ok (.aload_n 0, 1) := by decide +kernel
theorem dX8_draw_20 : decode cX8_draw 20 = .ok (.getfield 9, 3) := by decide +kernel
theorem dX8_draw_23 : decode cX8_draw 23 = .ok (.iconst 0, 1) := by decide +kernel
theorem dX8_draw_24 : decode cX8_draw 24 = .ok (.iaload, 1) := by decide +kernel
theorem dX8_draw_25 : decode cX8_draw 25 = .ok (.bipush 8, 2) := by decide +kernel
theorem dX8_draw_27 : decode cX8_draw 27 = .ok (.iushr, 1) := by decide +kernel
theorem dX8_draw_28 : decode cX8_draw 28 = .ok (.ireturn, 1) := by decide +kernel
theorem dX8_deal_0 : decode cX8_deal 0 = .ok (.iload_n 1, 1) := by decide +kernel
theorem dX8_deal_1 : decode cX8_deal 1 = .ok (.iconst 1, 1) := by decide +kernel
theorem dX8_deal_2 : decode cX8_deal 2 = .ok (.bipush 10, 2) := by decide +kernel
theorem dX8_deal_4 : decode cX8_deal 4 = .ok (.invokestatic 81, 3) := by decide +kernel
theorem dX8_deal_7 : decode cX8_deal 7 = .ok (.ifCond .ne 6, 3) := by decide +kernel
theorem dX8_deal_10 : decode cX8_deal 10 = .ok (.ldc 97, 2) := by decide +kernel
theorem dX8_deal_12 : decode cX8_deal 12 = .ok (.ireturn, 1) := by decide +kernel
theorem dX8_deal_13 : decode cX8_deal 13 = .ok (.iconst 0, 1) := by decide +kernel
theorem dX8_deal_14 : decode cX8_deal 14 = .ok (.istore_n 2, 1) := by decide +kernel
theorem dX8_deal_15 : decode cX8_deal 15 = .ok (.iload_n 2, 1) := by decide +kernel
theorem dX8_deal_16 : decode cX8_deal 16 = .ok (.iload_n 1, 1) := by decide +kernel
theorem dX8_deal_17 : decode cX8_deal 17 = .ok (.if_icmp .ge 68, 3) := by decide +kernel
theorem dX8_deal_20 : decode cX8_deal 20 = .ok (.aload_n 0, 1) := by decide +kernel
theorem dX8_deal_21 : decode cX8_deal 21 = .ok (.getfield 9, 3) := by decide +kernel
theorem dX8_deal_24 : decode cX8_deal 24 = .ok (.iconst 1, 1) := by decide +kernel
theorem dX8_deal_25 : decode cX8_deal 25 = .ok (.iaload, 1) := by decide +kernel
theorem dX8_deal_26 : decode cX8_deal 26 = .ok (.bipush 10, 2) := by decide +kernel
theorem dX8_deal_28 : decode cX8_deal 28 = .ok (.if_icmp .ge 57, 3) := by decide +kernel
theorem dX8_deal_31 : decode cX8_deal 31 = .ok (.aload_n 0, 1) := by decide +kernel
theorem dX8_deal_32 : decode cX8_deal 32 = .ok (.invokevirtual 147, 3) := by decide +kernel
theorem dX8_deal_35 : decode cX8_deal 35 = .ok (.bipush 6, 2) := by decide +kernel
theorem dX8_deal_37 : decode cX8_deal 37 = .ok (.irem, 1) := by decide +kernel
theorem dX8_deal_38 : decode cX8_deal 38 = .ok (.istore_n 3, 1) := by decide +kernel
theorem dX8_deal_39 : decode cX8_deal 39 = .ok (.aload_n 0, 1) := by decide +kernel
theorem dX8_deal_40 : decode cX8_deal 40 = .ok (.invokevirtual 147, 3) := by decide +kernel
theorem dX8_deal_43 : decode cX8_deal 43 = .ok (.bipush 36, 2) := by decide +kernel
theorem dX8_deal_45 : decode cX8_deal 45 = .ok (.irem, 1) := by decide +kernel
theorem dX8_deal_46 : decode cX8_deal 46 = .ok (.istore 4, 2) := by decide +kernel
theorem dX8_deal_48 : decode cX8_deal 48 = .ok (.iconst 1, 1) := by decide +kernel
theorem dX8_deal_49 : decode cX8_deal 49 = .ok (.aload_n 0, 1) := by decide +kernel
theorem dX8_deal_50 : decode cX8_deal 50 = .ok (.invokevirtual 147, 3) := by decide +kernel
theorem dX8_deal_53 : decode cX8_deal 53 = .ok (.bipush 40, 2) := by decide +kernel
theorem dX8_deal_55 : decode cX8_deal 55 = .ok (.irem, 1) := by decide +kernel
theorem dX8_deal_56 : decode cX8_deal 56 = .ok (.iadd, 1) := by decide +kernel
theorem dX8_deal_57 : decode cX8_deal 57 = .ok (.istore 5, 2) := by decide +kernel
theorem dX8_deal_59 : decode cX8_deal 59 = .ok (.aload_n 0, 1) := by decide +kernel
theorem dX8_deal_60 : decode cX8_deal 60 = .ok (.iload_n 3, 1) := by decide +kernel
theorem dX8_deal_61 : decode cX8_deal 61 = .ok (.iload 4, 2) := by decide +kernel
theorem dX8_deal_63 : decode cX8_deal 63 = .ok (.iload 5, 2) := by decide +kernel
theorem dX8_deal_65 : decode cX8_deal 65 = .ok (.iconst 1, 1) := by decide +kernel
theorem dX8_deal_66 : decode cX8_deal 66 = .ok (.aload_n 0, 1) := by decide +kernel
theorem dX8_deal_67 : decode cX8_deal 67 = .ok (.invokevirtual 147, 3) := by decide +kernel
theorem dX8_deal_70 : decode cX8_deal 70 = .ok (.bipush 9, 2) := by decide +kernel
theorem dX8_deal_72 : decode cX8_deal 72 = .ok (.irem, 1) := by decide +kernel
theorem dX8_deal_73 : decode cX8_deal 73 = .ok (.iadd, 1) := by decide +kernel
theorem dX8_deal_74 : decode cX8_deal 74 = .ok (.invokevirtual 99, 3) := by decide +kernel
theorem dX8_deal_77 : decode cX8_deal 77 = .ok (.istore 6, 2) := by decide +kernel
theorem dX8_deal_79 : decode cX8_deal 79 = .ok (.iinc 2 1, 3) := by decide +kernel
theorem dX8_deal_82 : decode cX8_deal 82 = .ok (.goto (-67), 3) := by decide +kernel
theorem dX8_deal_85 : decode cX8_deal 85 = .ok (.iload_n 2, 1) := by decide +kernel
theorem dX8_deal_86 : decode cX8_deal 86 = .ok (.ireturn, 1) := by decide +kernel
theorem dX8_seed_0 : decode cX8_seed 0 = .ok (.aload_n 0, 1) := by decide +kernel
theorem dX8_seed_1 : decode cX8_seed 1 = .ok (.iconst 0, 1) := by decide +kernel
theorem dX8_seed_2 : decode cX8_seed 2 = .ok (.iload_n 1, 1) := by decide +kernel
theorem dX8_seed_3 : decode cX8_seed 3 = .ok (.invokevirtual 137, 3) := by decide +kernel
theorem dX8_seed_6 : decode cX8_seed 6 = .ok (.ireturn, 1) := by decide +kernel
theorem dX8_rule_0 : decode cX8_rule 0 = .ok (.iload_n 1, 1) := by decide +kernel
theorem dX8_rule_1 : decode cX8_rule 1 = .ok (.iconst 0, 1) := by decide +kernel
theorem dX8_rule_2 : decode cX8_rule 2 = .ok (.iconst 1, 1) := by decide +kernel
theorem dX8_rule_3 : decode cX8_rule 3 = .ok (.invokestatic 81, 3) := by decide +kernel
theorem dX8_rule_6 : decode cX8_rule 6 = .ok (.ifCond .eq 32, 3) := by decide +kernel
theorem dX8_rule_9 : decode cX8_rule 9 = .ok (.iload_n 2, 1) := by decide +kernel
theorem dX8_rule_10 : decode cX8_rule 10 = .ok (.iconst 0, 1) := by decide +kernel
theorem dX8_rule_11 : decode cX8_rule 11 = .ok (.iload_n 1, 1) := by decide +kernel
theorem dX8_rule_12 : decode cX8_rule 12 = .ok (.ifCond .ne 8, 3) := by decide +kernel
theorem dX8_rule_15 : decode cX8_rule 15 = .ok (.bipush 49, 2) := by decide +kernel
theorem dX8_rule_17 : decode cX8_rule 17 = .ok (.goto 4, 3) := by decide +kernel
theorem dX8_rule_20 : decode cX8_rule 20 = .ok (.iconst 1, 1) := by decide +kernel
theorem dX8_rule_21 : decode cX8_rule 21 = .ok (.invokestatic 81, 3) := by decide +kernel
theorem dX8_rule_24 : decode cX8_rule 24 = .ok (.ifCond .eq 14, 3) := by decide +kernel
theorem dX8_rule_27 : decode cX8_rule 27 = .ok (.aload_n 0, 1) := by decide +kernel
theorem dX8_rule_28 : decode cX8_rule 28 = .ok (.iconst 3, 1) := by decide +kernel
theorem dX8_rule_29 : decode cX8_rule 29 = .ok (.iload_n 1, 1) := by decide +kernel
theorem dX8_rule_30 : decode cX8_rule 30 = .ok (.iadd, 1) := by decide +kernel
theorem dX8_rule_31 : decode cX8_rule 31 = .ok (.iload_n 2, 1) := by decide +kernel
theorem dX8_rule_32 : decode cX8_rule 32 = .ok (.invokevirtual 137, 3) := by decide +kernel
theorem dX8_rule_35 : decode cX8_rule 35 = .ok (.goto 5, 3) := by decide +kernel
theorem dX8_rule_38 : decode cX8_rule 38 = .ok (.ldc 97, 2) := by decide +kernel
theorem dX8_rule_40 : decode cX8_rule 40 = .ok (.ireturn, 1) := by decide +kernel
theorem dX8_sumOf_0 : decode cX8_sumOf 0 = .ok (.iconst 0, 1) := by decide +kernel
theorem dX8_sumOf_1 : decode cX8_sumOf 1 = .ok (.istore_n 2, 1) := by decide +kernel
theorem dX8_sumOf_2 : decode cX8_sumOf 2 = .ok (.iconst 0, 1) := by decide +kernel
theorem dX8_sumOf_3 : decode cX8_sumOf 3 = .ok (.istore_n 3, 1) := by decide +kernel
theorem dX8_sumOf_4 : decode cX8_sumOf 4 = .ok (.iload_n 3, 1) := by decide +kernel
theorem dX8_sumOf_5 : decode cX8_sumOf 5 = .ok (.aload_n 0, 1) := by decide +kernel
theorem dX8_sumOf_6 : decode cX8_sumOf 6 = .ok (.getfield 9, 3) := by decide +kernel
theorem dX8_sumOf_9 : decode cX8_sumOf 9 = .ok (.iconst 1, 1) := by decide +kernel
theorem dX8_sumOf_10 : decode cX8_sumOf 10 = .ok (.iaload, 1) := by decide +kernel
theorem dX8_sumOf_11 : decode cX8_sumOf 11 = .ok (.if_icmp .ge 18, 3) := by decide +kernel
theorem dX8_sumOf_14 : decode cX8_sumOf 14 = .ok (.iload_n 2, 1) := by decide +kernel
theorem dX8_sumOf_15 : decode cX8_sumOf 15 = .ok (.aload_n 0, 1) := by decide +kernel
theorem dX8_sumOf_16 : decode cX8_sumOf 16 = .ok (.iload_n 3, 1) := by decide +kernel
theorem dX8_sumOf_17 : decode cX8_sumOf 17 = .ok (.iload_n 1, 1) := by decide +kernel
theorem dX8_sumOf_18 : decode cX8_sumOf 18 = .ok (.invokevirtual 103, 3) := by decide +kernel
theorem dX8_sumOf_21 : decode cX8_sumOf 21 = .ok (.iadd, 1) := by decide +kernel
theorem dX8_sumOf_22 : decode cX8_sumOf 22 = .ok (.istore_n 2, 1) := by decide +kernel
theorem dX8_sumOf_23 : decode cX8_sumOf 23 = .ok (.iinc 3 1, 3) := by decide +kernel
theorem dX8_sumOf_26 : decode cX8_sumOf 26 = .ok (.goto (-22), 3) := by decide +kernel
theorem dX8_sumOf_29 : decode cX8_sumOf 29 = .ok (.iload_n 2, 1) := by decide +kernel
theorem dX8_sumOf_30 : decode cX8_sumOf 30 = .ok (.ireturn, 1) := by decide +kernel
theorem dX8_builds_0 : decode cX8_builds 0 = .ok (.aload_n 0, 1) := by decide +kernel
theorem dX8_builds_1 : decode cX8_builds 1 = .ok (.invokevirtual 147, 3) := by decide +kernel
theorem dX8_builds_4 : decode cX8_builds 4 = .ok (.aload_n 0, 1) := by decide +kernel
theorem dX8_builds_5 : decode cX8_builds 5 = .ok (.iconst 2, 1) := by decide +kernel
theorem dX8_builds_6 : decode cX8_builds 6 = .ok (.invokevirtual 151, 3) := by decide +kernel
theorem dX8_builds_9 : decode cX8_builds 9 = .ok (.irem, 1) := by decide +kernel
theorem dX8_builds_10 : decode cX8_builds 10 = .ok (.istore_n 1, 1) := by decide +kernel
theorem dX8_builds_11 : decode cX8_builds 11 = .ok (.iconst 0, 1) := by decide +kernel
theorem dX8_builds_12 : decode cX8_builds 12 = .ok (.istore_n 2, 1) := by decide +kernel
theorem dX8_builds_13 : decode cX8_builds 13 = .ok (.iload_n 1, 1) := by decide +kernel
theorem dX8_builds_14 : decode cX8_builds 14 = .ok (.aload_n 0, 1) := by decide +kernel
theorem dX8_builds_15 : decode cX8_builds 15 = .ok (.iload_n 2, 1) := by decide +kernel
theorem dX8_builds_16 : decode cX8_builds 16 = .ok (.iconst 2, 1) := by decide +kernel
theorem dX8_builds_17 : decode cX8_builds 17 = .ok (.invokevirtual 103, 3) := by decide +kernel
theorem dX8_builds_20 : decode cX8_builds 20 = .ok (.if_icmp .lt 18, 3) := by decide +kernel
theorem dX8_builds_23 : decode cX8_builds 23 = .ok (.iload_n 1, 1) := by decide +kernel
theorem dX8_builds_24 : decode cX8_builds 24 = .ok (.aload_n 0, 1) := by decide +kernel
theorem dX8_builds_25 : decode cX8_builds 25 = .ok (.iload_n 2, 1) := by decide +kernel
theorem dX8_builds_26 : decode cX8_builds 26 = .ok (.iconst 2, 1) := by decide +kernel
theorem dX8_builds_27 : decode cX8_builds 27 = .ok (.invokevirtual 103, 3) := by decide +kernel
theorem dX8_builds_30 : decode cX8_builds 30 = .ok (.isub, 1) := by decide +kernel
theorem dX8_builds_31 : decode cX8_builds 31 = .ok (.istore_n 1, 1) := by decide +kernel
theorem dX8_builds_32 : decode cX8_builds 32 = .ok (.iinc 2 1, 3) := by decide +kernel
theorem dX8_builds_35 : decode cX8_builds 35 = .ok (.goto (-22), 3) := by decide +kernel
theorem dX8_builds_38 : decode cX8_builds 38 = .ok (.aload_n 0, 1) := by decide +kernel
theorem dX8_builds_39 : decode cX8_builds 39 = .ok (.getfield 9, 3) := by decide +kernel
theorem dX8_builds_42 : decode cX8_builds 42 = .ok (.bipush 12, 2) := by decide +kernel
theorem dX8_builds_44 : decode cX8_builds 44 = .ok (.iload_n 2, 1) := by decide +kernel
theorem dX8_builds_45 : decode cX8_builds 45 = .ok (.iastore, 1) := by decide +kernel
theorem dX8_builds_46 : decode cX8_builds 46 = .ok (.return_, 1) := by decide +kernel
theorem dX8_build_0 : decode cX8_build 0 = .ok (.aload_n 0, 1) := by decide +kernel
theorem dX8_build_1 : decode cX8_build 1 = .ok (.getfield 9, 3) := by decide +kernel
theorem dX8_build_4 : decode cX8_build 4 = .ok (.iconst 1, 1) := by decide +kernel
theorem dX8_build_5 : decode cX8_build 5 = .ok (.iaload, 1) := by decide +kernel
theorem dX8_build_6 : decode cX8_build 6 = .ok (.ifCond .ne 6, 3) := by decide +kernel
theorem dX8_build_9 : decode cX8_build 9 = .ok (.ldc 154, 2) := by decide +kernel
theorem dX8_build_11 : decode cX8_build 11 = .ok (.ireturn, 1) := by decide +kernel
theorem dX8_build_12 : decode cX8_build 12 = .ok (.aload_n 0, 1) := by decide +kernel
theorem dX8_build_13 : decode cX8_build 13 = .ok (.invokevirtual 155, 3) := by decide +kernel
theorem dX8_build_16 : decode cX8_build 16 = .ok (.aload_n 0, 1) := by decide +kernel
theorem dX8_build_17 : decode cX8_build 17 = .ok (.getfield 9, 3) := by decide +kernel
theorem dX8_build_20 : decode cX8_build 20 = .ok (.iconst 1, 1) := by decide +kernel
theorem dX8_build_21 : decode cX8_build 21 = .ok (.iaload, 1) := by decide +kernel
theorem dX8_build_22 : decode cX8_build 22 = .ok (.ireturn, 1) := by decide +kernel
theorem dX8_oddsToBeTold_0 : decode cX8_oddsToBeTold 0 = .ok (.iload_n 2, 1) := by decide +kernel
theorem dX8_oddsToBeTold_1 : decode cX8_oddsToBeTold 1 = .ok (.iconst 3, 1) := by decide +kernel
theorem dX8_oddsToBeTold_2 : decode cX8_oddsToBeTold 2 = .ok (.if_icmp .ne 7, 3) := by decide +kernel
theorem dX8_oddsToBeTold_5 : decode cX8_oddsToBeTold 5 = .ok (.iconst 0, 1) := by decide +kernel
theorem dX8_oddsToBeTold_6 : decode cX8_oddsToBeTold 6 = .ok (.goto 9, 3) := by decide +kernel
theorem dX8_oddsToBeTold_9 : decode cX8_oddsToBeTold 9 = .ok (.aload_n 0, 1) := by decide +kernel
theorem dX8_oddsToBeTold_10 : decode cX8_oddsToBeTold 10 = .ok (.getfield 9, 3) := by decide +kernel
theorem dX8_oddsToBeTold_13 : decode cX8_oddsToBeTold 13 = .ok (.iconst 3, 1) := by decide +kernel
theorem dX8_oddsToBeTold_14 : decode cX8_oddsToBeTold 14 = .ok (.iaload, 1) := by decide +kernel
theorem dX8_oddsToBeTold_15 : decode cX8_oddsToBeTold 15 = .ok (.istore_n 3, 1) := by decide +kernel
theorem dX8_oddsToBeTold_16 : decode cX8_oddsToBeTold 16 = .ok (.iload_n 1, 1) := by decide +kernel
theorem dX8_oddsToBeTold_17 : decode cX8_oddsToBeTold 17 = .ok (.ifCond .eq 10, 3) := by decide +kernel
theorem dX8_oddsToBeTold_20 : decode cX8_oddsToBeTold 20 = .ok (.bipush 100, 2) := by decide +kernel
theorem dX8_oddsToBeTold_22 : decode cX8_oddsToBeTold 22 = .ok (.iload_n 3, 1) := by decide +kernel
theorem dX8_oddsToBeTold_23 : decode cX8_oddsToBeTold 23 = .ok (.isub, 1) := by decide +kernel
theorem dX8_oddsToBeTold_24 : decode cX8_oddsToBeTold 24 = .ok (.goto 4, 3) := by decide +kernel
theorem dX8_oddsToBeTold_27 : decode cX8_oddsToBeTold 27 = .ok (.iload_n 3, 1) := by decide +kernel
theorem dX8_oddsToBeTold_28 : decode cX8_oddsToBeTold 28 = .ok (.ireturn, 1) := by decide +kernel
theorem dX8_tests_0 : decode cX8_tests 0 = .ok (.aload_n 0, 1) := by decide +kernel
theorem dX8_tests_1 : decode cX8_tests 1 = .ok (.aload_n 0, 1) := by decide +kernel
theorem dX8_tests_2 : decode cX8_tests 2 = .ok (.getfield 9, 3) := by decide +kernel
theorem dX8_tests_5 : decode cX8_tests 5 = .ok (.bipush 12, 2) := by decide +kernel
theorem dX8_tests_7 : decode cX8_tests 7 = .ok (.iaload, 1) := by decide +kernel
theorem dX8_tests_8 : decode cX8_tests 8 = .ok (.iload_n 1, 1) := by decide +kernel
theorem dX8_tests_9 : decode cX8_tests 9 = .ok (.iload_n 2, 1) := by decide +kernel
theorem dX8_tests_10 : decode cX8_tests 10 = .ok (.invokevirtual 143, 3) := by decide +kernel
theorem dX8_tests_13 : decode cX8_tests 13 = .ok (.istore_n 3, 1) := by decide +kernel
theorem dX8_tests_14 : decode cX8_tests 14 = .ok (.iload_n 1, 1) := by decide +kernel
theorem dX8_tests_15 : decode cX8_tests 15 = .ok (.iconst 3, 1) := by decide +kernel
theorem dX8_tests_16 : decode cX8_tests 16 = .ok (.if_icmp .eq 40, 3) := by decide +kernel
theorem dX8_tests_19 : decode cX8_tests 19 = .ok (.aload_n 0, 1) := by decide +kernel
theorem dX8_tests_20 : decode cX8_tests 20 = .ok (.invokevirtual 147, 3) := by decide +kernel
theorem dX8_tests_23 : decode cX8_tests 23 = .ok (.bipush 100, 2) := by decide +kernel
theorem dX8_tests_25 : decode cX8_tests 25 = .ok (.irem, 1) := by decide +kernel
theorem dX8_tests_26 : decode cX8_tests 26 = .ok (.aload_n 0, 1) := by decide +kernel
theorem dX8_tests_27 : decode cX8_tests 27 = .ok (.getfield 9, 3) := by decide +kernel
theorem dX8_tests_30 : decode cX8_tests 30 = .ok (.iconst 3, 1) := by decide +kernel
theorem dX8_tests_31 : decode cX8_tests 31 = .ok (.iaload, 1) := by decide +kernel
theorem dX8_tests_32 : decode cX8_tests 32 = .ok (.if_icmp .ge 24, 3) := by decide +kernel
theorem dX8_tests_35 : decode cX8_tests 35 = .ok (.iload_n 3, 1) := by decide +kernel
theorem dX8_tests_36 : decode cX8_tests 36 = .ok (.ifCond .ne 7, 3) := by decide +kernel
theorem dX8_tests_39 : decode cX8_tests 39 = .ok (.iconst 1, 1) := by decide +kernel
theorem dX8_tests_40 : decode cX8_tests 40 = .ok (.goto 4, 3) := by decide +kernel
theorem dX8_tests_43 : decode cX8_tests 43 = .ok (.iconst 0, 1) := by decide +kernel
theorem dX8_tests_44 : decode cX8_tests 44 = .ok (.istore_n 3, 1) := by decide +kernel
theorem dX8_tests_45 : decode cX8_tests 45 = .ok (.aload_n 0, 1) := by decide +kernel
theorem dX8_tests_46 : decode cX8_tests 46 = .ok (.getfield 9, 3) := by decide +kernel
theorem dX8_tests_49 : decode cX8_tests 49 = .ok (.bipush 9, 2) := by decide +kernel
theorem dX8_tests_51 : decode cX8_tests 51 = .ok (.dup2, 1) := by decide +kernel
theorem dX8_tests_52 : decode cX8_tests 52 = .ok (.iaload, 1) := by decide +kernel
theorem dX8_tests_53 : decode cX8_tests 53 = .ok (.iconst 1, 1) := by decide +kernel
theorem dX8_tests_54 : decode cX8_tests 54 = .ok (.iadd, 1) := by decide +kernel
theorem dX8_tests_55 : decode cX8_tests 55 = .ok (.iastore, 1) := by decide +kernel
theorem dX8_tests_56 : decode cX8_tests 56 = .ok (.aload_n 0, 1) := by decide +kernel
theorem dX8_tests_57 : decode cX8_tests 57 = .ok (.getfield 9, 3) := by decide +kernel
theorem dX8_tests_60 : decode cX8_tests 60 = .ok (.bipush 8, 2) := by decide +kernel
theorem dX8_tests_62 : decode cX8_tests 62 = .ok (.dup2, 1) := by decide +kernel
theorem dX8_tests_63 : decode cX8_tests 63 = .ok (.iaload, 1) := by decide +kernel
theorem dX8_tests_64 : decode cX8_tests 64 = .ok (.iconst 1, 1) := by decide +kernel
theorem dX8_tests_65 : decode cX8_tests 65 = .ok (.iadd, 1) := by decide +kernel
theorem dX8_tests_66 : decode cX8_tests 66 = .ok (.iastore, 1) := by decide +kernel
theorem dX8_tests_67 : decode cX8_tests 67 = .ok (.aload_n 0, 1) := by decide +kernel
theorem dX8_tests_68 : decode cX8_tests 68 = .ok (.getfield 9, 3) := by decide +kernel
theorem dX8_tests_71 : decode cX8_tests 71 = .ok (.bipush 10, 2) := by decide +kernel
theorem dX8_tests_73 : decode cX8_tests 73 = .ok (.dup2, 1) := by decide +kernel
theorem dX8_tests_74 : decode cX8_tests 74 = .ok (.iaload, 1) := by decide +kernel
theorem dX8_tests_75 : decode cX8_tests 75 = .ok (.iload_n 1, 1) := by decide +kernel
theorem dX8_tests_76 : decode cX8_tests 76 = .ok (.iconst 3, 1) := by decide +kernel
theorem dX8_tests_77 : decode cX8_tests 77 = .ok (.if_icmp .ne 8, 3) := by decide +kernel
theorem dX8_tests_80 : decode cX8_tests 80 = .ok (.bipush 9, 2) := by decide +kernel
theorem dX8_tests_82 : decode cX8_tests 82 = .ok (.goto 6, 3) := by decide +kernel
theorem dX8_tests_85 : decode cX8_tests 85 = .ok (.iload_n 1, 1) := by decide +kernel
theorem dX8_tests_86 : decode cX8_tests 86 = .ok (.iconst 1, 1) := by decide +kernel
theorem dX8_tests_87 : decode cX8_tests 87 = .ok (.iadd, 1) := by decide +kernel
theorem dX8_tests_88 : decode cX8_tests 88 = .ok (.iadd, 1) := by decide +kernel
theorem dX8_tests_89 : decode cX8_tests 89 = .ok (.iastore, 1) := by decide +kernel
theorem dX8_tests_90 : decode cX8_tests 90 = .ok (.iconst 0, 1) := by decide +kernel
theorem dX8_tests_91 : decode cX8_tests 91 = .ok (.istore 4, 2) := by decide +kernel
theorem dX8_tests_93 : decode cX8_tests 93 = .ok (.iload 4, 2) := by decide +kernel
theorem dX8_tests_95 : decode cX8_tests 95 = .ok (.aload_n 0, 1) := by decide +kernel
theorem dX8_tests_96 : decode cX8_tests 96 = .ok (.getfield 9, 3) := by decide +kernel
theorem dX8_tests_99 : decode cX8_tests 99 = .ok (.iconst 1, 1) := by decide +kernel
theorem dX8_tests_100 : decode cX8_tests 100 = .ok (.iaload, 1) := by decide +kernel
theorem dX8_tests_101 : decode cX8_tests 101 = .ok (.if_icmp .ge 49, 3) := by decide +kernel
theorem dX8_tests_104 : decode cX8_tests 104 = .ok (.aload_n 0, 1) := by decide +kernel
theorem dX8_tests_105 : decode cX8_tests 105 = .ok (.iload 4, 2) := by decide +kernel
theorem dX8_tests_107 : decode cX8_tests 107 = .ok (.iconst 4, 1) := by decide +kernel
theorem dX8_tests_108 : decode cX8_tests 108 = .ok (.aload_n 0, 1) := by decide +kernel
theorem dX8_tests_109 : decode cX8_tests 109 = .ok (.iload 4, 2) := by decide +kernel
theorem dX8_tests_111 : decode cX8_tests 111 = .ok (.iconst 4, 1) := by decide +kernel
theorem dX8_tests_112 : decode cX8_tests 112 = .ok (.invokevirtual 103, 3) := by decide +kernel
theorem dX8_tests_115 : decode cX8_tests 115 = .ok (.aload_n 0, 1) := by decide +kernel
theorem dX8_tests_116 : decode cX8_tests 116 = .ok (.aload_n 0, 1) := by decide +kernel
theorem dX8_tests_117 : decode cX8_tests 117 = .ok (.iload 4, 2) := by decide +kernel
theorem dX8_tests_119 : decode cX8_tests 119 = .ok (.iload_n 1, 1) := by decide +kernel
theorem dX8_tests_120 : decode cX8_tests 120 = .ok (.iload_n 2, 1) := by decide +kernel
theorem dX8_tests_121 : decode cX8_tests 121 = .ok (.invokevirtual 143, 3) := by decide +kernel
theorem dX8_tests_124 : decode cX8_tests 124 = .ok (.iload_n 3, 1) := by decide +kernel
theorem dX8_tests_125 : decode cX8_tests 125 = .ok (.if_icmp .ne 7, 3) := by decide +kernel
theorem dX8_tests_128 : decode cX8_tests 128 = .ok (.iconst 1, 1) := by decide +kernel
theorem dX8_tests_129 : decode cX8_tests 129 = .ok (.goto 4, 3) := by decide +kernel
theorem dX8_tests_132 : decode cX8_tests 132 = .ok (.iconst 0, 1) := by decide +kernel
theorem dX8_tests_133 : decode cX8_tests 133 = .ok (.iload_n 1, 1) := by decide +kernel
theorem dX8_tests_134 : decode cX8_tests 134 = .ok (.invokevirtual 158, 3) := by decide +kernel
theorem dX8_tests_137 : decode cX8_tests 137 = .ok (.imul, 1) := by decide +kernel
theorem dX8_tests_138 : decode cX8_tests 138 = .ok (.bipush 100, 2) := by decide +kernel
theorem dX8_tests_140 : decode cX8_tests 140 = .ok (.idiv, 1) := by decide +kernel
theorem dX8_tests_141 : decode cX8_tests 141 = .ok (.invokevirtual 85, 3) := by decide +kernel
theorem dX8_tests_144 : decode cX8_tests 144 = .ok (.iinc 4 1, 3) := by decide +kernel
theorem dX8_tests_147 : decode cX8_tests 147 = .ok (.goto (-54), 3) := by decide +kernel
theorem dX8_tests_150 : decode cX8_tests 150 = .ok (.aload_n 0, 1) := by decide +kernel
theorem dX8_tests_151 : decode cX8_tests 151 = .ok (.iconst 4, 1) := by decide +kernel
theorem dX8_tests_152 : decode cX8_tests 152 = .ok (.invokevirtual 151, 3) := by decide +kernel
theorem dX8_tests_155 : decode cX8_tests 155 = .ok (.ifCond .ne 52, 3) := by decide +kernel
theorem dX8_tests_158 : decode cX8_tests 158 = .ok (.aload_n 0, 1) := by decide +kernel
theorem dX8_tests_159 : decode cX8_tests 159 = .ok (.getfield 9, 3) := by decide +kernel
theorem dX8_tests_162 : decode cX8_tests 162 = .ok (.bipush 11, 2) := by decide +kernel
theorem dX8_tests_164 : decode cX8_tests 164 = .ok (.dup2, 1) := by decide +kernel
theorem dX8_tests_165 : decode cX8_tests 165 = .ok (.iaload, 1) := by decide +kernel
theorem dX8_tests_166 : decode cX8_tests 166 = .ok (.iconst 1, 1) := by decide +kernel
theorem dX8_tests_167 : decode cX8_tests 167 = .ok (.iadd, 1) := by decide +kernel
theorem dX8_tests_168 : decode cX8_tests 168 = .ok (.iastore, 1) := by decide +kernel
theorem dX8_tests_169 : decode cX8_tests 169 = .ok (.iconst 0, 1) := by decide +kernel
theorem dX8_tests_170 : decode cX8_tests 170 = .ok (.istore 4, 2) := by decide +kernel
theorem dX8_tests_172 : decode cX8_tests 172 = .ok (.iload 4, 2) := by decide +kernel
theorem dX8_tests_174 : decode cX8_tests 174 = .ok (.aload_n 0, 1) := by decide +kernel
theorem dX8_tests_175 : decode cX8_tests 175 = .ok (.getfield 9, 3) := by decide +kernel
theorem dX8_tests_178 : decode cX8_tests 178 = .ok (.iconst 1, 1) := by decide +kernel
theorem dX8_tests_179 : decode cX8_tests 179 = .ok (.iaload, 1) := by decide +kernel
theorem dX8_tests_180 : decode cX8_tests 180 = .ok (.if_icmp .ge 27, 3) := by decide +kernel
theorem dX8_tests_183 : decode cX8_tests 183 = .ok (.aload_n 0, 1) := by decide +kernel
theorem dX8_tests_184 : decode cX8_tests 184 = .ok (.iload 4, 2) := by decide +kernel
theorem dX8_tests_186 : decode cX8_tests 186 = .ok (.iconst 4, 1) := by decide +kernel
theorem dX8_tests_187 : decode cX8_tests 187 = .ok (.sipush 1000, 3) := by decide +kernel
theorem dX8_tests_190 : decode cX8_tests 190 = .ok (.aload_n 0, 1) := by decide +kernel
theorem dX8_tests_191 : decode cX8_tests 191 = .ok (.iload 4, 2) := by decide +kernel
theorem dX8_tests_193 : decode cX8_tests 193 = .ok (.iconst 2, 1) := by decide +kernel
theorem dX8_tests_194 : decode cX8_tests 194 = .ok (.invokevirtual 103, 3) := by decide +kernel
theorem dX8_tests_197 : decode cX8_tests 197 = .ok (.imul, 1) := by decide +kernel
theorem dX8_tests_198 : decode cX8_tests 198 = .ok (.invokevirtual 85, 3) := by decide +kernel
theorem dX8_tests_201 : decode cX8_tests 201 = .ok (.iinc 4 1, 3) := by decide +kernel
theorem dX8_tests_204 : decode cX8_tests 204 = .ok (.goto (-32), 3) := by decide +kernel
theorem dX8_tests_207 : decode cX8_tests 207 = .ok (.iload_n 3, 1) := by decide +kernel
theorem dX8_tests_208 : decode cX8_tests 208 = .ok (.ireturn, 1) := by decide +kernel
theorem dX8_probe_0 : decode cX8_probe 0 = .ok (.iload_n 1, 1) := by decide +kernel
theorem dX8_probe_1 : decode cX8_probe 1 = .ok (.iload_n 2, 1) := by decide +kernel
theorem dX8_probe_2 : decode cX8_probe 2 = .ok (.invokestatic 140, 3) := by decide +kernel
theorem dX8_probe_5 : decode cX8_probe 5 = .ok (.ifCond .ne 6, 3) := by decide +kernel
theorem dX8_probe_8 : decode cX8_probe 8 = .ok (.ldc 97, 2) := by decide +kernel
theorem dX8_probe_10 : decode cX8_probe 10 = .ok (.ireturn, 1) := by decide +kernel
theorem dX8_probe_11 : decode cX8_probe 11 = .ok (.aload_n 0, 1) := by decide +kernel
theorem dX8_probe_12 : decode cX8_probe 12 = .ok (.getfield 9, 3) := by decide +kernel
theorem dX8_probe_15 : decode cX8_probe 15 = .ok (.bipush 12, 2) := by decide +kernel
theorem dX8_probe_17 : decode cX8_probe 17 = .ok (.iaload, 1) := by decide +kernel
theorem dX8_probe_18 : decode cX8_probe 18 = .ok (.ifCond .ge 8, 3) := by decide +kernel
theorem dX8_probe_21 : decode cX8_probe 21 = .ok (.ldc 154, 2) := by decide +kernel
theorem dX8_probe_23 : decode cX8_probe 23 = .ok (.goto 17, 3) := by decide +kernel
theorem dX8_probe_26 : decode cX8_probe 26 = .ok (.aload_n 0, 1) := by decide +kernel
theorem dX8_probe_27 : decode cX8_probe 27 = .ok (.iload_n 1, 1) := by decide +kernel
theorem dX8_probe_28 : decode cX8_probe 28 = .ok (.iload_n 2, 1) := by decide +kernel
theorem dX8_probe_29 : decode cX8_probe 29 = .ok (.invokevirtual 162, 3) := by decide +kernel
theorem dX8_probe_32 : decode cX8_probe 32 = .ok (.ifCond .eq 7, 3) := by decide +kernel
theorem dX8_probe_35 : decode cX8_probe 35 = .ok (.iconst 1, 1) := by decide +kernel
theorem dX8_probe_36 : decode cX8_probe 36 = .ok (.goto 4, 3) := by decide +kernel
theorem dX8_probe_39 : decode cX8_probe 39 = .ok (.iconst 0, 1) := by decide +kernel
theorem dX8_probe_40 : decode cX8_probe 40 = .ok (.ireturn, 1) := by decide +kernel
theorem dX8_drill_0 : decode cX8_drill 0 = .ok (.iload_n 1, 1) := by decide +kernel
theorem dX8_drill_1 : decode cX8_drill 1 = .ok (.invokestatic 89, 3) := by decide +kernel
theorem dX8_drill_4 : decode cX8_drill 4 = .ok (.ifCond .eq 13, 3) := by decide +kernel
theorem dX8_drill_7 : decode cX8_drill 7 = .ok (.iload_n 2, 1) := by decide +kernel
theorem dX8_drill_8 : decode cX8_drill 8 = .ok (.iconst 1, 1) := by decide +kernel
theorem dX8_drill_9 : decode cX8_drill 9 = .ok (.bipush 9, 2) := by decide +kernel
theorem dX8_drill_11 : decode cX8_drill 11 = .ok (.invokestatic 81, 3) := by decide +kernel
theorem dX8_drill_14 : decode cX8_drill 14 = .ok (.ifCond .ne 6, 3) := by decide +kernel
theorem dX8_drill_17 : decode cX8_drill 17 = .ok (.ldc 97, 2) := by decide +kernel
theorem dX8_drill_19 : decode cX8_drill 19 = .ok (.ireturn, 1) := by decide +kernel
theorem dX8_drill_20 : decode cX8_drill 20 = .ok (.aload_n 0, 1) := by decide +kernel
theorem dX8_drill_21 : decode cX8_drill 21 = .ok (.getfield 9, 3) := by decide +kernel
theorem dX8_drill_24 : decode cX8_drill 24 = .ok (.bipush 12, 2) := by decide +kernel
theorem dX8_drill_26 : decode cX8_drill 26 = .ok (.iaload, 1) := by decide +kernel
theorem dX8_drill_27 : decode cX8_drill 27 = .ok (.istore_n 3, 1) := by decide +kernel
theorem dX8_drill_28 : decode cX8_drill 28 = .ok (.iload_n 3, 1) := by decide +kernel
theorem dX8_drill_29 : decode cX8_drill 29 = .ok (.ifCond .ge 6, 3) := by decide +kernel
theorem dX8_drill_32 : decode cX8_drill 32 = .ok (.ldc 154, 2) := by decide +kernel
theorem dX8_drill_34 : decode cX8_drill 34 = .ok (.ireturn, 1) := by decide +kernel
theorem dX8_drill_35 : decode cX8_drill 35 = .ok (.aload_n 0, 1) := by decide +kernel
theorem dX8_drill_36 : decode cX8_drill 36 = .ok (.getfield 9, 3) := by decide +kernel
theorem dX8_drill_39 : decode cX8_drill 39 = .ok (.bipush 7, 2) := by decide +kernel
theorem dX8_drill_41 : decode cX8_drill 41 = .ok (.dup2, 1) := by decide +kernel
theorem dX8_drill_42 : decode cX8_drill 42 = .ok (.iaload, 1) := by decide +kernel
theorem dX8_drill_43 : decode cX8_drill 43 = .ok (.iconst 1, 1) := by decide +kernel
theorem dX8_drill_44 : decode cX8_drill 44 = .ok (.iadd, 1) := by decide +kernel
theorem dX8_drill_45 : decode cX8_drill 45 = .ok (.iastore, 1) := by decide +kernel
theorem dX8_drill_46 : decode cX8_drill 46 = .ok (.aload_n 0, 1) := by decide +kernel
theorem dX8_drill_47 : decode cX8_drill 47 = .ok (.iload_n 3, 1) := by decide +kernel
theorem dX8_drill_48 : decode cX8_drill 48 = .ok (.iload_n 1, 1) := by decide +kernel
theorem dX8_drill_49 : decode cX8_drill 49 = .ok (.invokevirtual 111, 3) := by decide +kernel
theorem dX8_drill_52 : decode cX8_drill 52 = .ok (.ifCond .eq 13, 3) := by decide +kernel
theorem dX8_drill_55 : decode cX8_drill 55 = .ok (.aload_n 0, 1) := by decide +kernel
theorem dX8_drill_56 : decode cX8_drill 56 = .ok (.iload_n 3, 1) := by decide +kernel
theorem dX8_drill_57 : decode cX8_drill 57 = .ok (.iconst 3, 1) := by decide +kernel
theorem dX8_drill_58 : decode cX8_drill 58 = .ok (.invokevirtual 103, 3) := by decide +kernel
theorem dX8_drill_61 : decode cX8_drill 61 = .ok (.iload_n 2, 1) := by decide +kernel
theorem dX8_drill_62 : decode cX8_drill 62 = .ok (.if_icmp .le 5, 3) := by decide +kernel
theorem dX8_drill_65 : decode cX8_drill 65 = .ok (.iconst 0, 1) := by decide +kernel
theorem dX8_drill_66 : decode cX8_drill 66 = .ok (.ireturn, 1) := by decide +kernel
theorem dX8_drill_67 : decode cX8_drill 67 = .ok (.aload_n 0, 1) := by decide +kernel
theorem dX8_drill_68 : decode cX8_drill 68 = .ok (.iload_n 3, 1) := by decide +kernel
theorem dX8_drill_69 : decode cX8_drill 69 = .ok (.invokevirtual 124, 3) := by decide +kernel
theorem dX8_drill_72 : decode cX8_drill 72 = .ok (.istore 4, 2) := by decide +kernel
theorem dX8_drill_74 : decode cX8_drill 74 = .ok (.aload_n 0, 1) := by decide +kernel
theorem dX8_drill_75 : decode cX8_drill 75 = .ok (.getfield 9, 3) := by decide +kernel
theorem dX8_drill_78 : decode cX8_drill 78 = .ok (.bipush 6, 2) := by decide +kernel
theorem dX8_drill_80 : decode cX8_drill 80 = .ok (.dup2, 1) := by decide +kernel
theorem dX8_drill_81 : decode cX8_drill 81 = .ok (.iaload, 1) := by decide +kernel
theorem dX8_drill_82 : decode cX8_drill 82 = .ok (.iconst 1, 1) := by decide +kernel
theorem dX8_drill_83 : decode cX8_drill 83 = .ok (.iadd, 1) := by decide +kernel
theorem dX8_drill_84 : decode cX8_drill 84 = .ok (.iastore, 1) := by decide +kernel
theorem dX8_drill_85 : decode cX8_drill 85 = .ok (.aload_n 0, 1) := by decide +kernel
theorem dX8_drill_86 : decode cX8_drill 86 = .ok (.getfield 9, 3) := by decide +kernel
theorem dX8_drill_89 : decode cX8_drill 89 = .ok (.iconst 5, 1) := by decide +kernel
theorem dX8_drill_90 : decode cX8_drill 90 = .ok (.dup2, 1) := by decide +kernel
theorem dX8_drill_91 : decode cX8_drill 91 = .ok (.iaload, 1) := by decide +kernel
theorem dX8_drill_92 : decode cX8_drill 92 = .ok (.iload 4, 2) := by decide +kernel
theorem dX8_drill_94 : decode cX8_drill 94 = .ok (.iadd, 1) := by decide +kernel
theorem dX8_drill_95 : decode cX8_drill 95 = .ok (.iastore, 1) := by decide +kernel
theorem dX8_drill_96 : decode cX8_drill 96 = .ok (.iload 4, 2) := by decide +kernel
theorem dX8_drill_98 : decode cX8_drill 98 = .ok (.ireturn, 1) := by decide +kernel
theorem dX8_step_0 : decode cX8_step 0 = .ok (.aload_n 0, 1) := by decide +kernel
theorem dX8_step_1 : decode cX8_step 1 = .ok (.getfield 9, 3) := by decide +kernel
theorem dX8_step_4 : decode cX8_step 4 = .ok (.iconst 1, 1) := by decide +kernel
theorem dX8_step_5 : decode cX8_step 5 = .ok (.iaload, 1) := by decide +kernel
theorem dX8_step_6 : decode cX8_step 6 = .ok (.ifCond .le 40, 3) := by decide +kernel
theorem dX8_step_9 : decode cX8_step 9 = .ok (.aload_n 0, 1) := by decide +kernel
theorem dX8_step_10 : decode cX8_step 10 = .ok (.getfield 9, 3) := by decide +kernel
theorem dX8_step_13 : decode cX8_step 13 = .ok (.bipush 12, 2) := by decide +kernel
theorem dX8_step_15 : decode cX8_step 15 = .ok (.iaload, 1) := by decide +kernel
theorem dX8_step_16 : decode cX8_step 16 = .ok (.ifCond .ge 10, 3) := by decide +kernel
theorem dX8_step_19 : decode cX8_step 19 = .ok (.aload_n 0, 1) := by decide +kernel
theorem dX8_step_20 : decode cX8_step 20 = .ok (.invokevirtual 155, 3) := by decide +kernel
theorem dX8_step_23 : decode cX8_step 23 = .ok (.goto 23, 3) := by decide +kernel
theorem dX8_step_26 : decode cX8_step 26 = .ok (.aload_n 0, 1) := by decide +kernel
theorem dX8_step_27 : decode cX8_step 27 = .ok (.invokevirtual 147, 3) := by decide +kernel
theorem dX8_step_30 : decode cX8_step 30 = .ok (.iconst 4, 1) := by decide +kernel
theorem dX8_step_31 : decode cX8_step 31 = .ok (.irem, 1) := by decide +kernel
theorem dX8_step_32 : decode cX8_step 32 = .ok (.istore_n 1, 1) := by decide +kernel
theorem dX8_step_33 : decode cX8_step 33 = .ok (.aload_n 0, 1) := by decide +kernel
theorem dX8_step_34 : decode cX8_step 34 = .ok (.iload_n 1, 1) := by decide +kernel
theorem dX8_step_35 : decode cX8_step 35 = .ok (.aload_n 0, 1) := by decide +kernel
theorem dX8_step_36 : decode cX8_step 36 = .ok (.invokevirtual 147, 3) := by decide +kernel
theorem dX8_step_39 : decode cX8_step 39 = .ok (.bipush 36, 2) := by decide +kernel
theorem dX8_step_41 : decode cX8_step 41 = .ok (.irem, 1) := by decide +kernel
theorem dX8_step_42 : decode cX8_step 42 = .ok (.invokevirtual 162, 3) := by decide +kernel
theorem dX8_step_45 : decode cX8_step 45 = .ok (.istore_n 2, 1) := by decide +kernel
theorem dX8_step_46 : decode cX8_step 46 = .ok (.aload_n 0, 1) := by decide +kernel
theorem dX8_step_47 : decode cX8_step 47 = .ok (.getfield 9, 3) := by decide +kernel
theorem dX8_step_50 : decode cX8_step 50 = .ok (.iconst 2, 1) := by decide +kernel
theorem dX8_step_51 : decode cX8_step 51 = .ok (.dup2, 1) := by decide +kernel
theorem dX8_step_52 : decode cX8_step 52 = .ok (.iaload, 1) := by decide +kernel
theorem dX8_step_53 : decode cX8_step 53 = .ok (.iconst 1, 1) := by decide +kernel
theorem dX8_step_54 : decode cX8_step 54 = .ok (.iadd, 1) := by decide +kernel
theorem dX8_step_55 : decode cX8_step 55 = .ok (.iastore, 1) := by decide +kernel
theorem dX8_step_56 : decode cX8_step 56 = .ok (.return_, 1) := by decide +kernel
theorem dX8_goesOn_0 : decode cX8_goesOn 0 = .ok (.iconst 0, 1) := by decide +kernel
theorem dX8_goesOn_1 : decode cX8_goesOn 1 = .ok (.istore_n 2, 1) := by decide +kernel
theorem dX8_goesOn_2 : decode cX8_goesOn 2 = .ok (.iload_n 2, 1) := by decide +kernel
theorem dX8_goesOn_3 : decode cX8_goesOn 3 = .ok (.iload_n 1, 1) := by decide +kernel
theorem dX8_goesOn_4 : decode cX8_goesOn 4 = .ok (.if_icmp .ge 13, 3) := by decide +kernel
theorem dX8_goesOn_7 : decode cX8_goesOn 7 = .ok (.aload_n 0, 1) := by decide +kernel
theorem dX8_goesOn_8 : decode cX8_goesOn 8 = .ok (.invokevirtual 165, 3) := by decide +kernel
theorem dX8_goesOn_11 : decode cX8_goesOn 11 = .ok (.iinc 2 1, 3) := by decide +kernel
theorem dX8_goesOn_14 : decode cX8_goesOn 14 = .ok (.goto (-12), 3) := by decide +kernel
theorem dX8_goesOn_17 : decode cX8_goesOn 17 = .ok (.return_, 1) := by decide +kernel
theorem dX8_steps_0 : decode cX8_steps 0 = .ok (.iload_n 1, 1) := by decide +kernel
theorem dX8_steps_1 : decode cX8_steps 1 = .ok (.iconst 1, 1) := by decide +kernel
theorem dX8_steps_2 : decode cX8_steps 2 = .ok (.bipush 100, 2) := by decide +kernel
theorem dX8_steps_4 : decode cX8_steps 4 = .ok (.invokestatic 81, 3) := by decide +kernel
theorem dX8_steps_7 : decode cX8_steps 7 = .ok (.ifCond .ne 6, 3) := by decide +kernel
theorem dX8_steps_10 : decode cX8_steps 10 = .ok (.ldc 97, 2) := by decide +kernel
theorem dX8_steps_12 : decode cX8_steps 12 = .ok (.ireturn, 1) := by decide +kernel
theorem dX8_steps_13 : decode cX8_steps 13 = .ok (.aload_n 0, 1) := by decide +kernel
theorem dX8_steps_14 : decode cX8_steps 14 = .ok (.getfield 9, 3) := by decide +kernel
theorem dX8_steps_17 : decode cX8_steps 17 = .ok (.bipush 9, 2) := by decide +kernel
theorem dX8_steps_19 : decode cX8_steps 19 = .ok (.iaload, 1) := by decide +kernel
theorem dX8_steps_20 : decode cX8_steps 20 = .ok (.istore_n 2, 1) := by decide +kernel
theorem dX8_steps_21 : decode cX8_steps 21 = .ok (.aload_n 0, 1) := by decide +kernel
theorem dX8_steps_22 : decode cX8_steps 22 = .ok (.sipush 9999, 3) := by decide +kernel
theorem dX8_steps_25 : decode cX8_steps 25 = .ok (.aload_n 0, 1) := by decide +kernel
theorem dX8_steps_26 : decode cX8_steps 26 = .ok (.getfield 9, 3) := by decide +kernel
theorem dX8_steps_29 : decode cX8_steps 29 = .ok (.iconst 2, 1) := by decide +kernel
theorem dX8_steps_30 : decode cX8_steps 30 = .ok (.iaload, 1) := by decide +kernel
theorem dX8_steps_31 : decode cX8_steps 31 = .ok (.isub, 1) := by decide +kernel
theorem dX8_steps_32 : decode cX8_steps 32 = .ok (.iconst 0, 1) := by decide +kernel
theorem dX8_steps_33 : decode cX8_steps 33 = .ok (.iload_n 1, 1) := by decide +kernel
theorem dX8_steps_34 : decode cX8_steps 34 = .ok (.invokestatic 107, 3) := by decide +kernel
theorem dX8_steps_37 : decode cX8_steps 37 = .ok (.invokevirtual 168, 3) := by decide +kernel
theorem dX8_steps_40 : decode cX8_steps 40 = .ok (.aload_n 0, 1) := by decide +kernel
theorem dX8_steps_41 : decode cX8_steps 41 = .ok (.getfield 9, 3) := by decide +kernel
theorem dX8_steps_44 : decode cX8_steps 44 = .ok (.bipush 9, 2) := by decide +kernel
theorem dX8_steps_46 : decode cX8_steps 46 = .ok (.iaload, 1) := by decide +kernel
theorem dX8_steps_47 : decode cX8_steps 47 = .ok (.iload_n 2, 1) := by decide +kernel
theorem dX8_steps_48 : decode cX8_steps 48 = .ok (.isub, 1) := by decide +kernel
theorem dX8_steps_49 : decode cX8_steps 49 = .ok (.ireturn, 1) := by decide +kernel
theorem dX8_greatest_0 : decode cX8_greatest 0 = .ok (.iconst (-1), 1) := by decide +kernel
theorem dX8_greatest_1 : decode cX8_greatest 1 = .ok (.istore_n 1, 1) := by decide +kernel
theorem dX8_greatest_2 : decode cX8_greatest 2 = .ok (.iconst 0, 1) := by decide +kernel
theorem dX8_greatest_3 : decode cX8_greatest 3 = .ok (.istore_n 2, 1) := by decide +kernel
theorem dX8_greatest_4 : decode cX8_greatest 4 = .ok (.iload_n 2, 1) := by decide +kernel
theorem dX8_greatest_5 : decode cX8_greatest 5 = .ok (.aload_n 0, 1) := by decide +kernel
theorem dX8_greatest_6 : decode cX8_greatest 6 = .ok (.getfield 9, 3) := by decide +kernel
theorem dX8_greatest_9 : decode cX8_greatest 9 = .ok (.iconst 1, 1) := by decide +kernel
theorem dX8_greatest_10 : decode cX8_greatest 10 = .ok (.iaload, 1) := by decide +kernel
theorem dX8_greatest_11 : decode cX8_greatest 11 = .ok (.if_icmp .ge 34, 3) := by decide +kernel
theorem dX8_greatest_14 : decode cX8_greatest 14 = .ok (.iload_n 1, 1) := by decide +kernel
theorem dX8_greatest_15 : decode cX8_greatest 15 = .ok (.ifCond .lt 18, 3) := by decide +kernel
theorem dX8_greatest_18 : decode cX8_greatest 18 = .ok (.aload_n 0, 1) := by decide +kernel
theorem dX8_greatest_19 : decode cX8_greatest 19 = .ok (.iload_n 2, 1) := by decide +kernel
theorem dX8_greatest_20 : decode cX8_greatest 20 = .ok (.iconst 4, 1) := by decide +kernel
theorem dX8_greatest_21 : decode cX8_greatest 21 = .ok (.invokevirtual 103, 3) := by decide +kernel
theorem dX8_greatest_24 : decode cX8_greatest 24 = .ok (.aload_n 0, 1) := by decide +kernel
theorem dX8_greatest_25 : decode cX8_greatest 25 = .ok (.iload_n 1, 1) := by decide +kernel
theorem dX8_greatest_26 : decode cX8_greatest 26 = .ok (.iconst 4, 1) := by decide +kernel
theorem dX8_greatest_27 : decode cX8_greatest 27 = .ok (.invokevirtual 103, 3) := by decide +kernel
theorem dX8_greatest_30 : decode cX8_greatest 30 = .ok (.if_icmp .le 7, 3) := by decide +kernel
theorem dX8_greatest_33 : decode cX8_greatest 33 = .ok (.iload_n 2, 1) := by decide +kernel
theorem dX8_greatest_34 : decode cX8_greatest 34 = .ok (.goto 4, 3) := by decide +kernel
theorem dX8_greatest_37 : decode cX8_greatest 37 = .ok (.iload_n 1, 1) := by decide +kernel
theorem dX8_greatest_38 : decode cX8_greatest 38 = .ok (.istore_n 1, 1) := by decide +kernel
theorem dX8_greatest_39 : decode cX8_greatest 39 = .ok (.iinc 2 1, 3) := by decide +kernel
theorem dX8_greatest_42 : decode cX8_greatest 42 = .ok (.goto (-38), 3) := by decide +kernel
theorem dX8_greatest_45 : decode cX8_greatest 45 = .ok (.iload_n 1, 1) := by decide +kernel
theorem dX8_greatest_46 : decode cX8_greatest 46 = .ok (.ireturn, 1) := by decide +kernel
theorem dX8_isKnown_0 : decode cX8_isKnown 0 = .ok (.aload_n 0, 1) := by decide +kernel
theorem dX8_isKnown_1 : decode cX8_isKnown 1 = .ok (.getfield 9, 3) := by decide +kernel
theorem dX8_isKnown_4 : decode cX8_isKnown 4 = .ok (.bipush 12, 2) := by decide +kernel
theorem dX8_isKnown_6 : decode cX8_isKnown 6 = .ok (.iaload, 1) := by decide +kernel
theorem dX8_isKnown_7 : decode cX8_isKnown 7 = .ok (.ifCond .lt 38, 3) := by decide +kernel
theorem dX8_isKnown_10 : decode cX8_isKnown 10 = .ok (.ldc2_w 172, 3) := by decide +kernel
theorem dX8_isKnown_13 : decode cX8_isKnown 13 = .ok (.aload_n 0, 1) := by decide +kernel
theorem dX8_isKnown_14 : decode cX8_isKnown 14 = .ok (.iconst 4, 1) := by decide +kernel
theorem dX8_isKnown_15 : decode cX8_isKnown 15 = .ok (.invokevirtual 151, 3) := by decide +kernel
theorem dX8_isKnown_18 : decode cX8_isKnown 18 = .ok (.i2l, 1) := by decide +kernel
theorem dX8_isKnown_19 : decode cX8_isKnown 19 = .ok (.lmul, 1) := by decide +kernel
theorem dX8_isKnown_20 : decode cX8_isKnown 20 = .ok (.ldc2_w 174, 3) := by decide +kernel
theorem dX8_isKnown_23 : decode cX8_isKnown 23 = .ok (.aload_n 0, 1) := by decide +kernel
theorem dX8_isKnown_24 : decode cX8_isKnown 24 = .ok (.aload_n 0, 1) := by decide +kernel
theorem dX8_isKnown_25 : decode cX8_isKnown 25 = .ok (.getfield 9, 3) := by decide +kernel
theorem dX8_isKnown_28 : decode cX8_isKnown 28 = .ok (.bipush 12, 2) := by decide +kernel
theorem dX8_isKnown_30 : decode cX8_isKnown 30 = .ok (.iaload, 1) := by decide +kernel
theorem dX8_isKnown_31 : decode cX8_isKnown 31 = .ok (.iconst 4, 1) := by decide +kernel
theorem dX8_isKnown_32 : decode cX8_isKnown 32 = .ok (.invokevirtual 103, 3) := by decide +kernel
theorem dX8_isKnown_35 : decode cX8_isKnown 35 = .ok (.i2l, 1) := by decide +kernel
theorem dX8_isKnown_36 : decode cX8_isKnown 36 = .ok (.lmul, 1) := by decide +kernel
theorem dX8_isKnown_37 : decode cX8_isKnown 37 = .ok (.lcmp, 1) := by decide +kernel
theorem dX8_isKnown_38 : decode cX8_isKnown 38 = .ok (.ifCond .gt 7, 3) := by decide +kernel
theorem dX8_isKnown_41 : decode cX8_isKnown 41 = .ok (.iconst 1, 1) := by decide +kernel
theorem dX8_isKnown_42 : decode cX8_isKnown 42 = .ok (.goto 4, 3) := by decide +kernel
theorem dX8_isKnown_45 : decode cX8_isKnown 45 = .ok (.iconst 0, 1) := by decide +kernel
theorem dX8_isKnown_46 : decode cX8_isKnown 46 = .ok (.ireturn, 1) := by decide +kernel
theorem dX8_orNothing_0 : decode cX8_orNothing 0 = .ok (.iload_n 0, 1) := by decide +kernel
theorem dX8_orNothing_1 : decode cX8_orNothing 1 = .ok (.ifCond .ge 8, 3) := by decide +kernel
theorem dX8_orNothing_4 : decode cX8_orNothing 4 = .ok (.ldc 176, 2) := by decide +kernel
theorem dX8_orNothing_6 : decode cX8_orNothing 6 = .ok (.goto 4, 3) := by decide +kernel
theorem dX8_orNothing_9 : decode cX8_orNothing 9 = .ok (.iload_n 0, 1) := by decide +kernel
theorem dX8_orNothing_10 : decode cX8_orNothing 10 = .ok (.ireturn, 1) := by decide +kernel
theorem dX8_house_0 : decode cX8_house 0 = .ok (.iload_n 1, 1) := by decide +kernel
theorem dX8_house_1 : decode cX8_house 1 = .ok (.tableswitch 101 0 9 #[55, 55, 55, 55, 55, 55, 55, 64, 80, 88], 55) := by decide +kernel
theorem dX8_house_56 : decode cX8_house 56 = .ok (.aload_n 0, 1) := by decide +kernel
theorem dX8_house_57 : decode cX8_house 57 = .ok (.getfield 9, 3) := by decide +kernel
theorem dX8_house_60 : decode cX8_house 60 = .ok (.iconst 5, 1) := by decide +kernel
theorem dX8_house_61 : decode cX8_house 61 = .ok (.iload_n 1, 1) := by decide +kernel
theorem dX8_house_62 : decode cX8_house 62 = .ok (.iadd, 1) := by decide +kernel
theorem dX8_house_63 : decode cX8_house 63 = .ok (.iaload, 1) := by decide +kernel
theorem dX8_house_64 : decode cX8_house 64 = .ok (.ireturn, 1) := by decide +kernel
theorem dX8_house_65 : decode cX8_house 65 = .ok (.aload_n 0, 1) := by decide +kernel
theorem dX8_house_66 : decode cX8_house 66 = .ok (.getfield 9, 3) := by decide +kernel
theorem dX8_house_69 : decode cX8_house 69 = .ok (.bipush 12, 2) := by decide +kernel
theorem dX8_house_71 : decode cX8_house 71 = .ok (.iaload, 1) := by decide +kernel
theorem dX8_house_72 : decode cX8_house 72 = .ok (.ifCond .ge 7, 3) := by decide +kernel
theorem dX8_house_75 : decode cX8_house 75 = .ok (.iconst 0, 1) := by decide +kernel
theorem dX8_house_76 : decode cX8_house 76 = .ok (.goto 4, 3) := by decide +kernel
theorem dX8_house_79 : decode cX8_house 79 = .ok (.iconst 1, 1) := by decide +kernel
theorem dX8_house_80 : decode cX8_house 80 = .ok (.ireturn, 1) := by decide +kernel
theorem dX8_house_81 : decode cX8_house 81 = .ok (.aload_n 0, 1) := by decide +kernel
theorem dX8_house_82 : decode cX8_house 82 = .ok (.invokevirtual 177, 3) := by decide +kernel
theorem dX8_house_85 : decode cX8_house 85 = .ok (.invokestatic 180, 3) := by decide +kernel
theorem dX8_house_88 : decode cX8_house 88 = .ok (.ireturn, 1) := by decide +kernel
theorem dX8_house_89 : decode cX8_house 89 = .ok (.aload_n 0, 1) := by decide +kernel
theorem dX8_house_90 : decode cX8_house 90 = .ok (.invokevirtual 183, 3) := by decide +kernel
theorem dX8_house_93 : decode cX8_house 93 = .ok (.ifCond .eq 7, 3) := by decide +kernel
theorem dX8_house_96 : decode cX8_house 96 = .ok (.iconst 1, 1) := by decide +kernel
theorem dX8_house_97 : decode cX8_house 97 = .ok (.goto 4, 3) := by decide +kernel
theorem dX8_house_100 : decode cX8_house 100 = .ok (.iconst 0, 1) := by decide +kernel
theorem dX8_house_101 : decode cX8_house 101 = .ok (.ireturn, 1) := by decide +kernel
theorem dX8_house_102 : decode cX8_house 102 = .ok (.ldc 97, 2) := by decide +kernel
theorem dX8_house_104 : decode cX8_house 104 = .ok (.ireturn, 1) := by decide +kernel
theorem dX8_chance_0 : decode cX8_chance 0 = .ok (.iload_n 1, 1) := by decide +kernel
theorem dX8_chance_1 : decode cX8_chance 1 = .ok (.invokestatic 89, 3) := by decide +kernel
theorem dX8_chance_4 : decode cX8_chance 4 = .ok (.ifCond .ne 6, 3) := by decide +kernel
theorem dX8_chance_7 : decode cX8_chance 7 = .ok (.ldc 97, 2) := by decide +kernel
theorem dX8_chance_9 : decode cX8_chance 9 = .ok (.ireturn, 1) := by decide +kernel
theorem dX8_chance_10 : decode cX8_chance 10 = .ok (.aload_n 0, 1) := by decide +kernel
theorem dX8_chance_11 : decode cX8_chance 11 = .ok (.getfield 9, 3) := by decide +kernel
theorem dX8_chance_14 : decode cX8_chance 14 = .ok (.iconst 1, 1) := by decide +kernel
theorem dX8_chance_15 : decode cX8_chance 15 = .ok (.iaload, 1) := by decide +kernel
theorem dX8_chance_16 : decode cX8_chance 16 = .ok (.ifCond .ne 6, 3) := by decide +kernel
theorem dX8_chance_19 : decode cX8_chance 19 = .ok (.ldc 176, 2) := by decide +kernel
theorem dX8_chance_21 : decode cX8_chance 21 = .ok (.ireturn, 1) := by decide +kernel
theorem dX8_chance_22 : decode cX8_chance 22 = .ok (.lconst 0, 1) := by decide +kernel
theorem dX8_chance_23 : decode cX8_chance 23 = .ok (.lstore_n 2, 1) := by decide +kernel
theorem dX8_chance_24 : decode cX8_chance 24 = .ok (.iconst 0, 1) := by decide +kernel
theorem dX8_chance_25 : decode cX8_chance 25 = .ok (.istore 4, 2) := by decide +kernel
theorem dX8_chance_27 : decode cX8_chance 27 = .ok (.iload 4, 2) := by decide +kernel
theorem dX8_chance_29 : decode cX8_chance 29 = .ok (.aload_n 0, 1) := by decide +kernel
theorem dX8_chance_30 : decode cX8_chance 30 = .ok (.getfield 9, 3) := by decide +kernel
theorem dX8_chance_33 : decode cX8_chance 33 = .ok (.iconst 1, 1) := by decide +kernel
theorem dX8_chance_34 : decode cX8_chance 34 = .ok (.iaload, 1) := by decide +kernel
theorem dX8_chance_35 : decode cX8_chance 35 = .ok (.if_icmp .ge 34, 3) := by decide +kernel
theorem dX8_chance_38 : decode cX8_chance 38 = .ok (.lload_n 2, 1) := by decide +kernel
theorem dX8_chance_39 : decode cX8_chance 39 = .ok (.aload_n 0, 1) := by decide +kernel
theorem dX8_chance_40 : decode cX8_chance 40 = .ok (.iload 4, 2) := by decide +kernel
theorem dX8_chance_42 : decode cX8_chance 42 = .ok (.iload_n 1, 1) := by decide +kernel
theorem dX8_chance_43 : decode cX8_chance 43 = .ok (.invokevirtual 111, 3) := by decide +kernel
theorem dX8_chance_46 : decode cX8_chance 46 = .ok (.ifCond .eq 14, 3) := by decide +kernel
theorem dX8_chance_49 : decode cX8_chance 49 = .ok (.aload_n 0, 1) := by decide +kernel
theorem dX8_chance_50 : decode cX8_chance 50 = .ok (.iload 4, 2) := by decide +kernel
theorem dX8_chance_52 : decode cX8_chance 52 = .ok (.iconst 4, 1) := by decide +kernel
theorem dX8_chance_53 : decode cX8_chance 53 = .ok (.invokevirtual 103, 3) := by decide +kernel
theorem dX8_chance_56 : decode cX8_chance 56 = .ok (.i2l, 1) := by decide +kernel
theorem dX8_chance_57 : decode cX8_chance 57 = .ok (.goto 4, 3) := by decide +kernel
theorem dX8_chance_60 : decode cX8_chance 60 = .ok (.lconst 0, 1) := by decide +kernel
theorem dX8_chance_61 : decode cX8_chance 61 = .ok (.ladd, 1) := by decide +kernel
theorem dX8_chance_62 : decode cX8_chance 62 = .ok (.lstore_n 2, 1) := by decide +kernel
theorem dX8_chance_63 : decode cX8_chance 63 = .ok (.iinc 4 1, 3) := by decide +kernel
theorem dX8_chance_66 : decode cX8_chance 66 = .ok (.goto (-39), 3) := by decide +kernel
theorem dX8_chance_69 : decode cX8_chance 69 = .ok (.ldc2_w 174, 3) := by decide +kernel
theorem dX8_chance_72 : decode cX8_chance 72 = .ok (.lload_n 2, 1) := by decide +kernel
theorem dX8_chance_73 : decode cX8_chance 73 = .ok (.lmul, 1) := by decide +kernel
theorem dX8_chance_74 : decode cX8_chance 74 = .ok (.aload_n 0, 1) := by decide +kernel
theorem dX8_chance_75 : decode cX8_chance 75 = .ok (.iconst 4, 1) := by decide +kernel
theorem dX8_chance_76 : decode cX8_chance 76 = .ok (.invokevirtual 151, 3) := by decide +kernel
theorem dX8_chance_79 : decode cX8_chance 79 = .ok (.i2l, 1) := by decide +kernel
theorem dX8_chance_80 : decode cX8_chance 80 = .ok (.ldiv, 1) := by decide +kernel
theorem dX8_chance_81 : decode cX8_chance 81 = .ok (.l2i, 1) := by decide +kernel
theorem dX8_chance_82 : decode cX8_chance 82 = .ok (.ireturn, 1) := by decide +kernel
theorem dX8_weighsAll_0 : decode cX8_weighsAll 0 = .ok (.iconst 0, 1) := by decide +kernel
theorem dX8_weighsAll_1 : decode cX8_weighsAll 1 = .ok (.istore_n 1, 1) := by decide +kernel
theorem dX8_weighsAll_2 : decode cX8_weighsAll 2 = .ok (.iload_n 1, 1) := by decide +kernel
theorem dX8_weighsAll_3 : decode cX8_weighsAll 3 = .ok (.aload_n 0, 1) := by decide +kernel
theorem dX8_weighsAll_4 : decode cX8_weighsAll 4 = .ok (.getfield 9, 3) := by decide +kernel
theorem dX8_weighsAll_7 : decode cX8_weighsAll 7 = .ok (.iconst 1, 1) := by decide +kernel
theorem dX8_weighsAll_8 : decode cX8_weighsAll 8 = .ok (.iaload, 1) := by decide +kernel
theorem dX8_weighsAll_9 : decode cX8_weighsAll 9 = .ok (.if_icmp .ge 27, 3) := by decide +kernel
theorem dX8_weighsAll_12 : decode cX8_weighsAll 12 = .ok (.aload_n 0, 1) := by decide +kernel
theorem dX8_weighsAll_13 : decode cX8_weighsAll 13 = .ok (.getfield 19, 3) := by decide +kernel
theorem dX8_weighsAll_16 : decode cX8_weighsAll 16 = .ok (.iload_n 1, 1) := by decide +kernel
theorem dX8_weighsAll_17 : decode cX8_weighsAll 17 = .ok (.iconst 1, 1) := by decide +kernel
theorem dX8_weighsAll_18 : decode cX8_weighsAll 18 = .ok (.iastore, 1) := by decide +kernel
theorem dX8_weighsAll_19 : decode cX8_weighsAll 19 = .ok (.aload_n 0, 1) := by decide +kernel
theorem dX8_weighsAll_20 : decode cX8_weighsAll 20 = .ok (.getfield 22, 3) := by decide +kernel
theorem dX8_weighsAll_23 : decode cX8_weighsAll 23 = .ok (.iload_n 1, 1) := by decide +kernel
theorem dX8_weighsAll_24 : decode cX8_weighsAll 24 = .ok (.aload_n 0, 1) := by decide +kernel
theorem dX8_weighsAll_25 : decode cX8_weighsAll 25 = .ok (.iload_n 1, 1) := by decide +kernel
theorem dX8_weighsAll_26 : decode cX8_weighsAll 26 = .ok (.invokevirtual 124, 3) := by decide +kernel
theorem dX8_weighsAll_29 : decode cX8_weighsAll 29 = .ok (.iastore, 1) := by decide +kernel
theorem dX8_weighsAll_30 : decode cX8_weighsAll 30 = .ok (.iinc 1 1, 3) := by decide +kernel
theorem dX8_weighsAll_33 : decode cX8_weighsAll 33 = .ok (.goto (-31), 3) := by decide +kernel
theorem dX8_weighsAll_36 : decode cX8_weighsAll 36 = .ok (.return_, 1) := by decide +kernel
theorem dX8_lossAt_0 : decode cX8_lossAt 0 = .ok (.lconst 0, 1) := by decide +kernel
theorem dX8_lossAt_1 : decode cX8_lossAt 1 = .ok (.lstore_n 3, 1) := by decide +kernel
theorem dX8_lossAt_2 : decode cX8_lossAt 2 = .ok (.iconst 0, 1) := by decide +kernel
theorem dX8_lossAt_3 : decode cX8_lossAt 3 = .ok (.istore 5, 2) := by decide +kernel
theorem dX8_lossAt_5 : decode cX8_lossAt 5 = .ok (.iload 5, 2) := by decide +kernel
theorem dX8_lossAt_7 : decode cX8_lossAt 7 = .ok (.aload_n 0, 1) := by decide +kernel
theorem dX8_lossAt_8 : decode cX8_lossAt 8 = .ok (.getfield 9, 3) := by decide +kernel
theorem dX8_lossAt_11 : decode cX8_lossAt 11 = .ok (.iconst 1, 1) := by decide +kernel
theorem dX8_lossAt_12 : decode cX8_lossAt 12 = .ok (.iaload, 1) := by decide +kernel
theorem dX8_lossAt_13 : decode cX8_lossAt 13 = .ok (.if_icmp .ge 75, 3) := by decide +kernel
theorem dX8_lossAt_16 : decode cX8_lossAt 16 = .ok (.aload_n 0, 1) := by decide +kernel
theorem dX8_lossAt_17 : decode cX8_lossAt 17 = .ok (.iload 5, 2) := by decide +kernel
theorem dX8_lossAt_19 : decode cX8_lossAt 19 = .ok (.iload_n 1, 1) := by decide +kernel
theorem dX8_lossAt_20 : decode cX8_lossAt 20 = .ok (.invokevirtual 111, 3) := by decide +kernel
theorem dX8_lossAt_23 : decode cX8_lossAt 23 = .ok (.ifCond .eq 18, 3) := by decide +kernel
theorem dX8_lossAt_26 : decode cX8_lossAt 26 = .ok (.aload_n 0, 1) := by decide +kernel
theorem dX8_lossAt_27 : decode cX8_lossAt 27 = .ok (.iload 5, 2) := by decide +kernel
theorem dX8_lossAt_29 : decode cX8_lossAt 29 = .ok (.iconst 3, 1) := by decide +kernel
theorem dX8_lossAt_30 : decode cX8_lossAt 30 = .ok (.invokevirtual 103, 3) := by decide +kernel
theorem dX8_lossAt_33 : decode cX8_lossAt 33 = .ok (.iload_n 2, 1) := by decide +kernel
theorem dX8_lossAt_34 : decode cX8_lossAt 34 = .ok (.if_icmp .gt 7, 3) := by decide +kernel
theorem dX8_lossAt_37 : decode cX8_lossAt 37 = .ok (.iconst 1, 1) := by decide +kernel
theorem dX8_lossAt_38 : decode cX8_lossAt 38 = .ok (.goto 4, 3) := by decide +kernel
theorem dX8_lossAt_41 : decode cX8_lossAt 41 = .ok (.iconst 0, 1) := by decide +kernel
theorem dX8_lossAt_42 : decode cX8_lossAt 42 = .ok (.istore 6, 2) := by decide +kernel
theorem dX8_lossAt_44 : decode cX8_lossAt 44 = .ok (.lload_n 3, 1) := by decide +kernel
theorem dX8_lossAt_45 : decode cX8_lossAt 45 = .ok (.iload 6, 2) := by decide +kernel
theorem dX8_lossAt_47 : decode cX8_lossAt 47 = .ok (.ifCond .eq 32, 3) := by decide +kernel
theorem dX8_lossAt_50 : decode cX8_lossAt 50 = .ok (.aload_n 0, 1) := by decide +kernel
theorem dX8_lossAt_51 : decode cX8_lossAt 51 = .ok (.iload 5, 2) := by decide +kernel
theorem dX8_lossAt_53 : decode cX8_lossAt 53 = .ok (.iconst 4, 1) := by decide +kernel
theorem dX8_lossAt_54 : decode cX8_lossAt 54 = .ok (.invokevirtual 103, 3) := by decide +kernel
theorem dX8_lossAt_57 : decode cX8_lossAt 57 = .ok (.i2l, 1) := by decide +kernel
theorem dX8_lossAt_58 : decode cX8_lossAt 58 = .ok (.aload_n 0, 1) := by decide +kernel
theorem dX8_lossAt_59 : decode cX8_lossAt 59 = .ok (.getfield 19, 3) := by decide +kernel
theorem dX8_lossAt_62 : decode cX8_lossAt 62 = .ok (.iload 5, 2) := by decide +kernel
theorem dX8_lossAt_64 : decode cX8_lossAt 64 = .ok (.iaload, 1) := by decide +kernel
theorem dX8_lossAt_65 : decode cX8_lossAt 65 = .ok (.i2l, 1) := by decide +kernel
theorem dX8_lossAt_66 : decode cX8_lossAt 66 = .ok (.lmul, 1) := by decide +kernel
theorem dX8_lossAt_67 : decode cX8_lossAt 67 = .ok (.aload_n 0, 1) := by decide +kernel
theorem dX8_lossAt_68 : decode cX8_lossAt 68 = .ok (.getfield 22, 3) := by decide +kernel
theorem dX8_lossAt_71 : decode cX8_lossAt 71 = .ok (.iload 5, 2) := by decide +kernel
theorem dX8_lossAt_73 : decode cX8_lossAt 73 = .ok (.iaload, 1) := by decide +kernel
theorem dX8_lossAt_74 : decode cX8_lossAt 74 = .ok (.i2l, 1) := by decide +kernel
theorem dX8_lossAt_75 : decode cX8_lossAt 75 = .ok (.lmul, 1) := by decide +kernel
theorem dX8_lossAt_76 : decode cX8_lossAt 76 = .ok (.goto 4, 3) := by decide +kernel
theorem dX8_lossAt_79 : decode cX8_lossAt 79 = .ok (.lconst 0, 1) := by decide +kernel
theorem dX8_lossAt_80 : decode cX8_lossAt 80 = .ok (.ladd, 1) := by decide +kernel
theorem dX8_lossAt_81 : decode cX8_lossAt 81 = .ok (.lstore_n 3, 1) := by decide +kernel
theorem dX8_lossAt_82 : decode cX8_lossAt 82 = .ok (.iinc 5 1, 3) := by decide +kernel
theorem dX8_lossAt_85 : decode cX8_lossAt 85 = .ok (.goto (-80), 3) := by decide +kernel
theorem dX8_lossAt_88 : decode cX8_lossAt 88 = .ok (.lload_n 3, 1) := by decide +kernel
theorem dX8_lossAt_89 : decode cX8_lossAt 89 = .ok (.lreturn, 1) := by decide +kernel
theorem dX8_riskAt_0 : decode cX8_riskAt 0 = .ok (.aload_n 0, 1) := by decide +kernel
theorem dX8_riskAt_1 : decode cX8_riskAt 1 = .ok (.invokevirtual 187, 3) := by decide +kernel
theorem dX8_riskAt_4 : decode cX8_riskAt 4 = .ok (.ldc2_w 174, 3) := by decide +kernel
theorem dX8_riskAt_7 : decode cX8_riskAt 7 = .ok (.aload_n 0, 1) := by decide +kernel
theorem dX8_riskAt_8 : decode cX8_riskAt 8 = .ok (.iload_n 1, 1) := by decide +kernel
theorem dX8_riskAt_9 : decode cX8_riskAt 9 = .ok (.iload_n 2, 1) := by decide +kernel
theorem dX8_riskAt_10 : decode cX8_riskAt 10 = .ok (.invokevirtual 190, 3) := by decide +kernel
theorem dX8_riskAt_13 : decode cX8_riskAt 13 = .ok (.lmul, 1) := by decide +kernel
theorem dX8_riskAt_14 : decode cX8_riskAt 14 = .ok (.aload_n 0, 1) := by decide +kernel
theorem dX8_riskAt_15 : decode cX8_riskAt 15 = .ok (.iconst 4, 1) := by decide +kernel
theorem dX8_riskAt_16 : decode cX8_riskAt 16 = .ok (.invokevirtual 151, 3) := by decide +kernel
theorem dX8_riskAt_19 : decode cX8_riskAt 19 = .ok (.i2l, 1) := by decide +kernel
theorem dX8_riskAt_20 : decode cX8_riskAt 20 = .ok (.ldiv, 1) := by decide +kernel
theorem dX8_riskAt_21 : decode cX8_riskAt 21 = .ok (.l2i, 1) := by decide +kernel
theorem dX8_riskAt_22 : decode cX8_riskAt 22 = .ok (.ireturn, 1) := by decide +kernel
theorem dX8_risk_0 : decode cX8_risk 0 = .ok (.iload_n 1, 1) := by decide +kernel
theorem dX8_risk_1 : decode cX8_risk 1 = .ok (.invokestatic 89, 3) := by decide +kernel
theorem dX8_risk_4 : decode cX8_risk 4 = .ok (.ifCond .eq 13, 3) := by decide +kernel
theorem dX8_risk_7 : decode cX8_risk 7 = .ok (.iload_n 2, 1) := by decide +kernel
theorem dX8_risk_8 : decode cX8_risk 8 = .ok (.iconst 1, 1) := by decide +kernel
theorem dX8_risk_9 : decode cX8_risk 9 = .ok (.bipush 9, 2) := by decide +kernel
theorem dX8_risk_11 : decode cX8_risk 11 = .ok (.invokestatic 81, 3) := by decide +kernel
theorem dX8_risk_14 : decode cX8_risk 14 = .ok (.ifCond .ne 6, 3) := by decide +kernel
theorem dX8_risk_17 : decode cX8_risk 17 = .ok (.ldc 97, 2) := by decide +kernel
theorem dX8_risk_19 : decode cX8_risk 19 = .ok (.ireturn, 1) := by decide +kernel
theorem dX8_risk_20 : decode cX8_risk 20 = .ok (.aload_n 0, 1) := by decide +kernel
theorem dX8_risk_21 : decode cX8_risk 21 = .ok (.getfield 9, 3) := by decide +kernel
theorem dX8_risk_24 : decode cX8_risk 24 = .ok (.iconst 1, 1) := by decide +kernel
theorem dX8_risk_25 : decode cX8_risk 25 = .ok (.iaload, 1) := by decide +kernel
theorem dX8_risk_26 : decode cX8_risk 26 = .ok (.ifCond .ne 8, 3) := by decide +kernel
theorem dX8_risk_29 : decode cX8_risk 29 = .ok (.ldc 176, 2) := by decide +kernel
theorem dX8_risk_31 : decode cX8_risk 31 = .ok (.goto 9, 3) := by decide +kernel
theorem dX8_risk_34 : decode cX8_risk 34 = .ok (.aload_n 0, 1) := by decide +kernel
theorem dX8_risk_35 : decode cX8_risk 35 = .ok (.iload_n 1, 1) := by decide +kernel
theorem dX8_risk_36 : decode cX8_risk 36 = .ok (.iload_n 2, 1) := by decide +kernel
theorem dX8_risk_37 : decode cX8_risk 37 = .ok (.invokevirtual 194, 3) := by decide +kernel
theorem dX8_risk_40 : decode cX8_risk 40 = .ok (.ireturn, 1) := by decide +kernel
theorem dX8_leastOf_0 : decode cX8_leastOf 0 = .ok (.iconst (-1), 1) := by decide +kernel
theorem dX8_leastOf_1 : decode cX8_leastOf 1 = .ok (.istore_n 3, 1) := by decide +kernel
theorem dX8_leastOf_2 : decode cX8_leastOf 2 = .ok (.iconst 0, 1) := by decide +kernel
theorem dX8_leastOf_3 : decode cX8_leastOf 3 = .ok (.istore 4, 2) := by decide +kernel
theorem dX8_leastOf_5 : decode cX8_leastOf 5 = .ok (.iload 4, 2) := by decide +kernel
theorem dX8_leastOf_7 : decode cX8_leastOf 7 = .ok (.aload_n 0, 1) := by decide +kernel
theorem dX8_leastOf_8 : decode cX8_leastOf 8 = .ok (.getfield 57, 3) := by decide +kernel
theorem dX8_leastOf_11 : decode cX8_leastOf 11 = .ok (.iload_n 1, 1) := by decide +kernel
theorem dX8_leastOf_12 : decode cX8_leastOf 12 = .ok (.iaload, 1) := by decide +kernel
theorem dX8_leastOf_13 : decode cX8_leastOf 13 = .ok (.if_icmp .ge 71, 3) := by decide +kernel
theorem dX8_leastOf_16 : decode cX8_leastOf 16 = .ok (.aload_n 0, 1) := by decide +kernel
theorem dX8_leastOf_17 : decode cX8_leastOf 17 = .ok (.getfield 60, 3) := by decide +kernel
theorem dX8_leastOf_20 : decode cX8_leastOf 20 = .ok (.bipush 24, 2) := by decide +kernel
theorem dX8_leastOf_22 : decode cX8_leastOf 22 = .ok (.iload_n 1, 1) := by decide +kernel
theorem dX8_leastOf_23 : decode cX8_leastOf 23 = .ok (.imul, 1) := by decide +kernel
theorem dX8_leastOf_24 : decode cX8_leastOf 24 = .ok (.iload 4, 2) := by decide +kernel
theorem dX8_leastOf_26 : decode cX8_leastOf 26 = .ok (.iadd, 1) := by decide +kernel
theorem dX8_leastOf_27 : decode cX8_leastOf 27 = .ok (.iaload, 1) := by decide +kernel
theorem dX8_leastOf_28 : decode cX8_leastOf 28 = .ok (.istore 5, 2) := by decide +kernel
theorem dX8_leastOf_30 : decode cX8_leastOf 30 = .ok (.iload 5, 2) := by decide +kernel
theorem dX8_leastOf_32 : decode cX8_leastOf 32 = .ok (.invokestatic 89, 3) := by decide +kernel
theorem dX8_leastOf_35 : decode cX8_leastOf 35 = .ok (.ifCond .eq 28, 3) := by decide +kernel
theorem dX8_leastOf_38 : decode cX8_leastOf 38 = .ok (.iload_n 3, 1) := by decide +kernel
theorem dX8_leastOf_39 : decode cX8_leastOf 39 = .ok (.ifCond .lt 20, 3) := by decide +kernel
theorem dX8_leastOf_42 : decode cX8_leastOf 42 = .ok (.aload_n 0, 1) := by decide +kernel
theorem dX8_leastOf_43 : decode cX8_leastOf 43 = .ok (.iload 5, 2) := by decide +kernel
theorem dX8_leastOf_45 : decode cX8_leastOf 45 = .ok (.iload_n 2, 1) := by decide +kernel
theorem dX8_leastOf_46 : decode cX8_leastOf 46 = .ok (.invokevirtual 190, 3) := by decide +kernel
theorem dX8_leastOf_49 : decode cX8_leastOf 49 = .ok (.aload_n 0, 1) := by decide +kernel
theorem dX8_leastOf_50 : decode cX8_leastOf 50 = .ok (.iload_n 3, 1) := by decide +kernel
theorem dX8_leastOf_51 : decode cX8_leastOf 51 = .ok (.iload_n 2, 1) := by decide +kernel
theorem dX8_leastOf_52 : decode cX8_leastOf 52 = .ok (.invokevirtual 190, 3) := by decide +kernel
theorem dX8_leastOf_55 : decode cX8_leastOf 55 = .ok (.lcmp, 1) := by decide +kernel
theorem dX8_leastOf_56 : decode cX8_leastOf 56 = .ok (.ifCond .ge 7, 3) := by decide +kernel
theorem dX8_leastOf_59 : decode cX8_leastOf 59 = .ok (.iconst 1, 1) := by decide +kernel
theorem dX8_leastOf_60 : decode cX8_leastOf 60 = .ok (.goto 4, 3) := by decide +kernel
theorem dX8_leastOf_63 : decode cX8_leastOf 63 = .ok (.iconst 0, 1) := by decide +kernel
theorem dX8_leastOf_64 : decode cX8_leastOf 64 = .ok (.istore 6, 2) := by decide +kernel
theorem dX8_leastOf_66 : decode cX8_leastOf 66 = .ok (.iload 6, 2) := by decide +kernel
theorem dX8_leastOf_68 : decode cX8_leastOf 68 = .ok (.ifCond .eq 8, 3) := by decide +kernel
theorem dX8_leastOf_71 : decode cX8_leastOf 71 = .ok (.iload 5, 2) := by decide +kernel
theorem dX8_leastOf_73 : decode cX8_leastOf 73 = .ok (.goto 4, 3) := by decide +kernel
theorem dX8_leastOf_76 : decode cX8_leastOf 76 = .ok (.iload_n 3, 1) := by decide +kernel
theorem dX8_leastOf_77 : decode cX8_leastOf 77 = .ok (.istore_n 3, 1) := by decide +kernel
theorem dX8_leastOf_78 : decode cX8_leastOf 78 = .ok (.iinc 4 1, 3) := by decide +kernel
theorem dX8_leastOf_81 : decode cX8_leastOf 81 = .ok (.goto (-76), 3) := by decide +kernel
theorem dX8_leastOf_84 : decode cX8_leastOf 84 = .ok (.iload_n 3, 1) := by decide +kernel
theorem dX8_leastOf_85 : decode cX8_leastOf 85 = .ok (.ireturn, 1) := by decide +kernel
theorem dX8_where_0 : decode cX8_where 0 = .ok (.iload_n 1, 1) := by decide +kernel
theorem dX8_where_1 : decode cX8_where 1 = .ok (.invokestatic 197, 3) := by decide +kernel
theorem dX8_where_4 : decode cX8_where 4 = .ok (.ifCond .eq 22, 3) := by decide +kernel
theorem dX8_where_7 : decode cX8_where 7 = .ok (.iload_n 2, 1) := by decide +kernel
theorem dX8_where_8 : decode cX8_where 8 = .ok (.iconst 1, 1) := by decide +kernel
theorem dX8_where_9 : decode cX8_where 9 = .ok (.bipush 9, 2) := by decide +kernel
theorem dX8_where_11 : decode cX8_where 11 = .ok (.invokestatic 81, 3) := by decide +kernel
theorem dX8_where_14 : decode cX8_where 14 = .ok (.ifCond .eq 12, 3) := by decide +kernel
theorem dX8_where_17 : decode cX8_where 17 = .ok (.iload_n 3, 1) := by decide +kernel
theorem dX8_where_18 : decode cX8_where 18 = .ok (.iconst 0, 1) := by decide +kernel
theorem dX8_where_19 : decode cX8_where 19 = .ok (.iconst 1, 1) := by decide +kernel
theorem dX8_where_20 : decode cX8_where 20 = .ok (.invokestatic 81, 3) := by decide +kernel
theorem dX8_where_23 : decode cX8_where 23 = .ok (.ifCond .ne 6, 3) := by decide +kernel
theorem dX8_where_26 : decode cX8_where 26 = .ok (.ldc 97, 2) := by decide +kernel
theorem dX8_where_28 : decode cX8_where 28 = .ok (.ireturn, 1) := by decide +kernel
theorem dX8_where_29 : decode cX8_where 29 = .ok (.aload_n 0, 1) := by decide +kernel
theorem dX8_where_30 : decode cX8_where 30 = .ok (.getfield 54, 3) := by decide +kernel
theorem dX8_where_33 : decode cX8_where 33 = .ok (.iload_n 1, 1) := by decide +kernel
theorem dX8_where_34 : decode cX8_where 34 = .ok (.iaload, 1) := by decide +kernel
theorem dX8_where_35 : decode cX8_where 35 = .ok (.ifCond .ge 6, 3) := by decide +kernel
theorem dX8_where_38 : decode cX8_where 38 = .ok (.ldc 200, 2) := by decide +kernel
theorem dX8_where_40 : decode cX8_where 40 = .ok (.ireturn, 1) := by decide +kernel
theorem dX8_where_41 : decode cX8_where 41 = .ok (.aload_n 0, 1) := by decide +kernel
theorem dX8_where_42 : decode cX8_where 42 = .ok (.invokevirtual 187, 3) := by decide +kernel
theorem dX8_where_45 : decode cX8_where 45 = .ok (.aload_n 0, 1) := by decide +kernel
theorem dX8_where_46 : decode cX8_where 46 = .ok (.iload_n 1, 1) := by decide +kernel
theorem dX8_where_47 : decode cX8_where 47 = .ok (.iload_n 2, 1) := by decide +kernel
theorem dX8_where_48 : decode cX8_where 48 = .ok (.invokevirtual 201, 3) := by decide +kernel
theorem dX8_where_51 : decode cX8_where 51 = .ok (.istore 4, 2) := by decide +kernel
theorem dX8_where_53 : decode cX8_where 53 = .ok (.iload 4, 2) := by decide +kernel
theorem dX8_where_55 : decode cX8_where 55 = .ok (.ifCond .lt 12, 3) := by decide +kernel
theorem dX8_where_58 : decode cX8_where 58 = .ok (.aload_n 0, 1) := by decide +kernel
theorem dX8_where_59 : decode cX8_where 59 = .ok (.getfield 9, 3) := by decide +kernel
theorem dX8_where_62 : decode cX8_where 62 = .ok (.iconst 1, 1) := by decide +kernel
theorem dX8_where_63 : decode cX8_where 63 = .ok (.iaload, 1) := by decide +kernel
theorem dX8_where_64 : decode cX8_where 64 = .ok (.ifCond .ne 6, 3) := by decide +kernel
theorem dX8_where_67 : decode cX8_where 67 = .ok (.ldc 176, 2) := by decide +kernel
theorem dX8_where_69 : decode cX8_where 69 = .ok (.ireturn, 1) := by decide +kernel
theorem dX8_where_70 : decode cX8_where 70 = .ok (.iload_n 3, 1) := by decide +kernel
theorem dX8_where_71 : decode cX8_where 71 = .ok (.ifCond .ne 8, 3) := by decide +kernel
theorem dX8_where_74 : decode cX8_where 74 = .ok (.iload 4, 2) := by decide +kernel
theorem dX8_where_76 : decode cX8_where 76 = .ok (.goto 10, 3) := by decide +kernel
theorem dX8_where_79 : decode cX8_where 79 = .ok (.aload_n 0, 1) := by decide +kernel
theorem dX8_where_80 : decode cX8_where 80 = .ok (.iload 4, 2) := by decide +kernel
theorem dX8_where_82 : decode cX8_where 82 = .ok (.iload_n 2, 1) := by decide +kernel
theorem dX8_where_83 : decode cX8_where 83 = .ok (.invokevirtual 194, 3) := by decide +kernel
theorem dX8_where_86 : decode cX8_where 86 = .ok (.ireturn, 1) := by decide +kernel
theorem dX8_safe_0 : decode cX8_safe 0 = .ok (.iload_n 1, 1) := by decide +kernel
theorem dX8_safe_1 : decode cX8_safe 1 = .ok (.invokestatic 89, 3) := by decide +kernel
theorem dX8_safe_4 : decode cX8_safe 4 = .ok (.ifCond .eq 13, 3) := by decide +kernel
theorem dX8_safe_7 : decode cX8_safe 7 = .ok (.iload_n 2, 1) := by decide +kernel
theorem dX8_safe_8 : decode cX8_safe 8 = .ok (.iconst 0, 1) := by decide +kernel
theorem dX8_safe_9 : decode cX8_safe 9 = .ok (.ldc 204, 2) := by decide +kernel
theorem dX8_safe_11 : decode cX8_safe 11 = .ok (.invokestatic 81, 3) := by decide +kernel
theorem dX8_safe_14 : decode cX8_safe 14 = .ok (.ifCond .ne 6, 3) := by decide +kernel
theorem dX8_safe_17 : decode cX8_safe 17 = .ok (.ldc 97, 2) := by decide +kernel
theorem dX8_safe_19 : decode cX8_safe 19 = .ok (.ireturn, 1) := by decide +kernel
theorem dX8_safe_20 : decode cX8_safe 20 = .ok (.aload_n 0, 1) := by decide +kernel
theorem dX8_safe_21 : decode cX8_safe 21 = .ok (.getfield 9, 3) := by decide +kernel
theorem dX8_safe_24 : decode cX8_safe 24 = .ok (.iconst 1, 1) := by decide +kernel
theorem dX8_safe_25 : decode cX8_safe 25 = .ok (.iaload, 1) := by decide +kernel
theorem dX8_safe_26 : decode cX8_safe 26 = .ok (.ifCond .ne 6, 3) := by decide +kernel
theorem dX8_safe_29 : decode cX8_safe 29 = .ok (.ldc 176, 2) := by decide +kernel
theorem dX8_safe_31 : decode cX8_safe 31 = .ok (.ireturn, 1) := by decide +kernel
theorem dX8_safe_32 : decode cX8_safe 32 = .ok (.bipush 9, 2) := by decide +kernel
theorem dX8_safe_34 : decode cX8_safe 34 = .ok (.istore_n 3, 1) := by decide +kernel
theorem dX8_safe_35 : decode cX8_safe 35 = .ok (.iload_n 3, 1) := by decide +kernel
theorem dX8_safe_36 : decode cX8_safe 36 = .ok (.ifCond .le 19, 3) := by decide +kernel
theorem dX8_safe_39 : decode cX8_safe 39 = .ok (.aload_n 0, 1) := by decide +kernel
theorem dX8_safe_40 : decode cX8_safe 40 = .ok (.iload_n 1, 1) := by decide +kernel
theorem dX8_safe_41 : decode cX8_safe 41 = .ok (.iload_n 3, 1) := by decide +kernel
theorem dX8_safe_42 : decode cX8_safe 42 = .ok (.invokevirtual 194, 3) := by decide +kernel
theorem dX8_safe_45 : decode cX8_safe 45 = .ok (.iload_n 2, 1) := by decide +kernel
theorem dX8_safe_46 : decode cX8_safe 46 = .ok (.if_icmp .le 9, 3) := by decide +kernel
theorem dX8_safe_49 : decode cX8_safe 49 = .ok (.iinc 3 (-1), 3) := by decide +kernel
theorem dX8_safe_52 : decode cX8_safe 52 = .ok (.goto (-17), 3) := by decide +kernel
theorem dX8_safe_55 : decode cX8_safe 55 = .ok (.iload_n 3, 1) := by decide +kernel
theorem dX8_safe_56 : decode cX8_safe 56 = .ok (.ireturn, 1) := by decide +kernel
theorem dX8_learnOf_0 : decode cX8_learnOf 0 = .ok (.aload_n 0, 1) := by decide +kernel
theorem dX8_learnOf_1 : decode cX8_learnOf 1 = .ok (.invokevirtual 187, 3) := by decide +kernel
theorem dX8_learnOf_4 : decode cX8_learnOf 4 = .ok (.ldc2_w 205, 3) := by decide +kernel
theorem dX8_learnOf_7 : decode cX8_learnOf 7 = .ok (.aload_n 0, 1) := by decide +kernel
theorem dX8_learnOf_8 : decode cX8_learnOf 8 = .ok (.aload_n 0, 1) := by decide +kernel
theorem dX8_learnOf_9 : decode cX8_learnOf 9 = .ok (.iload_n 3, 1) := by decide +kernel
theorem dX8_learnOf_10 : decode cX8_learnOf 10 = .ok (.iload 4, 2) := by decide +kernel
theorem dX8_learnOf_12 : decode cX8_learnOf 12 = .ok (.invokevirtual 201, 3) := by decide +kernel
theorem dX8_learnOf_15 : decode cX8_learnOf 15 = .ok (.iload 4, 2) := by decide +kernel
theorem dX8_learnOf_17 : decode cX8_learnOf 17 = .ok (.invokevirtual 190, 3) := by decide +kernel
theorem dX8_learnOf_20 : decode cX8_learnOf 20 = .ok (.lmul, 1) := by decide +kernel
theorem dX8_learnOf_21 : decode cX8_learnOf 21 = .ok (.lstore 5, 2) := by decide +kernel
theorem dX8_learnOf_23 : decode cX8_learnOf 23 = .ok (.iconst 0, 1) := by decide +kernel
theorem dX8_learnOf_24 : decode cX8_learnOf 24 = .ok (.istore 7, 2) := by decide +kernel
theorem dX8_learnOf_26 : decode cX8_learnOf 26 = .ok (.iload 7, 2) := by decide +kernel
theorem dX8_learnOf_28 : decode cX8_learnOf 28 = .ok (.iconst 2, 1) := by decide +kernel
theorem dX8_learnOf_29 : decode cX8_learnOf 29 = .ok (.if_icmp .ge 86, 3) := by decide +kernel
theorem dX8_learnOf_32 : decode cX8_learnOf 32 = .ok (.iconst 0, 1) := by decide +kernel
theorem dX8_learnOf_33 : decode cX8_learnOf 33 = .ok (.istore 8, 2) := by decide +kernel
theorem dX8_learnOf_35 : decode cX8_learnOf 35 = .ok (.iload 8, 2) := by decide +kernel
theorem dX8_learnOf_37 : decode cX8_learnOf 37 = .ok (.aload_n 0, 1) := by decide +kernel
theorem dX8_learnOf_38 : decode cX8_learnOf 38 = .ok (.getfield 9, 3) := by decide +kernel
theorem dX8_learnOf_41 : decode cX8_learnOf 41 = .ok (.iconst 1, 1) := by decide +kernel
theorem dX8_learnOf_42 : decode cX8_learnOf 42 = .ok (.iaload, 1) := by decide +kernel
theorem dX8_learnOf_43 : decode cX8_learnOf 43 = .ok (.if_icmp .ge 48, 3) := by decide +kernel
theorem dX8_learnOf_46 : decode cX8_learnOf 46 = .ok (.aload_n 0, 1) := by decide +kernel
theorem dX8_learnOf_47 : decode cX8_learnOf 47 = .ok (.getfield 19, 3) := by decide +kernel
theorem dX8_learnOf_50 : decode cX8_learnOf 50 = .ok (.iload 8, 2) := by decide +kernel
theorem dX8_learnOf_52 : decode cX8_learnOf 52 = .ok (.aload_n 0, 1) := by decide +kernel
theorem dX8_learnOf_53 : decode cX8_learnOf 53 = .ok (.aload_n 0, 1) := by decide +kernel
theorem dX8_learnOf_54 : decode cX8_learnOf 54 = .ok (.iload 8, 2) := by decide +kernel
theorem dX8_learnOf_56 : decode cX8_learnOf 56 = .ok (.iload_n 1, 1) := by decide +kernel
theorem dX8_learnOf_57 : decode cX8_learnOf 57 = .ok (.iload_n 2, 1) := by decide +kernel
theorem dX8_learnOf_58 : decode cX8_learnOf 58 = .ok (.invokevirtual 143, 3) := by decide +kernel
theorem dX8_learnOf_61 : decode cX8_learnOf 61 = .ok (.iload 7, 2) := by decide +kernel
theorem dX8_learnOf_63 : decode cX8_learnOf 63 = .ok (.iconst 1, 1) := by decide +kernel
theorem dX8_learnOf_64 : decode cX8_learnOf 64 = .ok (.if_icmp .ne 7, 3) := by decide +kernel
theorem dX8_learnOf_67 : decode cX8_learnOf 67 = .ok (.iconst 1, 1) := by decide +kernel
theorem dX8_learnOf_68 : decode cX8_learnOf 68 = .ok (.goto 4, 3) := by decide +kernel
theorem dX8_learnOf_71 : decode cX8_learnOf 71 = .ok (.iconst 0, 1) := by decide +kernel
theorem dX8_learnOf_72 : decode cX8_learnOf 72 = .ok (.if_icmp .ne 7, 3) := by decide +kernel
theorem dX8_learnOf_75 : decode cX8_learnOf 75 = .ok (.iconst 1, 1) := by decide +kernel
theorem dX8_learnOf_76 : decode cX8_learnOf 76 = .ok (.goto 4, 3) := by decide +kernel
theorem dX8_learnOf_79 : decode cX8_learnOf 79 = .ok (.iconst 0, 1) := by decide +kernel
theorem dX8_learnOf_80 : decode cX8_learnOf 80 = .ok (.iload_n 1, 1) := by decide +kernel
theorem dX8_learnOf_81 : decode cX8_learnOf 81 = .ok (.invokevirtual 158, 3) := by decide +kernel
theorem dX8_learnOf_84 : decode cX8_learnOf 84 = .ok (.iastore, 1) := by decide +kernel
theorem dX8_learnOf_85 : decode cX8_learnOf 85 = .ok (.iinc 8 1, 3) := by decide +kernel
theorem dX8_learnOf_88 : decode cX8_learnOf 88 = .ok (.goto (-53), 3) := by decide +kernel
theorem dX8_learnOf_91 : decode cX8_learnOf 91 = .ok (.lload 5, 2) := by decide +kernel
theorem dX8_learnOf_93 : decode cX8_learnOf 93 = .ok (.aload_n 0, 1) := by decide +kernel
theorem dX8_learnOf_94 : decode cX8_learnOf 94 = .ok (.aload_n 0, 1) := by decide +kernel
theorem dX8_learnOf_95 : decode cX8_learnOf 95 = .ok (.iload_n 3, 1) := by decide +kernel
theorem dX8_learnOf_96 : decode cX8_learnOf 96 = .ok (.iload 4, 2) := by decide +kernel
theorem dX8_learnOf_98 : decode cX8_learnOf 98 = .ok (.invokevirtual 201, 3) := by decide +kernel
theorem dX8_learnOf_101 : decode cX8_learnOf 101 = .ok (.iload 4, 2) := by decide +kernel
theorem dX8_learnOf_103 : decode cX8_learnOf 103 = .ok (.invokevirtual 190, 3) := by decide +kernel
theorem dX8_learnOf_106 : decode cX8_learnOf 106 = .ok (.lsub, 1) := by decide +kernel
theorem dX8_learnOf_107 : decode cX8_learnOf 107 = .ok (.lstore 5, 2) := by decide +kernel
theorem dX8_learnOf_109 : decode cX8_learnOf 109 = .ok (.iinc 7 1, 3) := by decide +kernel
theorem dX8_learnOf_112 : decode cX8_learnOf 112 = .ok (.goto (-86), 3) := by decide +kernel
theorem dX8_learnOf_115 : decode cX8_learnOf 115 = .ok (.ldc2_w 174, 3) := by decide +kernel
theorem dX8_learnOf_118 : decode cX8_learnOf 118 = .ok (.lload 5, 2) := by decide +kernel
theorem dX8_learnOf_120 : decode cX8_learnOf 120 = .ok (.lmul, 1) := by decide +kernel
theorem dX8_learnOf_121 : decode cX8_learnOf 121 = .ok (.ldc2_w 205, 3) := by decide +kernel
theorem dX8_learnOf_124 : decode cX8_learnOf 124 = .ok (.aload_n 0, 1) := by decide +kernel
theorem dX8_learnOf_125 : decode cX8_learnOf 125 = .ok (.iconst 4, 1) := by decide +kernel
theorem dX8_learnOf_126 : decode cX8_learnOf 126 = .ok (.invokevirtual 151, 3) := by decide +kernel
theorem dX8_learnOf_129 : decode cX8_learnOf 129 = .ok (.i2l, 1) := by decide +kernel
theorem dX8_learnOf_130 : decode cX8_learnOf 130 = .ok (.lmul, 1) := by decide +kernel
theorem dX8_learnOf_131 : decode cX8_learnOf 131 = .ok (.ldiv, 1) := by decide +kernel
theorem dX8_learnOf_132 : decode cX8_learnOf 132 = .ok (.l2i, 1) := by decide +kernel
theorem dX8_learnOf_133 : decode cX8_learnOf 133 = .ok (.ireturn, 1) := by decide +kernel
theorem dX8_isWished_0 : decode cX8_isWished 0 = .ok (.aload_n 0, 1) := by decide +kernel
theorem dX8_isWished_1 : decode cX8_isWished 1 = .ok (.invokevirtual 187, 3) := by decide +kernel
theorem dX8_isWished_4 : decode cX8_isWished 4 = .ok (.aload_n 0, 1) := by decide +kernel
theorem dX8_isWished_5 : decode cX8_isWished 5 = .ok (.getfield 9, 3) := by decide +kernel
theorem dX8_isWished_8 : decode cX8_isWished 8 = .ok (.iconst 1, 1) := by decide +kernel
theorem dX8_isWished_9 : decode cX8_isWished 9 = .ok (.iaload, 1) := by decide +kernel
theorem dX8_isWished_10 : decode cX8_isWished 10 = .ok (.ifCond .le 16, 3) := by decide +kernel
theorem dX8_isWished_13 : decode cX8_isWished 13 = .ok (.aload_n 0, 1) := by decide +kernel
theorem dX8_isWished_14 : decode cX8_isWished 14 = .ok (.iload_n 1, 1) := by decide +kernel
theorem dX8_isWished_15 : decode cX8_isWished 15 = .ok (.iconst 1, 1) := by decide +kernel
theorem dX8_isWished_16 : decode cX8_isWished 16 = .ok (.invokevirtual 201, 3) := by decide +kernel
theorem dX8_isWished_19 : decode cX8_isWished 19 = .ok (.ifCond .lt 7, 3) := by decide +kernel
theorem dX8_isWished_22 : decode cX8_isWished 22 = .ok (.iconst 1, 1) := by decide +kernel
theorem dX8_isWished_23 : decode cX8_isWished 23 = .ok (.goto 4, 3) := by decide +kernel
theorem dX8_isWished_26 : decode cX8_isWished 26 = .ok (.iconst 0, 1) := by decide +kernel
theorem dX8_isWished_27 : decode cX8_isWished 27 = .ok (.ireturn, 1) := by decide +kernel
theorem dX8_learn_0 : decode cX8_learn 0 = .ok (.iload_n 1, 1) := by decide +kernel
theorem dX8_learn_1 : decode cX8_learn 1 = .ok (.iload_n 2, 1) := by decide +kernel
theorem dX8_learn_2 : decode cX8_learn 2 = .ok (.invokestatic 140, 3) := by decide +kernel
theorem dX8_learn_5 : decode cX8_learn 5 = .ok (.ifCond .eq 21, 3) := by decide +kernel
theorem dX8_learn_8 : decode cX8_learn 8 = .ok (.iload_n 3, 1) := by decide +kernel
theorem dX8_learn_9 : decode cX8_learn 9 = .ok (.invokestatic 197, 3) := by decide +kernel
theorem dX8_learn_12 : decode cX8_learn 12 = .ok (.ifCond .eq 14, 3) := by decide +kernel
theorem dX8_learn_15 : decode cX8_learn 15 = .ok (.iload 4, 2) := by decide +kernel
theorem dX8_learn_17 : decode cX8_learn 17 = .ok (.iconst 1, 1) := by decide +kernel
theorem dX8_learn_18 : decode cX8_learn 18 = .ok (.bipush 9, 2) := by decide +kernel
theorem dX8_learn_20 : decode cX8_learn 20 = .ok (.invokestatic 81, 3) := by decide +kernel
theorem dX8_learn_23 : decode cX8_learn 23 = .ok (.ifCond .ne 6, 3) := by decide +kernel
theorem dX8_learn_26 : decode cX8_learn 26 = .ok (.ldc 97, 2) := by decide +kernel
theorem dX8_learn_28 : decode cX8_learn 28 = .ok (.ireturn, 1) := by decide +kernel
theorem dX8_learn_29 : decode cX8_learn 29 = .ok (.aload_n 0, 1) := by decide +kernel
theorem dX8_learn_30 : decode cX8_learn 30 = .ok (.getfield 54, 3) := by decide +kernel
theorem dX8_learn_33 : decode cX8_learn 33 = .ok (.iload_n 3, 1) := by decide +kernel
theorem dX8_learn_34 : decode cX8_learn 34 = .ok (.iaload, 1) := by decide +kernel
theorem dX8_learn_35 : decode cX8_learn 35 = .ok (.ifCond .ge 6, 3) := by decide +kernel
theorem dX8_learn_38 : decode cX8_learn 38 = .ok (.ldc 200, 2) := by decide +kernel
theorem dX8_learn_40 : decode cX8_learn 40 = .ok (.ireturn, 1) := by decide +kernel
theorem dX8_learn_41 : decode cX8_learn 41 = .ok (.aload_n 0, 1) := by decide +kernel
theorem dX8_learn_42 : decode cX8_learn 42 = .ok (.iload_n 3, 1) := by decide +kernel
theorem dX8_learn_43 : decode cX8_learn 43 = .ok (.invokevirtual 207, 3) := by decide +kernel
theorem dX8_learn_46 : decode cX8_learn 46 = .ok (.ifCond .eq 15, 3) := by decide +kernel
theorem dX8_learn_49 : decode cX8_learn 49 = .ok (.aload_n 0, 1) := by decide +kernel
theorem dX8_learn_50 : decode cX8_learn 50 = .ok (.iload_n 1, 1) := by decide +kernel
theorem dX8_learn_51 : decode cX8_learn 51 = .ok (.iload_n 2, 1) := by decide +kernel
theorem dX8_learn_52 : decode cX8_learn 52 = .ok (.iload_n 3, 1) := by decide +kernel
theorem dX8_learn_53 : decode cX8_learn 53 = .ok (.iload 4, 2) := by decide +kernel
theorem dX8_learn_55 : decode cX8_learn 55 = .ok (.invokevirtual 210, 3) := by decide +kernel
theorem dX8_learn_58 : decode cX8_learn 58 = .ok (.goto 5, 3) := by decide +kernel
theorem dX8_learn_61 : decode cX8_learn 61 = .ok (.ldc 176, 2) := by decide +kernel
theorem dX8_learn_63 : decode cX8_learn 63 = .ok (.ireturn, 1) := by decide +kernel
theorem dX8_worthiest_0 : decode cX8_worthiest 0 = .ok (.iload_n 1, 1) := by decide +kernel
theorem dX8_worthiest_1 : decode cX8_worthiest 1 = .ok (.invokestatic 197, 3) := by decide +kernel
theorem dX8_worthiest_4 : decode cX8_worthiest 4 = .ok (.ifCond .eq 22, 3) := by decide +kernel
theorem dX8_worthiest_7 : decode cX8_worthiest 7 = .ok (.iload_n 2, 1) := by decide +kernel
theorem dX8_worthiest_8 : decode cX8_worthiest 8 = .ok (.iconst 1, 1) := by decide +kernel
theorem dX8_worthiest_9 : decode cX8_worthiest 9 = .ok (.bipush 9, 2) := by decide +kernel
theorem dX8_worthiest_11 : decode cX8_worthiest 11 = .ok (.invokestatic 81, 3) := by decide +kernel
theorem dX8_worthiest_14 : decode cX8_worthiest 14 = .ok (.ifCond .eq 12, 3) := by decide +kernel
theorem dX8_worthiest_17 : decode cX8_worthiest 17 = .ok (.iload_n 3, 1) := by decide +kernel
theorem dX8_worthiest_18 : decode cX8_worthiest 18 = .ok (.iconst 0, 1) := by decide +kernel
theorem dX8_worthiest_19 : decode cX8_worthiest 19 = .ok (.iconst 2, 1) := by decide +kernel
theorem dX8_worthiest_20 : decode cX8_worthiest 20 = .ok (.invokestatic 81, 3) := by decide +kernel
theorem dX8_worthiest_23 : decode cX8_worthiest 23 = .ok (.ifCond .ne 6, 3) := by decide +kernel
theorem dX8_worthiest_26 : decode cX8_worthiest 26 = .ok (.ldc 97, 2) := by decide +kernel
theorem dX8_worthiest_28 : decode cX8_worthiest 28 = .ok (.ireturn, 1) := by decide +kernel
theorem dX8_worthiest_29 : decode cX8_worthiest 29 = .ok (.aload_n 0, 1) := by decide +kernel
theorem dX8_worthiest_30 : decode cX8_worthiest 30 = .ok (.getfield 54, 3) := by decide +kernel
theorem dX8_worthiest_33 : decode cX8_worthiest 33 = .ok (.iload_n 1, 1) := by decide +kernel
theorem dX8_worthiest_34 : decode cX8_worthiest 34 = .ok (.iaload, 1) := by decide +kernel
theorem dX8_worthiest_35 : decode cX8_worthiest 35 = .ok (.ifCond .ge 6, 3) := by decide +kernel
theorem dX8_worthiest_38 : decode cX8_worthiest 38 = .ok (.ldc 200, 2) := by decide +kernel
theorem dX8_worthiest_40 : decode cX8_worthiest 40 = .ok (.ireturn, 1) := by decide +kernel
theorem dX8_worthiest_41 : decode cX8_worthiest 41 = .ok (.aload_n 0, 1) := by decide +kernel
theorem dX8_worthiest_42 : decode cX8_worthiest 42 = .ok (.iload_n 1, 1) := by decide +kernel
theorem dX8_worthiest_43 : decode cX8_worthiest 43 = .ok (.invokevirtual 207, 3) := by decide +kernel
theorem dX8_worthiest_46 : decode cX8_worthiest 46 = .ok (.ifCond .ne 6, 3) := by decide +kernel
theorem dX8_worthiest_49 : decode cX8_worthiest 49 = .ok (.ldc 176, 2) := by decide +kernel
theorem dX8_worthiest_51 : decode cX8_worthiest 51 = .ok (.ireturn, 1) := by decide +kernel
theorem dX8_worthiest_52 : decode cX8_worthiest 52 = .ok (.iconst 0, 1) := by decide +kernel
theorem dX8_worthiest_53 : decode cX8_worthiest 53 = .ok (.istore 4, 2) := by decide +kernel
theorem dX8_worthiest_55 : decode cX8_worthiest 55 = .ok (.iconst (-1), 1) := by decide +kernel
theorem dX8_worthiest_56 : decode cX8_worthiest 56 = .ok (.istore 5, 2) := by decide +kernel
theorem dX8_worthiest_58 : decode cX8_worthiest 58 = .ok (.iconst 0, 1) := by decide +kernel
theorem dX8_worthiest_59 : decode cX8_worthiest 59 = .ok (.istore 6, 2) := by decide +kernel
theorem dX8_worthiest_61 : decode cX8_worthiest 61 = .ok (.iload 6, 2) := by decide +kernel
theorem dX8_worthiest_63 : decode cX8_worthiest 63 = .ok (.sipush 144, 3) := by decide +kernel
theorem dX8_worthiest_66 : decode cX8_worthiest 66 = .ok (.if_icmp .ge 59, 3) := by decide +kernel
theorem dX8_worthiest_69 : decode cX8_worthiest 69 = .ok (.aload_n 0, 1) := by decide +kernel
theorem dX8_worthiest_70 : decode cX8_worthiest 70 = .ok (.iload 6, 2) := by decide +kernel
theorem dX8_worthiest_72 : decode cX8_worthiest 72 = .ok (.bipush 36, 2) := by decide +kernel
theorem dX8_worthiest_74 : decode cX8_worthiest 74 = .ok (.idiv, 1) := by decide +kernel
theorem dX8_worthiest_75 : decode cX8_worthiest 75 = .ok (.iload 6, 2) := by decide +kernel
theorem dX8_worthiest_77 : decode cX8_worthiest 77 = .ok (.bipush 36, 2) := by decide +kernel
theorem dX8_worthiest_79 : decode cX8_worthiest 79 = .ok (.irem, 1) := by decide +kernel
theorem dX8_worthiest_80 : decode cX8_worthiest 80 = .ok (.iload_n 1, 1) := by decide +kernel
theorem dX8_worthiest_81 : decode cX8_worthiest 81 = .ok (.iload_n 2, 1) := by decide +kernel
theorem dX8_worthiest_82 : decode cX8_worthiest 82 = .ok (.invokevirtual 210, 3) := by decide +kernel
theorem dX8_worthiest_85 : decode cX8_worthiest 85 = .ok (.istore 7, 2) := by decide +kernel
theorem dX8_worthiest_87 : decode cX8_worthiest 87 = .ok (.iload 7, 2) := by decide +kernel
theorem dX8_worthiest_89 : decode cX8_worthiest 89 = .ok (.iload 5, 2) := by decide +kernel
theorem dX8_worthiest_91 : decode cX8_worthiest 91 = .ok (.if_icmp .le 8, 3) := by decide +kernel
theorem dX8_worthiest_94 : decode cX8_worthiest 94 = .ok (.iload 6, 2) := by decide +kernel
theorem dX8_worthiest_96 : decode cX8_worthiest 96 = .ok (.goto 5, 3) := by decide +kernel
theorem dX8_worthiest_99 : decode cX8_worthiest 99 = .ok (.iload 4, 2) := by decide +kernel
theorem dX8_worthiest_101 : decode cX8_worthiest 101 = .ok (.istore 4, 2) := by decide +kernel
theorem dX8_worthiest_103 : decode cX8_worthiest 103 = .ok (.iload 7, 2) := by decide +kernel
theorem dX8_worthiest_105 : decode cX8_worthiest 105 = .ok (.iload 5, 2) := by decide +kernel
theorem dX8_worthiest_107 : decode cX8_worthiest 107 = .ok (.if_icmp .le 8, 3) := by decide +kernel
theorem dX8_worthiest_110 : decode cX8_worthiest 110 = .ok (.iload 7, 2) := by decide +kernel
theorem dX8_worthiest_112 : decode cX8_worthiest 112 = .ok (.goto 5, 3) := by decide +kernel
theorem dX8_worthiest_115 : decode cX8_worthiest 115 = .ok (.iload 5, 2) := by decide +kernel
theorem dX8_worthiest_117 : decode cX8_worthiest 117 = .ok (.istore 5, 2) := by decide +kernel
theorem dX8_worthiest_119 : decode cX8_worthiest 119 = .ok (.iinc 6 1, 3) := by decide +kernel
theorem dX8_worthiest_122 : decode cX8_worthiest 122 = .ok (.goto (-61), 3) := by decide +kernel
theorem dX8_worthiest_125 : decode cX8_worthiest 125 = .ok (.iload_n 3, 1) := by decide +kernel
theorem dX8_worthiest_126 : decode cX8_worthiest 126 = .ok (.ifCond .ne 11, 3) := by decide +kernel
theorem dX8_worthiest_129 : decode cX8_worthiest 129 = .ok (.iload 4, 2) := by decide +kernel
theorem dX8_worthiest_131 : decode cX8_worthiest 131 = .ok (.bipush 36, 2) := by decide +kernel
theorem dX8_worthiest_133 : decode cX8_worthiest 133 = .ok (.idiv, 1) := by decide +kernel
theorem dX8_worthiest_134 : decode cX8_worthiest 134 = .ok (.goto 18, 3) := by decide +kernel
theorem dX8_worthiest_137 : decode cX8_worthiest 137 = .ok (.iload_n 3, 1) := by decide +kernel
theorem dX8_worthiest_138 : decode cX8_worthiest 138 = .ok (.iconst 1, 1) := by decide +kernel
theorem dX8_worthiest_139 : decode cX8_worthiest 139 = .ok (.if_icmp .ne 11, 3) := by decide +kernel
theorem dX8_worthiest_142 : decode cX8_worthiest 142 = .ok (.iload 4, 2) := by decide +kernel
theorem dX8_worthiest_144 : decode cX8_worthiest 144 = .ok (.bipush 36, 2) := by decide +kernel
theorem dX8_worthiest_146 : decode cX8_worthiest 146 = .ok (.irem, 1) := by decide +kernel
theorem dX8_worthiest_147 : decode cX8_worthiest 147 = .ok (.goto 5, 3) := by decide +kernel
theorem dX8_worthiest_150 : decode cX8_worthiest 150 = .ok (.iload 5, 2) := by decide +kernel
theorem dX8_worthiest_152 : decode cX8_worthiest 152 = .ok (.ireturn, 1) := by decide +kernel
theorem dX8_fitsOf_0 : decode cX8_fitsOf 0 = .ok (.iconst 0, 1) := by decide +kernel
theorem dX8_fitsOf_1 : decode cX8_fitsOf 1 = .ok (.istore_n 3, 1) := by decide +kernel
theorem dX8_fitsOf_2 : decode cX8_fitsOf 2 = .ok (.iconst 0, 1) := by decide +kernel
theorem dX8_fitsOf_3 : decode cX8_fitsOf 3 = .ok (.istore 4, 2) := by decide +kernel
theorem dX8_fitsOf_5 : decode cX8_fitsOf 5 = .ok (.iload 4, 2) := by decide +kernel
theorem dX8_fitsOf_7 : decode cX8_fitsOf 7 = .ok (.aload_n 0, 1) := by decide +kernel
theorem dX8_fitsOf_8 : decode cX8_fitsOf 8 = .ok (.getfield 57, 3) := by decide +kernel
theorem dX8_fitsOf_11 : decode cX8_fitsOf 11 = .ok (.iload_n 1, 1) := by decide +kernel
theorem dX8_fitsOf_12 : decode cX8_fitsOf 12 = .ok (.iaload, 1) := by decide +kernel
theorem dX8_fitsOf_13 : decode cX8_fitsOf 13 = .ok (.if_icmp .ge 49, 3) := by decide +kernel
theorem dX8_fitsOf_16 : decode cX8_fitsOf 16 = .ok (.aload_n 0, 1) := by decide +kernel
theorem dX8_fitsOf_17 : decode cX8_fitsOf 17 = .ok (.getfield 60, 3) := by decide +kernel
theorem dX8_fitsOf_20 : decode cX8_fitsOf 20 = .ok (.bipush 24, 2) := by decide +kernel
theorem dX8_fitsOf_22 : decode cX8_fitsOf 22 = .ok (.iload_n 1, 1) := by decide +kernel
theorem dX8_fitsOf_23 : decode cX8_fitsOf 23 = .ok (.imul, 1) := by decide +kernel
theorem dX8_fitsOf_24 : decode cX8_fitsOf 24 = .ok (.iload 4, 2) := by decide +kernel
theorem dX8_fitsOf_26 : decode cX8_fitsOf 26 = .ok (.iadd, 1) := by decide +kernel
theorem dX8_fitsOf_27 : decode cX8_fitsOf 27 = .ok (.iaload, 1) := by decide +kernel
theorem dX8_fitsOf_28 : decode cX8_fitsOf 28 = .ok (.istore 5, 2) := by decide +kernel
theorem dX8_fitsOf_30 : decode cX8_fitsOf 30 = .ok (.iload_n 3, 1) := by decide +kernel
theorem dX8_fitsOf_31 : decode cX8_fitsOf 31 = .ok (.iload 5, 2) := by decide +kernel
theorem dX8_fitsOf_33 : decode cX8_fitsOf 33 = .ok (.invokestatic 89, 3) := by decide +kernel
theorem dX8_fitsOf_36 : decode cX8_fitsOf 36 = .ok (.ifCond .eq 17, 3) := by decide +kernel
theorem dX8_fitsOf_39 : decode cX8_fitsOf 39 = .ok (.aload_n 0, 1) := by decide +kernel
theorem dX8_fitsOf_40 : decode cX8_fitsOf 40 = .ok (.iload_n 2, 1) := by decide +kernel
theorem dX8_fitsOf_41 : decode cX8_fitsOf 41 = .ok (.iload 5, 2) := by decide +kernel
theorem dX8_fitsOf_43 : decode cX8_fitsOf 43 = .ok (.invokevirtual 111, 3) := by decide +kernel
theorem dX8_fitsOf_46 : decode cX8_fitsOf 46 = .ok (.ifCond .eq 7, 3) := by decide +kernel
theorem dX8_fitsOf_49 : decode cX8_fitsOf 49 = .ok (.iconst 1, 1) := by decide +kernel
theorem dX8_fitsOf_50 : decode cX8_fitsOf 50 = .ok (.goto 4, 3) := by decide +kernel
theorem dX8_fitsOf_53 : decode cX8_fitsOf 53 = .ok (.iconst 0, 1) := by decide +kernel
theorem dX8_fitsOf_54 : decode cX8_fitsOf 54 = .ok (.iadd, 1) := by decide +kernel
theorem dX8_fitsOf_55 : decode cX8_fitsOf 55 = .ok (.istore_n 3, 1) := by decide +kernel
theorem dX8_fitsOf_56 : decode cX8_fitsOf 56 = .ok (.iinc 4 1, 3) := by decide +kernel
theorem dX8_fitsOf_59 : decode cX8_fitsOf 59 = .ok (.goto (-54), 3) := by decide +kernel
theorem dX8_fitsOf_62 : decode cX8_fitsOf 62 = .ok (.iload_n 3, 1) := by decide +kernel
theorem dX8_fitsOf_63 : decode cX8_fitsOf 63 = .ok (.ireturn, 1) := by decide +kernel
theorem dX8_fits_0 : decode cX8_fits 0 = .ok (.iload_n 1, 1) := by decide +kernel
theorem dX8_fits_1 : decode cX8_fits 1 = .ok (.invokestatic 197, 3) := by decide +kernel
theorem dX8_fits_4 : decode cX8_fits 4 = .ok (.ifCond .eq 12, 3) := by decide +kernel
theorem dX8_fits_7 : decode cX8_fits 7 = .ok (.iload_n 2, 1) := by decide +kernel
theorem dX8_fits_8 : decode cX8_fits 8 = .ok (.iconst 0, 1) := by decide +kernel
theorem dX8_fits_9 : decode cX8_fits 9 = .ok (.iconst 1, 1) := by decide +kernel
theorem dX8_fits_10 : decode cX8_fits 10 = .ok (.invokestatic 81, 3) := by decide +kernel
theorem dX8_fits_13 : decode cX8_fits 13 = .ok (.ifCond .ne 6, 3) := by decide +kernel
theorem dX8_fits_16 : decode cX8_fits 16 = .ok (.ldc 97, 2) := by decide +kernel
theorem dX8_fits_18 : decode cX8_fits 18 = .ok (.ireturn, 1) := by decide +kernel
theorem dX8_fits_19 : decode cX8_fits 19 = .ok (.aload_n 0, 1) := by decide +kernel
theorem dX8_fits_20 : decode cX8_fits 20 = .ok (.getfield 54, 3) := by decide +kernel
theorem dX8_fits_23 : decode cX8_fits 23 = .ok (.iload_n 1, 1) := by decide +kernel
theorem dX8_fits_24 : decode cX8_fits 24 = .ok (.iaload, 1) := by decide +kernel
theorem dX8_fits_25 : decode cX8_fits 25 = .ok (.ifCond .ge 6, 3) := by decide +kernel
theorem dX8_fits_28 : decode cX8_fits 28 = .ok (.ldc 200, 2) := by decide +kernel
theorem dX8_fits_30 : decode cX8_fits 30 = .ok (.ireturn, 1) := by decide +kernel
theorem dX8_fits_31 : decode cX8_fits 31 = .ok (.iconst 0, 1) := by decide +kernel
theorem dX8_fits_32 : decode cX8_fits 32 = .ok (.istore_n 3, 1) := by decide +kernel
theorem dX8_fits_33 : decode cX8_fits 33 = .ok (.iconst 1, 1) := by decide +kernel
theorem dX8_fits_34 : decode cX8_fits 34 = .ok (.istore 4, 2) := by decide +kernel
theorem dX8_fits_36 : decode cX8_fits 36 = .ok (.iload 4, 2) := by decide +kernel
theorem dX8_fits_38 : decode cX8_fits 38 = .ok (.aload_n 0, 1) := by decide +kernel
theorem dX8_fits_39 : decode cX8_fits 39 = .ok (.getfield 9, 3) := by decide +kernel
theorem dX8_fits_42 : decode cX8_fits 42 = .ok (.iconst 1, 1) := by decide +kernel
theorem dX8_fits_43 : decode cX8_fits 43 = .ok (.iaload, 1) := by decide +kernel
theorem dX8_fits_44 : decode cX8_fits 44 = .ok (.if_icmp .ge 32, 3) := by decide +kernel
theorem dX8_fits_47 : decode cX8_fits 47 = .ok (.aload_n 0, 1) := by decide +kernel
theorem dX8_fits_48 : decode cX8_fits 48 = .ok (.iload_n 1, 1) := by decide +kernel
theorem dX8_fits_49 : decode cX8_fits 49 = .ok (.iload 4, 2) := by decide +kernel
theorem dX8_fits_51 : decode cX8_fits 51 = .ok (.invokevirtual 213, 3) := by decide +kernel
theorem dX8_fits_54 : decode cX8_fits 54 = .ok (.aload_n 0, 1) := by decide +kernel
theorem dX8_fits_55 : decode cX8_fits 55 = .ok (.iload_n 1, 1) := by decide +kernel
theorem dX8_fits_56 : decode cX8_fits 56 = .ok (.iload_n 3, 1) := by decide +kernel
theorem dX8_fits_57 : decode cX8_fits 57 = .ok (.invokevirtual 213, 3) := by decide +kernel
theorem dX8_fits_60 : decode cX8_fits 60 = .ok (.if_icmp .le 8, 3) := by decide +kernel
theorem dX8_fits_63 : decode cX8_fits 63 = .ok (.iload 4, 2) := by decide +kernel
theorem dX8_fits_65 : decode cX8_fits 65 = .ok (.goto 4, 3) := by decide +kernel
theorem dX8_fits_68 : decode cX8_fits 68 = .ok (.iload_n 3, 1) := by decide +kernel
theorem dX8_fits_69 : decode cX8_fits 69 = .ok (.istore_n 3, 1) := by decide +kernel
theorem dX8_fits_70 : decode cX8_fits 70 = .ok (.iinc 4 1, 3) := by decide +kernel
theorem dX8_fits_73 : decode cX8_fits 73 = .ok (.goto (-37), 3) := by decide +kernel
theorem dX8_fits_76 : decode cX8_fits 76 = .ok (.aload_n 0, 1) := by decide +kernel
theorem dX8_fits_77 : decode cX8_fits 77 = .ok (.getfield 9, 3) := by decide +kernel
theorem dX8_fits_80 : decode cX8_fits 80 = .ok (.iconst 1, 1) := by decide +kernel
theorem dX8_fits_81 : decode cX8_fits 81 = .ok (.iaload, 1) := by decide +kernel
theorem dX8_fits_82 : decode cX8_fits 82 = .ok (.ifCond .ne 8, 3) := by decide +kernel
theorem dX8_fits_85 : decode cX8_fits 85 = .ok (.ldc 176, 2) := by decide +kernel
theorem dX8_fits_87 : decode cX8_fits 87 = .ok (.goto 17, 3) := by decide +kernel
theorem dX8_fits_90 : decode cX8_fits 90 = .ok (.iload_n 2, 1) := by decide +kernel
theorem dX8_fits_91 : decode cX8_fits 91 = .ok (.ifCond .ne 7, 3) := by decide +kernel
theorem dX8_fits_94 : decode cX8_fits 94 = .ok (.iload_n 3, 1) := by decide +kernel
theorem dX8_fits_95 : decode cX8_fits 95 = .ok (.goto 9, 3) := by decide +kernel
theorem dX8_fits_98 : decode cX8_fits 98 = .ok (.aload_n 0, 1) := by decide +kernel
theorem dX8_fits_99 : decode cX8_fits 99 = .ok (.iload_n 1, 1) := by decide +kernel
theorem dX8_fits_100 : decode cX8_fits 100 = .ok (.iload_n 3, 1) := by decide +kernel
theorem dX8_fits_101 : decode cX8_fits 101 = .ok (.invokevirtual 213, 3) := by decide +kernel
theorem dX8_fits_104 : decode cX8_fits 104 = .ok (.ireturn, 1) := by decide +kernel
theorem dX8_thinks_0 : decode cX8_thinks 0 = .ok (.iconst 0, 1) := by decide +kernel
theorem dX8_thinks_1 : decode cX8_thinks 1 = .ok (.istore_n 1, 1) := by decide +kernel
theorem dX8_thinks_2 : decode cX8_thinks 2 = .ok (.iload_n 1, 1) := by decide +kernel
theorem dX8_thinks_3 : decode cX8_thinks 3 = .ok (.bipush 64, 2) := by decide +kernel
theorem dX8_thinks_5 : decode cX8_thinks 5 = .ok (.if_icmp .ge 21, 3) := by decide +kernel
theorem dX8_thinks_8 : decode cX8_thinks 8 = .ok (.aload_n 0, 1) := by decide +kernel
theorem dX8_thinks_9 : decode cX8_thinks 9 = .ok (.getfield 25, 3) := by decide +kernel
theorem dX8_thinks_12 : decode cX8_thinks 12 = .ok (.iload_n 1, 1) := by decide +kernel
theorem dX8_thinks_13 : decode cX8_thinks 13 = .ok (.aload_n 0, 1) := by decide +kernel
theorem dX8_thinks_14 : decode cX8_thinks 14 = .ok (.getfield 9, 3) := by decide +kernel
theorem dX8_thinks_17 : decode cX8_thinks 17 = .ok (.iload_n 1, 1) := by decide +kernel
theorem dX8_thinks_18 : decode cX8_thinks 18 = .ok (.iaload, 1) := by decide +kernel
theorem dX8_thinks_19 : decode cX8_thinks 19 = .ok (.iastore, 1) := by decide +kernel
theorem dX8_thinks_20 : decode cX8_thinks 20 = .ok (.iinc 1 1, 3) := by decide +kernel
theorem dX8_thinks_23 : decode cX8_thinks 23 = .ok (.goto (-21), 3) := by decide +kernel
theorem dX8_thinks_26 : decode cX8_thinks 26 = .ok (.return_, 1) := by decide +kernel
theorem dX8_putsBack_0 : decode cX8_putsBack 0 = .ok (.iconst 0, 1) := by decide +kernel
theorem dX8_putsBack_1 : decode cX8_putsBack 1 = .ok (.istore_n 1, 1) := by decide +kernel
theorem dX8_putsBack_2 : decode cX8_putsBack 2 = .ok (.iload_n 1, 1) := by decide +kernel
theorem dX8_putsBack_3 : decode cX8_putsBack 3 = .ok (.bipush 64, 2) := by decide +kernel
theorem dX8_putsBack_5 : decode cX8_putsBack 5 = .ok (.if_icmp .ge 21, 3) := by decide +kernel
theorem dX8_putsBack_8 : decode cX8_putsBack 8 = .ok (.aload_n 0, 1) := by decide +kernel
theorem dX8_putsBack_9 : decode cX8_putsBack 9 = .ok (.getfield 9, 3) := by decide +kernel
theorem dX8_putsBack_12 : decode cX8_putsBack 12 = .ok (.iload_n 1, 1) := by decide +kernel
theorem dX8_putsBack_13 : decode cX8_putsBack 13 = .ok (.aload_n 0, 1) := by decide +kernel
theorem dX8_putsBack_14 : decode cX8_putsBack 14 = .ok (.getfield 25, 3) := by decide +kernel
theorem dX8_putsBack_17 : decode cX8_putsBack 17 = .ok (.iload_n 1, 1) := by decide +kernel
theorem dX8_putsBack_18 : decode cX8_putsBack 18 = .ok (.iaload, 1) := by decide +kernel
theorem dX8_putsBack_19 : decode cX8_putsBack 19 = .ok (.iastore, 1) := by decide +kernel
theorem dX8_putsBack_20 : decode cX8_putsBack 20 = .ok (.iinc 1 1, 3) := by decide +kernel
theorem dX8_putsBack_23 : decode cX8_putsBack 23 = .ok (.goto (-21), 3) := by decide +kernel
theorem dX8_putsBack_26 : decode cX8_putsBack 26 = .ok (.return_, 1) := by decide +kernel
theorem dX8_behind_0 : decode cX8_behind 0 = .ok (.iload_n 1, 1) := by decide +kernel
theorem dX8_behind_1 : decode cX8_behind 1 = .ok (.iconst 0, 1) := by decide +kernel
theorem dX8_behind_2 : decode cX8_behind 2 = .ok (.bipush 100, 2) := by decide +kernel
theorem dX8_behind_4 : decode cX8_behind 4 = .ok (.invokestatic 81, 3) := by decide +kernel
theorem dX8_behind_7 : decode cX8_behind 7 = .ok (.ifCond .eq 22, 3) := by decide +kernel
theorem dX8_behind_10 : decode cX8_behind 10 = .ok (.iload_n 2, 1) := by decide +kernel
theorem dX8_behind_11 : decode cX8_behind 11 = .ok (.ifCond .lt 18, 3) := by decide +kernel
theorem dX8_behind_14 : decode cX8_behind 14 = .ok (.iload_n 2, 1) := by decide +kernel
theorem dX8_behind_15 : decode cX8_behind 15 = .ok (.iconst 2, 1) := by decide +kernel
theorem dX8_behind_16 : decode cX8_behind 16 = .ok (.if_icmp .le 16, 3) := by decide +kernel
theorem dX8_behind_19 : decode cX8_behind 19 = .ok (.aload_n 0, 1) := by decide +kernel
theorem dX8_behind_20 : decode cX8_behind 20 = .ok (.iload_n 2, 1) := by decide +kernel
theorem dX8_behind_21 : decode cX8_behind 21 = .ok (.iconst 3, 1) := by decide +kernel
theorem dX8_behind_22 : decode cX8_behind 22 = .ok (.isub, 1) := by decide +kernel
theorem dX8_behind_23 : decode cX8_behind 23 = .ok (.invokevirtual 121, 3) := by decide +kernel
theorem dX8_behind_26 : decode cX8_behind 26 = .ok (.ifCond .ne 6, 3) := by decide +kernel
theorem dX8_behind_29 : decode cX8_behind 29 = .ok (.ldc 97, 2) := by decide +kernel
theorem dX8_behind_31 : decode cX8_behind 31 = .ok (.ireturn, 1) := by decide +kernel
theorem dX8_behind_32 : decode cX8_behind 32 = .ok (.aload_n 0, 1) := by decide +kernel
theorem dX8_behind_33 : decode cX8_behind 33 = .ok (.invokevirtual 216, 3) := by decide +kernel
theorem dX8_behind_36 : decode cX8_behind 36 = .ok (.aload_n 0, 1) := by decide +kernel
theorem dX8_behind_37 : decode cX8_behind 37 = .ok (.iload_n 1, 1) := by decide +kernel
theorem dX8_behind_38 : decode cX8_behind 38 = .ok (.invokevirtual 168, 3) := by decide +kernel
theorem dX8_behind_41 : decode cX8_behind 41 = .ok (.iload_n 2, 1) := by decide +kernel
theorem dX8_behind_42 : decode cX8_behind 42 = .ok (.ifCond .ne 13, 3) := by decide +kernel
theorem dX8_behind_45 : decode cX8_behind 45 = .ok (.aload_n 0, 1) := by decide +kernel
theorem dX8_behind_46 : decode cX8_behind 46 = .ok (.getfield 9, 3) := by decide +kernel
theorem dX8_behind_49 : decode cX8_behind 49 = .ok (.bipush 10, 2) := by decide +kernel
theorem dX8_behind_51 : decode cX8_behind 51 = .ok (.iaload, 1) := by decide +kernel
theorem dX8_behind_52 : decode cX8_behind 52 = .ok (.goto 41, 3) := by decide +kernel
theorem dX8_behind_55 : decode cX8_behind 55 = .ok (.iload_n 2, 1) := by decide +kernel
theorem dX8_behind_56 : decode cX8_behind 56 = .ok (.iconst 1, 1) := by decide +kernel
theorem dX8_behind_57 : decode cX8_behind 57 = .ok (.if_icmp .ne 13, 3) := by decide +kernel
theorem dX8_behind_60 : decode cX8_behind 60 = .ok (.aload_n 0, 1) := by decide +kernel
theorem dX8_behind_61 : decode cX8_behind 61 = .ok (.getfield 9, 3) := by decide +kernel
theorem dX8_behind_64 : decode cX8_behind 64 = .ok (.bipush 9, 2) := by decide +kernel
theorem dX8_behind_66 : decode cX8_behind 66 = .ok (.iaload, 1) := by decide +kernel
theorem dX8_behind_67 : decode cX8_behind 67 = .ok (.goto 26, 3) := by decide +kernel
theorem dX8_behind_70 : decode cX8_behind 70 = .ok (.iload_n 2, 1) := by decide +kernel
theorem dX8_behind_71 : decode cX8_behind 71 = .ok (.iconst 2, 1) := by decide +kernel
theorem dX8_behind_72 : decode cX8_behind 72 = .ok (.if_icmp .ne 13, 3) := by decide +kernel
theorem dX8_behind_75 : decode cX8_behind 75 = .ok (.aload_n 0, 1) := by decide +kernel
theorem dX8_behind_76 : decode cX8_behind 76 = .ok (.invokevirtual 177, 3) := by decide +kernel
theorem dX8_behind_79 : decode cX8_behind 79 = .ok (.invokestatic 180, 3) := by decide +kernel
theorem dX8_behind_82 : decode cX8_behind 82 = .ok (.goto 11, 3) := by decide +kernel
theorem dX8_behind_85 : decode cX8_behind 85 = .ok (.aload_n 0, 1) := by decide +kernel
theorem dX8_behind_86 : decode cX8_behind 86 = .ok (.iload_n 2, 1) := by decide +kernel
theorem dX8_behind_87 : decode cX8_behind 87 = .ok (.iconst 3, 1) := by decide +kernel
theorem dX8_behind_88 : decode cX8_behind 88 = .ok (.isub, 1) := by decide +kernel
theorem dX8_behind_89 : decode cX8_behind 89 = .ok (.iconst 4, 1) := by decide +kernel
theorem dX8_behind_90 : decode cX8_behind 90 = .ok (.invokevirtual 103, 3) := by decide +kernel
theorem dX8_behind_93 : decode cX8_behind 93 = .ok (.istore_n 3, 1) := by decide +kernel
theorem dX8_behind_94 : decode cX8_behind 94 = .ok (.aload_n 0, 1) := by decide +kernel
theorem dX8_behind_95 : decode cX8_behind 95 = .ok (.invokevirtual 219, 3) := by decide +kernel
theorem dX8_behind_98 : decode cX8_behind 98 = .ok (.iload_n 3, 1) := by decide +kernel
theorem dX8_behind_99 : decode cX8_behind 99 = .ok (.ireturn, 1) := by decide +kernel
theorem dX8_when_0 : decode cX8_when 0 = .ok (.aload_n 0, 1) := by decide +kernel
theorem dX8_when_1 : decode cX8_when 1 = .ok (.invokevirtual 216, 3) := by decide +kernel
theorem dX8_when_4 : decode cX8_when 4 = .ok (.iconst 0, 1) := by decide +kernel
theorem dX8_when_5 : decode cX8_when 5 = .ok (.istore_n 1, 1) := by decide +kernel
theorem dX8_when_6 : decode cX8_when 6 = .ok (.iload_n 1, 1) := by decide +kernel
theorem dX8_when_7 : decode cX8_when 7 = .ok (.bipush 100, 2) := by decide +kernel
theorem dX8_when_9 : decode cX8_when 9 = .ok (.if_icmp .gt 20, 3) := by decide +kernel
theorem dX8_when_12 : decode cX8_when 12 = .ok (.aload_n 0, 1) := by decide +kernel
theorem dX8_when_13 : decode cX8_when 13 = .ok (.invokevirtual 183, 3) := by decide +kernel
theorem dX8_when_16 : decode cX8_when 16 = .ok (.ifCond .ne 13, 3) := by decide +kernel
theorem dX8_when_19 : decode cX8_when 19 = .ok (.aload_n 0, 1) := by decide +kernel
theorem dX8_when_20 : decode cX8_when 20 = .ok (.invokevirtual 165, 3) := by decide +kernel
theorem dX8_when_23 : decode cX8_when 23 = .ok (.iinc 1 1, 3) := by decide +kernel
theorem dX8_when_26 : decode cX8_when 26 = .ok (.goto (-20), 3) := by decide +kernel
theorem dX8_when_29 : decode cX8_when 29 = .ok (.aload_n 0, 1) := by decide +kernel
theorem dX8_when_30 : decode cX8_when 30 = .ok (.invokevirtual 219, 3) := by decide +kernel
theorem dX8_when_33 : decode cX8_when 33 = .ok (.iload_n 1, 1) := by decide +kernel
theorem dX8_when_34 : decode cX8_when 34 = .ok (.bipush 100, 2) := by decide +kernel
theorem dX8_when_36 : decode cX8_when 36 = .ok (.if_icmp .le 8, 3) := by decide +kernel
theorem dX8_when_39 : decode cX8_when 39 = .ok (.ldc 176, 2) := by decide +kernel
theorem dX8_when_41 : decode cX8_when 41 = .ok (.goto 4, 3) := by decide +kernel
theorem dX8_when_44 : decode cX8_when 44 = .ok (.iload_n 1, 1) := by decide +kernel
theorem dX8_when_45 : decode cX8_when 45 = .ok (.ireturn, 1) := by decide +kernel
theorem dX8_slipped_0 : decode cX8_slipped 0 = .ok (.iload_n 1, 1) := by decide +kernel
theorem dX8_slipped_1 : decode cX8_slipped 1 = .ok (.iconst 1, 1) := by decide +kernel
theorem dX8_slipped_2 : decode cX8_slipped 2 = .ok (.bipush 30, 2) := by decide +kernel
theorem dX8_slipped_4 : decode cX8_slipped 4 = .ok (.invokestatic 81, 3) := by decide +kernel
theorem dX8_slipped_7 : decode cX8_slipped 7 = .ok (.ifCond .eq 12, 3) := by decide +kernel
theorem dX8_slipped_10 : decode cX8_slipped 10 = .ok (.iload_n 2, 1) := by decide +kernel
theorem dX8_slipped_11 : decode cX8_slipped 11 = .ok (.iconst 0, 1) := by decide +kernel
theorem dX8_slipped_12 : decode cX8_slipped 12 = .ok (.iconst 1, 1) := by decide +kernel
theorem dX8_slipped_13 : decode cX8_slipped 13 = .ok (.invokestatic 81, 3) := by decide +kernel
theorem dX8_slipped_16 : decode cX8_slipped 16 = .ok (.ifCond .ne 6, 3) := by decide +kernel
theorem dX8_slipped_19 : decode cX8_slipped 19 = .ok (.ldc 97, 2) := by decide +kernel
theorem dX8_slipped_21 : decode cX8_slipped 21 = .ok (.ireturn, 1) := by decide +kernel
theorem dX8_slipped_22 : decode cX8_slipped 22 = .ok (.aload_n 0, 1) := by decide +kernel
theorem dX8_slipped_23 : decode cX8_slipped 23 = .ok (.getfield 9, 3) := by decide +kernel
theorem dX8_slipped_26 : decode cX8_slipped 26 = .ok (.bipush 12, 2) := by decide +kernel
theorem dX8_slipped_28 : decode cX8_slipped 28 = .ok (.iaload, 1) := by decide +kernel
theorem dX8_slipped_29 : decode cX8_slipped 29 = .ok (.ifCond .ge 6, 3) := by decide +kernel
theorem dX8_slipped_32 : decode cX8_slipped 32 = .ok (.ldc 154, 2) := by decide +kernel
theorem dX8_slipped_34 : decode cX8_slipped 34 = .ok (.ireturn, 1) := by decide +kernel
theorem dX8_slipped_35 : decode cX8_slipped 35 = .ok (.aload_n 0, 1) := by decide +kernel
theorem dX8_slipped_36 : decode cX8_slipped 36 = .ok (.invokevirtual 216, 3) := by decide +kernel
theorem dX8_slipped_39 : decode cX8_slipped 39 = .ok (.iconst 0, 1) := by decide +kernel
theorem dX8_slipped_40 : decode cX8_slipped 40 = .ok (.istore_n 3, 1) := by decide +kernel
theorem dX8_slipped_41 : decode cX8_slipped 41 = .ok (.iconst (-1), 1) := by decide +kernel
theorem dX8_slipped_42 : decode cX8_slipped 42 = .ok (.istore 4, 2) := by decide +kernel
theorem dX8_slipped_44 : decode cX8_slipped 44 = .ok (.iconst 0, 1) := by decide +kernel
theorem dX8_slipped_45 : decode cX8_slipped 45 = .ok (.istore 5, 2) := by decide +kernel
theorem dX8_slipped_47 : decode cX8_slipped 47 = .ok (.iload 5, 2) := by decide +kernel
theorem dX8_slipped_49 : decode cX8_slipped 49 = .ok (.bipush 50, 2) := by decide +kernel
theorem dX8_slipped_51 : decode cX8_slipped 51 = .ok (.if_icmp .ge 83, 3) := by decide +kernel
theorem dX8_slipped_54 : decode cX8_slipped 54 = .ok (.aload_n 0, 1) := by decide +kernel
theorem dX8_slipped_55 : decode cX8_slipped 55 = .ok (.getfield 9, 3) := by decide +kernel
theorem dX8_slipped_58 : decode cX8_slipped 58 = .ok (.iconst 3, 1) := by decide +kernel
theorem dX8_slipped_59 : decode cX8_slipped 59 = .ok (.iload 5, 2) := by decide +kernel
theorem dX8_slipped_61 : decode cX8_slipped 61 = .ok (.iastore, 1) := by decide +kernel
theorem dX8_slipped_62 : decode cX8_slipped 62 = .ok (.aload_n 0, 1) := by decide +kernel
theorem dX8_slipped_63 : decode cX8_slipped 63 = .ok (.iload_n 1, 1) := by decide +kernel
theorem dX8_slipped_64 : decode cX8_slipped 64 = .ok (.invokevirtual 168, 3) := by decide +kernel
theorem dX8_slipped_67 : decode cX8_slipped 67 = .ok (.ldc2_w 174, 3) := by decide +kernel
theorem dX8_slipped_70 : decode cX8_slipped 70 = .ok (.aload_n 0, 1) := by decide +kernel
theorem dX8_slipped_71 : decode cX8_slipped 71 = .ok (.aload_n 0, 1) := by decide +kernel
theorem dX8_slipped_72 : decode cX8_slipped 72 = .ok (.getfield 9, 3) := by decide +kernel
theorem dX8_slipped_75 : decode cX8_slipped 75 = .ok (.bipush 12, 2) := by decide +kernel
theorem dX8_slipped_77 : decode cX8_slipped 77 = .ok (.iaload, 1) := by decide +kernel
theorem dX8_slipped_78 : decode cX8_slipped 78 = .ok (.iconst 4, 1) := by decide +kernel
theorem dX8_slipped_79 : decode cX8_slipped 79 = .ok (.invokevirtual 103, 3) := by decide +kernel
theorem dX8_slipped_82 : decode cX8_slipped 82 = .ok (.i2l, 1) := by decide +kernel
theorem dX8_slipped_83 : decode cX8_slipped 83 = .ok (.lmul, 1) := by decide +kernel
theorem dX8_slipped_84 : decode cX8_slipped 84 = .ok (.aload_n 0, 1) := by decide +kernel
theorem dX8_slipped_85 : decode cX8_slipped 85 = .ok (.iconst 4, 1) := by decide +kernel
theorem dX8_slipped_86 : decode cX8_slipped 86 = .ok (.invokevirtual 151, 3) := by decide +kernel
theorem dX8_slipped_89 : decode cX8_slipped 89 = .ok (.i2l, 1) := by decide +kernel
theorem dX8_slipped_90 : decode cX8_slipped 90 = .ok (.ldiv, 1) := by decide +kernel
theorem dX8_slipped_91 : decode cX8_slipped 91 = .ok (.l2i, 1) := by decide +kernel
theorem dX8_slipped_92 : decode cX8_slipped 92 = .ok (.istore 6, 2) := by decide +kernel
theorem dX8_slipped_94 : decode cX8_slipped 94 = .ok (.aload_n 0, 1) := by decide +kernel
theorem dX8_slipped_95 : decode cX8_slipped 95 = .ok (.invokevirtual 219, 3) := by decide +kernel
theorem dX8_slipped_98 : decode cX8_slipped 98 = .ok (.iload 6, 2) := by decide +kernel
theorem dX8_slipped_100 : decode cX8_slipped 100 = .ok (.iload 4, 2) := by decide +kernel
theorem dX8_slipped_102 : decode cX8_slipped 102 = .ok (.if_icmp .le 8, 3) := by decide +kernel
theorem dX8_slipped_105 : decode cX8_slipped 105 = .ok (.iload 5, 2) := by decide +kernel
theorem dX8_slipped_107 : decode cX8_slipped 107 = .ok (.goto 4, 3) := by decide +kernel
theorem dX8_slipped_110 : decode cX8_slipped 110 = .ok (.iload_n 3, 1) := by decide +kernel
theorem dX8_slipped_111 : decode cX8_slipped 111 = .ok (.istore_n 3, 1) := by decide +kernel
theorem dX8_slipped_112 : decode cX8_slipped 112 = .ok (.iload 6, 2) := by decide +kernel
theorem dX8_slipped_114 : decode cX8_slipped 114 = .ok (.iload 4, 2) := by decide +kernel
theorem dX8_slipped_116 : decode cX8_slipped 116 = .ok (.if_icmp .le 8, 3) := by decide +kernel
theorem dX8_slipped_119 : decode cX8_slipped 119 = .ok (.iload 6, 2) := by decide +kernel
theorem dX8_slipped_121 : decode cX8_slipped 121 = .ok (.goto 5, 3) := by decide +kernel
theorem dX8_slipped_124 : decode cX8_slipped 124 = .ok (.iload 4, 2) := by decide +kernel
theorem dX8_slipped_126 : decode cX8_slipped 126 = .ok (.istore 4, 2) := by decide +kernel
theorem dX8_slipped_128 : decode cX8_slipped 128 = .ok (.iinc 5 1, 3) := by decide +kernel
theorem dX8_slipped_131 : decode cX8_slipped 131 = .ok (.goto (-84), 3) := by decide +kernel
theorem dX8_slipped_134 : decode cX8_slipped 134 = .ok (.iload_n 2, 1) := by decide +kernel
theorem dX8_slipped_135 : decode cX8_slipped 135 = .ok (.ifCond .ne 7, 3) := by decide +kernel
theorem dX8_slipped_138 : decode cX8_slipped 138 = .ok (.iload_n 3, 1) := by decide +kernel
theorem dX8_slipped_139 : decode cX8_slipped 139 = .ok (.goto 5, 3) := by decide +kernel
theorem dX8_slipped_142 : decode cX8_slipped 142 = .ok (.iload 4, 2) := by decide +kernel
theorem dX8_slipped_144 : decode cX8_slipped 144 = .ok (.ireturn, 1) := by decide +kernel
theorem dX8_fee_0 : decode cX8_fee 0 = .ok (.aload_n 0, 1) := by decide +kernel
theorem dX8_fee_1 : decode cX8_fee 1 = .ok (.iconst 1, 1) := by decide +kernel
theorem dX8_fee_2 : decode cX8_fee 2 = .ok (.invokevirtual 114, 3) := by decide +kernel
theorem dX8_fee_5 : decode cX8_fee 5 = .ok (.istore_n 1, 1) := by decide +kernel
theorem dX8_fee_6 : decode cX8_fee 6 = .ok (.aload_n 0, 1) := by decide +kernel
theorem dX8_fee_7 : decode cX8_fee 7 = .ok (.getfield 51, 3) := by decide +kernel
theorem dX8_fee_10 : decode cX8_fee 10 = .ok (.iconst 0, 1) := by decide +kernel
theorem dX8_fee_11 : decode cX8_fee 11 = .ok (.aload_n 0, 1) := by decide +kernel
theorem dX8_fee_12 : decode cX8_fee 12 = .ok (.getfield 9, 3) := by decide +kernel
theorem dX8_fee_15 : decode cX8_fee 15 = .ok (.iconst 5, 1) := by decide +kernel
theorem dX8_fee_16 : decode cX8_fee 16 = .ok (.iaload, 1) := by decide +kernel
theorem dX8_fee_17 : decode cX8_fee 17 = .ok (.iastore, 1) := by decide +kernel
theorem dX8_fee_18 : decode cX8_fee 18 = .ok (.aload_n 0, 1) := by decide +kernel
theorem dX8_fee_19 : decode cX8_fee 19 = .ok (.getfield 51, 3) := by decide +kernel
theorem dX8_fee_22 : decode cX8_fee 22 = .ok (.iconst 1, 1) := by decide +kernel
theorem dX8_fee_23 : decode cX8_fee 23 = .ok (.aload_n 0, 1) := by decide +kernel
theorem dX8_fee_24 : decode cX8_fee 24 = .ok (.getfield 9, 3) := by decide +kernel
theorem dX8_fee_27 : decode cX8_fee 27 = .ok (.bipush 8, 2) := by decide +kernel
theorem dX8_fee_29 : decode cX8_fee 29 = .ok (.iaload, 1) := by decide +kernel
theorem dX8_fee_30 : decode cX8_fee 30 = .ok (.iastore, 1) := by decide +kernel
theorem dX8_fee_31 : decode cX8_fee 31 = .ok (.iload_n 1, 1) := by decide +kernel
theorem dX8_fee_32 : decode cX8_fee 32 = .ok (.ifCond .ge 12, 3) := by decide +kernel
theorem dX8_fee_35 : decode cX8_fee 35 = .ok (.aload_n 0, 1) := by decide +kernel
theorem dX8_fee_36 : decode cX8_fee 36 = .ok (.getfield 9, 3) := by decide +kernel
theorem dX8_fee_39 : decode cX8_fee 39 = .ok (.iconst 5, 1) := by decide +kernel
theorem dX8_fee_40 : decode cX8_fee 40 = .ok (.iaload, 1) := by decide +kernel
theorem dX8_fee_41 : decode cX8_fee 41 = .ok (.goto 8, 3) := by decide +kernel
theorem dX8_fee_44 : decode cX8_fee 44 = .ok (.aload_n 0, 1) := by decide +kernel
theorem dX8_fee_45 : decode cX8_fee 45 = .ok (.iload_n 1, 1) := by decide +kernel
theorem dX8_fee_46 : decode cX8_fee 46 = .ok (.invokevirtual 118, 3) := by decide +kernel
theorem dX8_fee_49 : decode cX8_fee 49 = .ok (.ireturn, 1) := by decide +kernel
theorem dX8_fine_0 : decode cX8_fine 0 = .ok (.aload_n 0, 1) := by decide +kernel
theorem dX8_fine_1 : decode cX8_fine 1 = .ok (.iload_n 1, 1) := by decide +kernel
theorem dX8_fine_2 : decode cX8_fine 2 = .ok (.invokevirtual 121, 3) := by decide +kernel
theorem dX8_fine_5 : decode cX8_fine 5 = .ok (.ifCond .ne 6, 3) := by decide +kernel
theorem dX8_fine_8 : decode cX8_fine 8 = .ok (.ldc 97, 2) := by decide +kernel
theorem dX8_fine_10 : decode cX8_fine 10 = .ok (.ireturn, 1) := by decide +kernel
theorem dX8_fine_11 : decode cX8_fine 11 = .ok (.aload_n 0, 1) := by decide +kernel
theorem dX8_fine_12 : decode cX8_fine 12 = .ok (.iconst 2, 1) := by decide +kernel
theorem dX8_fine_13 : decode cX8_fine 13 = .ok (.invokevirtual 114, 3) := by decide +kernel
theorem dX8_fine_16 : decode cX8_fine 16 = .ok (.istore_n 2, 1) := by decide +kernel
theorem dX8_fine_17 : decode cX8_fine 17 = .ok (.aload_n 0, 1) := by decide +kernel
theorem dX8_fine_18 : decode cX8_fine 18 = .ok (.getfield 51, 3) := by decide +kernel
theorem dX8_fine_21 : decode cX8_fine 21 = .ok (.iconst 0, 1) := by decide +kernel
theorem dX8_fine_22 : decode cX8_fine 22 = .ok (.aload_n 0, 1) := by decide +kernel
theorem dX8_fine_23 : decode cX8_fine 23 = .ok (.iload_n 1, 1) := by decide +kernel
theorem dX8_fine_24 : decode cX8_fine 24 = .ok (.iconst 4, 1) := by decide +kernel
theorem dX8_fine_25 : decode cX8_fine 25 = .ok (.invokevirtual 103, 3) := by decide +kernel
theorem dX8_fine_28 : decode cX8_fine 28 = .ok (.iastore, 1) := by decide +kernel
theorem dX8_fine_29 : decode cX8_fine 29 = .ok (.aload_n 0, 1) := by decide +kernel
theorem dX8_fine_30 : decode cX8_fine 30 = .ok (.getfield 51, 3) := by decide +kernel
theorem dX8_fine_33 : decode cX8_fine 33 = .ok (.iconst 1, 1) := by decide +kernel
theorem dX8_fine_34 : decode cX8_fine 34 = .ok (.aload_n 0, 1) := by decide +kernel
theorem dX8_fine_35 : decode cX8_fine 35 = .ok (.iload_n 1, 1) := by decide +kernel
theorem dX8_fine_36 : decode cX8_fine 36 = .ok (.iconst 3, 1) := by decide +kernel
theorem dX8_fine_37 : decode cX8_fine 37 = .ok (.invokevirtual 103, 3) := by decide +kernel
theorem dX8_fine_40 : decode cX8_fine 40 = .ok (.iastore, 1) := by decide +kernel
theorem dX8_fine_41 : decode cX8_fine 41 = .ok (.iload_n 2, 1) := by decide +kernel
theorem dX8_fine_42 : decode cX8_fine 42 = .ok (.ifCond .ge 12, 3) := by decide +kernel
theorem dX8_fine_45 : decode cX8_fine 45 = .ok (.aload_n 0, 1) := by decide +kernel
theorem dX8_fine_46 : decode cX8_fine 46 = .ok (.iload_n 1, 1) := by decide +kernel
theorem dX8_fine_47 : decode cX8_fine 47 = .ok (.iconst 4, 1) := by decide +kernel
theorem dX8_fine_48 : decode cX8_fine 48 = .ok (.invokevirtual 103, 3) := by decide +kernel
theorem dX8_fine_51 : decode cX8_fine 51 = .ok (.goto 8, 3) := by decide +kernel
theorem dX8_fine_54 : decode cX8_fine 54 = .ok (.aload_n 0, 1) := by decide +kernel
theorem dX8_fine_55 : decode cX8_fine 55 = .ok (.iload_n 2, 1) := by decide +kernel
theorem dX8_fine_56 : decode cX8_fine 56 = .ok (.invokevirtual 118, 3) := by decide +kernel
theorem dX8_fine_59 : decode cX8_fine 59 = .ok (.ireturn, 1) := by decide +kernel
theorem dX8_feed_0 : decode cX8_feed 0 = .ok (.aload_n 0, 1) := by decide +kernel
theorem dX8_feed_1 : decode cX8_feed 1 = .ok (.getfield 222, 3) := by decide +kernel
theorem dX8_feed_4 : decode cX8_feed 4 = .ok (.bipush 12, 2) := by decide +kernel
theorem dX8_feed_6 : decode cX8_feed 6 = .ok (.iadd, 1) := by decide +kernel
theorem dX8_feed_7 : decode cX8_feed 7 = .ok (.bipush 96, 2) := by decide +kernel
theorem dX8_feed_9 : decode cX8_feed 9 = .ok (.if_icmp .le 6, 3) := by decide +kernel
theorem dX8_feed_12 : decode cX8_feed 12 = .ok (.ldc 98, 2) := by decide +kernel
theorem dX8_feed_14 : decode cX8_feed 14 = .ok (.ireturn, 1) := by decide +kernel
theorem dX8_feed_15 : decode cX8_feed 15 = .ok (.iconst 0, 1) := by decide +kernel
theorem dX8_feed_16 : decode cX8_feed 16 = .ok (.istore 4, 2) := by decide +kernel
theorem dX8_feed_18 : decode cX8_feed 18 = .ok (.iload 4, 2) := by decide +kernel
theorem dX8_feed_20 : decode cX8_feed 20 = .ok (.bipush 12, 2) := by decide +kernel
theorem dX8_feed_22 : decode cX8_feed 22 = .ok (.if_icmp .ge 62, 3) := by decide +kernel
theorem dX8_feed_25 : decode cX8_feed 25 = .ok (.iload 4, 2) := by decide +kernel
theorem dX8_feed_27 : decode cX8_feed 27 = .ok (.iconst 4, 1) := by decide +kernel
theorem dX8_feed_28 : decode cX8_feed 28 = .ok (.if_icmp .ge 7, 3) := by decide +kernel
theorem dX8_feed_31 : decode cX8_feed 31 = .ok (.iload_n 1, 1) := by decide +kernel
theorem dX8_feed_32 : decode cX8_feed 32 = .ok (.goto 15, 3) := by decide +kernel
theorem dX8_feed_35 : decode cX8_feed 35 = .ok (.iload 4, 2) := by decide +kernel
theorem dX8_feed_37 : decode cX8_feed 37 = .ok (.bipush 8, 2) := by decide +kernel
theorem dX8_feed_39 : decode cX8_feed 39 = .ok (.if_icmp .ge 7, 3) := by decide +kernel
theorem dX8_feed_42 : decode cX8_feed 42 = .ok (.iload_n 2, 1) := by decide +kernel
theorem dX8_feed_43 : decode cX8_feed 43 = .ok (.goto 4, 3) := by decide +kernel
theorem dX8_feed_46 : decode cX8_feed 46 = .ok (.iload_n 3, 1) := by decide +kernel
theorem dX8_feed_47 : decode cX8_feed 47 = .ok (.istore 5, 2) := by decide +kernel
theorem dX8_feed_49 : decode cX8_feed 49 = .ok (.aload_n 0, 1) := by decide +kernel
theorem dX8_feed_50 : decode cX8_feed 50 = .ok (.getfield 28, 3) := by decide +kernel
theorem dX8_feed_53 : decode cX8_feed 53 = .ok (.aload_n 0, 1) := by decide +kernel
theorem dX8_feed_54 : decode cX8_feed 54 = .ok (.getfield 222, 3) := by decide +kernel
theorem dX8_feed_57 : decode cX8_feed 57 = .ok (.iload 4, 2) := by decide +kernel
theorem dX8_feed_59 : decode cX8_feed 59 = .ok (.iadd, 1) := by decide +kernel
theorem dX8_feed_60 : decode cX8_feed 60 = .ok (.iload 5, 2) := by decide +kernel
theorem dX8_feed_62 : decode cX8_feed 62 = .ok (.bipush 24, 2) := by decide +kernel
theorem dX8_feed_64 : decode cX8_feed 64 = .ok (.bipush 8, 2) := by decide +kernel
theorem dX8_feed_66 : decode cX8_feed 66 = .ok (.iload 4, 2) := by decide +kernel
theorem dX8_feed_68 : decode cX8_feed 68 = .ok (.iconst 4, 1) := by decide +kernel
theorem dX8_feed_69 : decode cX8_feed 69 = .ok (.irem, 1) := by decide +kernel
theorem dX8_feed_70 : decode cX8_feed 70 = .ok (.imul, 1) := by decide +kernel
theorem dX8_feed_71 : decode cX8_feed 71 = .ok (.isub, 1) := by decide +kernel
theorem dX8_feed_72 : decode cX8_feed 72 = .ok (.ishr, 1) := by decide +kernel
theorem dX8_feed_73 : decode cX8_feed 73 = .ok (.sipush 255, 3) := by decide +kernel
theorem dX8_feed_76 : decode cX8_feed 76 = .ok (.iand, 1) := by decide +kernel
theorem dX8_feed_77 : decode cX8_feed 77 = .ok (.iastore, 1) := by decide +kernel
theorem dX8_feed_78 : decode cX8_feed 78 = .ok (.iinc 4 1, 3) := by decide +kernel
theorem dX8_feed_81 : decode cX8_feed 81 = .ok (.goto (-63), 3) := by decide +kernel
theorem dX8_feed_84 : decode cX8_feed 84 = .ok (.aload_n 0, 1) := by decide +kernel
theorem dX8_feed_85 : decode cX8_feed 85 = .ok (.dup, 1) := by decide +kernel
theorem dX8_feed_86 : decode cX8_feed 86 = .ok (.getfield 222, 3) := by decide +kernel
theorem dX8_feed_89 : decode cX8_feed 89 = .ok (.bipush 12, 2) := by decide +kernel
theorem dX8_feed_91 : decode cX8_feed 91 = .ok (.iadd, 1) := by decide +kernel
theorem dX8_feed_92 : decode cX8_feed 92 = .ok (.putfield 222, 3) := by decide +kernel
theorem dX8_feed_95 : decode cX8_feed 95 = .ok (.aload_n 0, 1) := by decide +kernel
theorem dX8_feed_96 : decode cX8_feed 96 = .ok (.getfield 222, 3) := by decide +kernel
theorem dX8_feed_99 : decode cX8_feed 99 = .ok (.ireturn, 1) := by decide +kernel
theorem dX8_trim_0 : decode cX8_trim 0 = .ok (.iload_n 1, 1) := by decide +kernel
theorem dX8_trim_1 : decode cX8_trim 1 = .ok (.iconst 0, 1) := by decide +kernel
theorem dX8_trim_2 : decode cX8_trim 2 = .ok (.aload_n 0, 1) := by decide +kernel
theorem dX8_trim_3 : decode cX8_trim 3 = .ok (.getfield 222, 3) := by decide +kernel
theorem dX8_trim_6 : decode cX8_trim 6 = .ok (.invokestatic 81, 3) := by decide +kernel
theorem dX8_trim_9 : decode cX8_trim 9 = .ok (.ifCond .ne 6, 3) := by decide +kernel
theorem dX8_trim_12 : decode cX8_trim 12 = .ok (.ldc 97, 2) := by decide +kernel
theorem dX8_trim_14 : decode cX8_trim 14 = .ok (.ireturn, 1) := by decide +kernel
theorem dX8_trim_15 : decode cX8_trim 15 = .ok (.aload_n 0, 1) := by decide +kernel
theorem dX8_trim_16 : decode cX8_trim 16 = .ok (.iload_n 1, 1) := by decide +kernel
theorem dX8_trim_17 : decode cX8_trim 17 = .ok (.putfield 222, 3) := by decide +kernel
theorem dX8_trim_20 : decode cX8_trim 20 = .ok (.iload_n 1, 1) := by decide +kernel
theorem dX8_trim_21 : decode cX8_trim 21 = .ok (.ireturn, 1) := by decide +kernel
theorem dX8_isLetter_0 : decode cX8_isLetter 0 = .ok (.iload_n 1, 1) := by decide +kernel
theorem dX8_isLetter_1 : decode cX8_isLetter 1 = .ok (.aload_n 0, 1) := by decide +kernel
theorem dX8_isLetter_2 : decode cX8_isLetter 2 = .ok (.getfield 222, 3) := by decide +kernel
theorem dX8_isLetter_5 : decode cX8_isLetter 5 = .ok (.if_icmp .ge 29, 3) := by decide +kernel
theorem dX8_isLetter_8 : decode cX8_isLetter 8 = .ok (.aload_n 0, 1) := by decide +kernel
theorem dX8_isLetter_9 : decode cX8_isLetter 9 = .ok (.getfield 28, 3) := by decide +kernel
theorem dX8_isLetter_12 : decode cX8_isLetter 12 = .ok (.iload_n 1, 1) := by decide +kernel
theorem dX8_isLetter_13 : decode cX8_isLetter 13 = .ok (.iaload, 1) := by decide +kernel
theorem dX8_isLetter_14 : decode cX8_isLetter 14 = .ok (.bipush 97, 2) := by decide +kernel
theorem dX8_isLetter_16 : decode cX8_isLetter 16 = .ok (.if_icmp .lt 18, 3) := by decide +kernel
theorem dX8_isLetter_19 : decode cX8_isLetter 19 = .ok (.aload_n 0, 1) := by decide +kernel
theorem dX8_isLetter_20 : decode cX8_isLetter 20 = .ok (.getfield 28, 3) := by decide +kernel
theorem dX8_isLetter_23 : decode cX8_isLetter 23 = .ok (.iload_n 1, 1) := by decide +kernel
theorem dX8_isLetter_24 : decode cX8_isLetter 24 = .ok (.iaload, 1) := by decide +kernel
theorem dX8_isLetter_25 : decode cX8_isLetter 25 = .ok (.bipush 122, 2) := by decide +kernel
theorem dX8_isLetter_27 : decode cX8_isLetter 27 = .ok (.if_icmp .gt 7, 3) := by decide +kernel
theorem dX8_isLetter_30 : decode cX8_isLetter 30 = .ok (.iconst 1, 1) := by decide +kernel
theorem dX8_isLetter_31 : decode cX8_isLetter 31 = .ok (.goto 4, 3) := by decide +kernel
theorem dX8_isLetter_34 : decode cX8_isLetter 34 = .ok (.iconst 0, 1) := by decide +kernel
theorem dX8_isLetter_35 : decode cX8_isLetter 35 = .ok (.ireturn, 1) := by decide +kernel
theorem dX8_isFigure_0 : decode cX8_isFigure 0 = .ok (.iload_n 1, 1) := by decide +kernel
theorem dX8_isFigure_1 : decode cX8_isFigure 1 = .ok (.aload_n 0, 1) := by decide +kernel
theorem dX8_isFigure_2 : decode cX8_isFigure 2 = .ok (.getfield 222, 3) := by decide +kernel
theorem dX8_isFigure_5 : decode cX8_isFigure 5 = .ok (.if_icmp .ge 29, 3) := by decide +kernel
theorem dX8_isFigure_8 : decode cX8_isFigure 8 = .ok (.aload_n 0, 1) := by decide +kernel
theorem dX8_isFigure_9 : decode cX8_isFigure 9 = .ok (.getfield 28, 3) := by decide +kernel
theorem dX8_isFigure_12 : decode cX8_isFigure 12 = .ok (.iload_n 1, 1) := by decide +kernel
theorem dX8_isFigure_13 : decode cX8_isFigure 13 = .ok (.iaload, 1) := by decide +kernel
theorem dX8_isFigure_14 : decode cX8_isFigure 14 = .ok (.bipush 48, 2) := by decide +kernel
theorem dX8_isFigure_16 : decode cX8_isFigure 16 = .ok (.if_icmp .lt 18, 3) := by decide +kernel
theorem dX8_isFigure_19 : decode cX8_isFigure 19 = .ok (.aload_n 0, 1) := by decide +kernel
theorem dX8_isFigure_20 : decode cX8_isFigure 20 = .ok (.getfield 28, 3) := by decide +kernel
theorem dX8_isFigure_23 : decode cX8_isFigure 23 = .ok (.iload_n 1, 1) := by decide +kernel
theorem dX8_isFigure_24 : decode cX8_isFigure 24 = .ok (.iaload, 1) := by decide +kernel
theorem dX8_isFigure_25 : decode cX8_isFigure 25 = .ok (.bipush 57, 2) := by decide +kernel
theorem dX8_isFigure_27 : decode cX8_isFigure 27 = .ok (.if_icmp .gt 7, 3) := by decide +kernel
theorem dX8_isFigure_30 : decode cX8_isFigure 30 = .ok (.iconst 1, 1) := by decide +kernel
theorem dX8_isFigure_31 : decode cX8_isFigure 31 = .ok (.goto 4, 3) := by decide +kernel
theorem dX8_isFigure_34 : decode cX8_isFigure 34 = .ok (.iconst 0, 1) := by decide +kernel
theorem dX8_isFigure_35 : decode cX8_isFigure 35 = .ok (.ireturn, 1) := by decide +kernel
theorem dX8_go_0 : decode cX8_go 0 = .ok (.aload_n 0, 1) := by decide +kernel
theorem dX8_go_1 : decode cX8_go 1 = .ok (.getfield 226, 3) := by decide +kernel
theorem dX8_go_4 : decode cX8_go 4 = .ok (.aload_n 0, 1) := by decide +kernel
theorem dX8_go_5 : decode cX8_go 5 = .ok (.getfield 222, 3) := by decide +kernel
theorem dX8_go_8 : decode cX8_go 8 = .ok (.if_icmp .ge 30, 3) := by decide +kernel
theorem dX8_go_11 : decode cX8_go 11 = .ok (.aload_n 0, 1) := by decide +kernel
theorem dX8_go_12 : decode cX8_go 12 = .ok (.getfield 28, 3) := by decide +kernel
theorem dX8_go_15 : decode cX8_go 15 = .ok (.aload_n 0, 1) := by decide +kernel
theorem dX8_go_16 : decode cX8_go 16 = .ok (.getfield 226, 3) := by decide +kernel
theorem dX8_go_19 : decode cX8_go 19 = .ok (.iaload, 1) := by decide +kernel
theorem dX8_go_20 : decode cX8_go 20 = .ok (.bipush 32, 2) := by decide +kernel
theorem dX8_go_22 : decode cX8_go 22 = .ok (.if_icmp .ne 16, 3) := by decide +kernel
theorem dX8_go_25 : decode cX8_go 25 = .ok (.aload_n 0, 1) := by decide +kernel
theorem dX8_go_26 : decode cX8_go 26 = .ok (.dup, 1) := by decide +kernel
theorem dX8_go_27 : decode cX8_go 27 = .ok (.getfield 226, 3) := by decide +kernel
theorem dX8_go_30 : decode cX8_go 30 = .ok (.iconst 1, 1) := by decide +kernel
theorem dX8_go_31 : decode cX8_go 31 = .ok (.iadd, 1) := by decide +kernel
theorem dX8_go_32 : decode cX8_go 32 = .ok (.putfield 226, 3) := by decide +kernel
theorem dX8_go_35 : decode cX8_go 35 = .ok (.goto (-35), 3) := by decide +kernel
theorem dX8_go_38 : decode cX8_go 38 = .ok (.aload_n 0, 1) := by decide +kernel
theorem dX8_go_39 : decode cX8_go 39 = .ok (.aload_n 0, 1) := by decide +kernel
theorem dX8_go_40 : decode cX8_go 40 = .ok (.getfield 226, 3) := by decide +kernel
theorem dX8_go_43 : decode cX8_go 43 = .ok (.putfield 229, 3) := by decide +kernel
theorem dX8_go_46 : decode cX8_go 46 = .ok (.aload_n 0, 1) := by decide +kernel
theorem dX8_go_47 : decode cX8_go 47 = .ok (.getfield 229, 3) := by decide +kernel
theorem dX8_go_50 : decode cX8_go 50 = .ok (.aload_n 0, 1) := by decide +kernel
theorem dX8_go_51 : decode cX8_go 51 = .ok (.getfield 232, 3) := by decide +kernel
theorem dX8_go_54 : decode cX8_go 54 = .ok (.if_icmp .ne 7, 3) := by decide +kernel
theorem dX8_go_57 : decode cX8_go 57 = .ok (.iconst 1, 1) := by decide +kernel
theorem dX8_go_58 : decode cX8_go 58 = .ok (.goto 4, 3) := by decide +kernel
theorem dX8_go_61 : decode cX8_go 61 = .ok (.iconst 0, 1) := by decide +kernel
theorem dX8_go_62 : decode cX8_go 62 = .ok (.istore_n 1, 1) := by decide +kernel
theorem dX8_go_63 : decode cX8_go 63 = .ok (.aload_n 0, 1) := by decide +kernel
theorem dX8_go_64 : decode cX8_go 64 = .ok (.getfield 229, 3) := by decide +kernel
theorem dX8_go_67 : decode cX8_go 67 = .ok (.aload_n 0, 1) := by decide +kernel
theorem dX8_go_68 : decode cX8_go 68 = .ok (.getfield 222, 3) := by decide +kernel
theorem dX8_go_71 : decode cX8_go 71 = .ok (.if_icmp .ne 11, 3) := by decide +kernel
theorem dX8_go_74 : decode cX8_go 74 = .ok (.aload_n 0, 1) := by decide +kernel
theorem dX8_go_75 : decode cX8_go 75 = .ok (.iconst 0, 1) := by decide +kernel
theorem dX8_go_76 : decode cX8_go 76 = .ok (.putfield 235, 3) := by decide +kernel
theorem dX8_go_79 : decode cX8_go 79 = .ok (.goto 224, 3) := by decide +kernel
theorem dX8_go_82 : decode cX8_go 82 = .ok (.aload_n 0, 1) := by decide +kernel
theorem dX8_go_83 : decode cX8_go 83 = .ok (.aload_n 0, 1) := by decide +kernel
theorem dX8_go_84 : decode cX8_go 84 = .ok (.getfield 229, 3) := by decide +kernel
theorem dX8_go_87 : decode cX8_go 87 = .ok (.invokevirtual 238, 3) := by decide +kernel
theorem dX8_go_90 : decode cX8_go 90 = .ok (.ifCond .eq 64, 3) := by decide +kernel
theorem dX8_go_93 : decode cX8_go 93 = .ok (.aload_n 0, 1) := by decide +kernel
theorem dX8_go_94 : decode cX8_go 94 = .ok (.aload_n 0, 1) := by decide +kernel
theorem dX8_go_95 : decode cX8_go 95 = .ok (.getfield 226, 3) := by decide +kernel
theorem dX8_go_98 : decode cX8_go 98 = .ok (.invokevirtual 238, 3) := by decide +kernel
theorem dX8_go_101 : decode cX8_go 101 = .ok (.ifCond .eq 16, 3) := by decide +kernel
theorem dX8_go_104 : decode cX8_go 104 = .ok (.aload_n 0, 1) := by decide +kernel
theorem dX8_go_105 : decode cX8_go 105 = .ok (.dup, 1) := by decide +kernel
theorem dX8_go_106 : decode cX8_go 106 = .ok (.getfield 226, 3) := by decide +kernel
theorem dX8_go_109 : decode cX8_go 109 = .ok (.iconst 1, 1) := by decide +kernel
theorem dX8_go_110 : decode cX8_go 110 = .ok (.iadd, 1) := by decide +kernel
theorem dX8_go_111 : decode cX8_go 111 = .ok (.putfield 226, 3) := by decide +kernel
theorem dX8_go_114 : decode cX8_go 114 = .ok (.goto (-21), 3) := by decide +kernel
theorem dX8_go_117 : decode cX8_go 117 = .ok (.aload_n 0, 1) := by decide +kernel
theorem dX8_go_118 : decode cX8_go 118 = .ok (.iload_n 1, 1) := by decide +kernel
theorem dX8_go_119 : decode cX8_go 119 = .ok (.ifCond .eq 7, 3) := by decide +kernel
theorem dX8_go_122 : decode cX8_go 122 = .ok (.iconst 4, 1) := by decide +kernel
theorem dX8_go_123 : decode cX8_go 123 = .ok (.goto 4, 3) := by decide +kernel
theorem dX8_go_126 : decode cX8_go 126 = .ok (.iconst 1, 1) := by decide +kernel
theorem dX8_go_127 : decode cX8_go 127 = .ok (.putfield 235, 3) := by decide +kernel
theorem dX8_go_130 : decode cX8_go 130 = .ok (.aload_n 0, 1) := by decide +kernel
theorem dX8_go_131 : decode cX8_go 131 = .ok (.aload_n 0, 1) := by decide +kernel
theorem dX8_go_132 : decode cX8_go 132 = .ok (.getfield 28, 3) := by decide +kernel
theorem dX8_go_135 : decode cX8_go 135 = .ok (.aload_n 0, 1) := by decide +kernel
theorem dX8_go_136 : decode cX8_go 136 = .ok (.getfield 229, 3) := by decide +kernel
theorem dX8_go_139 : decode cX8_go 139 = .ok (.iaload, 1) := by decide +kernel
theorem dX8_go_140 : decode cX8_go 140 = .ok (.putfield 241, 3) := by decide +kernel
theorem dX8_go_143 : decode cX8_go 143 = .ok (.aload_n 0, 1) := by decide +kernel
theorem dX8_go_144 : decode cX8_go 144 = .ok (.aload_n 0, 1) := by decide +kernel
theorem dX8_go_145 : decode cX8_go 145 = .ok (.getfield 226, 3) := by decide +kernel
theorem dX8_go_148 : decode cX8_go 148 = .ok (.putfield 232, 3) := by decide +kernel
theorem dX8_go_151 : decode cX8_go 151 = .ok (.goto 152, 3) := by decide +kernel
theorem dX8_go_154 : decode cX8_go 154 = .ok (.aload_n 0, 1) := by decide +kernel
theorem dX8_go_155 : decode cX8_go 155 = .ok (.aload_n 0, 1) := by decide +kernel
theorem dX8_go_156 : decode cX8_go 156 = .ok (.getfield 229, 3) := by decide +kernel
theorem dX8_go_159 : decode cX8_go 159 = .ok (.invokevirtual 244, 3) := by decide +kernel
theorem dX8_go_162 : decode cX8_go 162 = .ok (.ifCond .eq 113, 3) := by decide +kernel
theorem dX8_go_165 : decode cX8_go 165 = .ok (.aload_n 0, 1) := by decide +kernel
theorem dX8_go_166 : decode cX8_go 166 = .ok (.iconst 0, 1) := by decide +kernel
theorem dX8_go_167 : decode cX8_go 167 = .ok (.putfield 241, 3) := by decide +kernel
theorem dX8_go_170 : decode cX8_go 170 = .ok (.aload_n 0, 1) := by decide +kernel
theorem dX8_go_171 : decode cX8_go 171 = .ok (.aload_n 0, 1) := by decide +kernel
theorem dX8_go_172 : decode cX8_go 172 = .ok (.getfield 226, 3) := by decide +kernel
theorem dX8_go_175 : decode cX8_go 175 = .ok (.invokevirtual 244, 3) := by decide +kernel
theorem dX8_go_178 : decode cX8_go 178 = .ok (.ifCond .eq 60, 3) := by decide +kernel
theorem dX8_go_181 : decode cX8_go 181 = .ok (.aload_n 0, 1) := by decide +kernel
theorem dX8_go_182 : decode cX8_go 182 = .ok (.aload_n 0, 1) := by decide +kernel
theorem dX8_go_183 : decode cX8_go 183 = .ok (.getfield 226, 3) := by decide +kernel
theorem dX8_go_186 : decode cX8_go 186 = .ok (.aload_n 0, 1) := by decide +kernel
theorem dX8_go_187 : decode cX8_go 187 = .ok (.getfield 229, 3) := by decide +kernel
theorem dX8_go_190 : decode cX8_go 190 = .ok (.isub, 1) := by decide +kernel
theorem dX8_go_191 : decode cX8_go 191 = .ok (.iconst 4, 1) := by decide +kernel
theorem dX8_go_192 : decode cX8_go 192 = .ok (.if_icmp .ge 26, 3) := by decide +kernel
theorem dX8_go_195 : decode cX8_go 195 = .ok (.bipush 10, 2) := by decide +kernel
theorem dX8_go_197 : decode cX8_go 197 = .ok (.aload_n 0, 1) := by decide +kernel
theorem dX8_go_198 : decode cX8_go 198 = .ok (.getfield 241, 3) := by decide +kernel
theorem dX8_go_201 : decode cX8_go 201 = .ok (.imul, 1) := by decide +kernel
theorem dX8_go_202 : decode cX8_go 202 = .ok (.aload_n 0, 1) := by decide +kernel
theorem dX8_go_203 : decode cX8_go 203 = .ok (.getfield 28, 3) := by decide +kernel
theorem dX8_go_206 : decode cX8_go 206 = .ok (.aload_n 0, 1) := by decide +kernel
theorem dX8_go_207 : decode cX8_go 207 = .ok (.getfield 226, 3) := by decide +kernel
theorem dX8_go_210 : decode cX8_go 210 = .ok (.iaload, 1) := by decide +kernel
theorem dX8_go_211 : decode cX8_go 211 = .ok (.iadd, 1) := by decide +kernel
theorem dX8_go_212 : decode cX8_go 212 = .ok (.bipush 48, 2) := by decide +kernel
theorem dX8_go_214 : decode cX8_go 214 = .ok (.isub, 1) := by decide +kernel
theorem dX8_go_215 : decode cX8_go 215 = .ok (.goto 7, 3) := by decide +kernel
theorem dX8_go_218 : decode cX8_go 218 = .ok (.aload_n 0, 1) := by decide +kernel
theorem dX8_go_219 : decode cX8_go 219 = .ok (.getfield 241, 3) := by decide +kernel
theorem dX8_go_222 : decode cX8_go 222 = .ok (.putfield 241, 3) := by decide +kernel
theorem dX8_go_225 : decode cX8_go 225 = .ok (.aload_n 0, 1) := by decide +kernel
theorem dX8_go_226 : decode cX8_go 226 = .ok (.dup, 1) := by decide +kernel
theorem dX8_go_227 : decode cX8_go 227 = .ok (.getfield 226, 3) := by decide +kernel
theorem dX8_go_230 : decode cX8_go 230 = .ok (.iconst 1, 1) := by decide +kernel
theorem dX8_go_231 : decode cX8_go 231 = .ok (.iadd, 1) := by decide +kernel
theorem dX8_go_232 : decode cX8_go 232 = .ok (.putfield 226, 3) := by decide +kernel
theorem dX8_go_235 : decode cX8_go 235 = .ok (.goto (-65), 3) := by decide +kernel
theorem dX8_go_238 : decode cX8_go 238 = .ok (.aload_n 0, 1) := by decide +kernel
theorem dX8_go_239 : decode cX8_go 239 = .ok (.iload_n 1, 1) := by decide +kernel
theorem dX8_go_240 : decode cX8_go 240 = .ok (.ifCond .ne 16, 3) := by decide +kernel
theorem dX8_go_243 : decode cX8_go 243 = .ok (.aload_n 0, 1) := by decide +kernel
theorem dX8_go_244 : decode cX8_go 244 = .ok (.getfield 226, 3) := by decide +kernel
theorem dX8_go_247 : decode cX8_go 247 = .ok (.aload_n 0, 1) := by decide +kernel
theorem dX8_go_248 : decode cX8_go 248 = .ok (.getfield 229, 3) := by decide +kernel
theorem dX8_go_251 : decode cX8_go 251 = .ok (.isub, 1) := by decide +kernel
theorem dX8_go_252 : decode cX8_go 252 = .ok (.iconst 4, 1) := by decide +kernel
theorem dX8_go_253 : decode cX8_go 253 = .ok (.if_icmp .le 7, 3) := by decide +kernel
theorem dX8_go_256 : decode cX8_go 256 = .ok (.iconst 4, 1) := by decide +kernel
theorem dX8_go_257 : decode cX8_go 257 = .ok (.goto 4, 3) := by decide +kernel
theorem dX8_go_260 : decode cX8_go 260 = .ok (.iconst 2, 1) := by decide +kernel
theorem dX8_go_261 : decode cX8_go 261 = .ok (.putfield 235, 3) := by decide +kernel
theorem dX8_go_264 : decode cX8_go 264 = .ok (.aload_n 0, 1) := by decide +kernel
theorem dX8_go_265 : decode cX8_go 265 = .ok (.aload_n 0, 1) := by decide +kernel
theorem dX8_go_266 : decode cX8_go 266 = .ok (.getfield 226, 3) := by decide +kernel
theorem dX8_go_269 : decode cX8_go 269 = .ok (.putfield 232, 3) := by decide +kernel
theorem dX8_go_272 : decode cX8_go 272 = .ok (.goto 31, 3) := by decide +kernel
theorem dX8_go_275 : decode cX8_go 275 = .ok (.aload_n 0, 1) := by decide +kernel
theorem dX8_go_276 : decode cX8_go 276 = .ok (.iconst 3, 1) := by decide +kernel
theorem dX8_go_277 : decode cX8_go 277 = .ok (.putfield 235, 3) := by decide +kernel
theorem dX8_go_280 : decode cX8_go 280 = .ok (.aload_n 0, 1) := by decide +kernel
theorem dX8_go_281 : decode cX8_go 281 = .ok (.aload_n 0, 1) := by decide +kernel
theorem dX8_go_282 : decode cX8_go 282 = .ok (.getfield 28, 3) := by decide +kernel
theorem dX8_go_285 : decode cX8_go 285 = .ok (.aload_n 0, 1) := by decide +kernel
theorem dX8_go_286 : decode cX8_go 286 = .ok (.getfield 229, 3) := by decide +kernel
theorem dX8_go_289 : decode cX8_go 289 = .ok (.iaload, 1) := by decide +kernel
theorem dX8_go_290 : decode cX8_go 290 = .ok (.putfield 241, 3) := by decide +kernel
theorem dX8_go_293 : decode cX8_go 293 = .ok (.aload_n 0, 1) := by decide +kernel
theorem dX8_go_294 : decode cX8_go 294 = .ok (.dup, 1) := by decide +kernel
theorem dX8_go_295 : decode cX8_go 295 = .ok (.getfield 226, 3) := by decide +kernel
theorem dX8_go_298 : decode cX8_go 298 = .ok (.iconst 1, 1) := by decide +kernel
theorem dX8_go_299 : decode cX8_go 299 = .ok (.iadd, 1) := by decide +kernel
theorem dX8_go_300 : decode cX8_go 300 = .ok (.putfield 226, 3) := by decide +kernel
theorem dX8_go_303 : decode cX8_go 303 = .ok (.return_, 1) := by decide +kernel
theorem dX8_takesKey_0 : decode cX8_takesKey 0 = .ok (.aload_n 0, 1) := by decide +kernel
theorem dX8_takesKey_1 : decode cX8_takesKey 1 = .ok (.getfield 235, 3) := by decide +kernel
theorem dX8_takesKey_4 : decode cX8_takesKey 4 = .ok (.iconst 1, 1) := by decide +kernel
theorem dX8_takesKey_5 : decode cX8_takesKey 5 = .ok (.if_icmp .eq 5, 3) := by decide +kernel
theorem dX8_takesKey_8 : decode cX8_takesKey 8 = .ok (.iconst 0, 1) := by decide +kernel
theorem dX8_takesKey_9 : decode cX8_takesKey 9 = .ok (.ireturn, 1) := by decide +kernel
theorem dX8_takesKey_10 : decode cX8_takesKey 10 = .ok (.iconst 0, 1) := by decide +kernel
theorem dX8_takesKey_11 : decode cX8_takesKey 11 = .ok (.istore_n 1, 1) := by decide +kernel
theorem dX8_takesKey_12 : decode cX8_takesKey 12 = .ok (.iload_n 1, 1) := by decide +kernel
theorem dX8_takesKey_13 : decode cX8_takesKey 13 = .ok (.iconst 3, 1) := by decide +kernel
theorem dX8_takesKey_14 : decode cX8_takesKey 14 = .ok (.if_icmp .ge 113, 3) := by decide +kernel
theorem dX8_takesKey_17 : decode cX8_takesKey 17 = .ok (.aload_n 0, 1) := by decide +kernel
theorem dX8_takesKey_18 : decode cX8_takesKey 18 = .ok (.getfield 35, 3) := by decide +kernel
theorem dX8_takesKey_21 : decode cX8_takesKey 21 = .ok (.iload_n 1, 1) := by decide +kernel
theorem dX8_takesKey_22 : decode cX8_takesKey 22 = .ok (.iconst 1, 1) := by decide +kernel
theorem dX8_takesKey_23 : decode cX8_takesKey 23 = .ok (.iadd, 1) := by decide +kernel
theorem dX8_takesKey_24 : decode cX8_takesKey 24 = .ok (.iaload, 1) := by decide +kernel
theorem dX8_takesKey_25 : decode cX8_takesKey 25 = .ok (.aload_n 0, 1) := by decide +kernel
theorem dX8_takesKey_26 : decode cX8_takesKey 26 = .ok (.getfield 35, 3) := by decide +kernel
theorem dX8_takesKey_29 : decode cX8_takesKey 29 = .ok (.iload_n 1, 1) := by decide +kernel
theorem dX8_takesKey_30 : decode cX8_takesKey 30 = .ok (.iaload, 1) := by decide +kernel
theorem dX8_takesKey_31 : decode cX8_takesKey 31 = .ok (.isub, 1) := by decide +kernel
theorem dX8_takesKey_32 : decode cX8_takesKey 32 = .ok (.istore_n 2, 1) := by decide +kernel
theorem dX8_takesKey_33 : decode cX8_takesKey 33 = .ok (.iload_n 2, 1) := by decide +kernel
theorem dX8_takesKey_34 : decode cX8_takesKey 34 = .ok (.aload_n 0, 1) := by decide +kernel
theorem dX8_takesKey_35 : decode cX8_takesKey 35 = .ok (.getfield 226, 3) := by decide +kernel
theorem dX8_takesKey_38 : decode cX8_takesKey 38 = .ok (.aload_n 0, 1) := by decide +kernel
theorem dX8_takesKey_39 : decode cX8_takesKey 39 = .ok (.getfield 229, 3) := by decide +kernel
theorem dX8_takesKey_42 : decode cX8_takesKey 42 = .ok (.isub, 1) := by decide +kernel
theorem dX8_takesKey_43 : decode cX8_takesKey 43 = .ok (.if_icmp .ne 7, 3) := by decide +kernel
theorem dX8_takesKey_46 : decode cX8_takesKey 46 = .ok (.iconst 1, 1) := by decide +kernel
theorem dX8_takesKey_47 : decode cX8_takesKey 47 = .ok (.goto 4, 3) := by decide +kernel
theorem dX8_takesKey_50 : decode cX8_takesKey 50 = .ok (.iconst 0, 1) := by decide +kernel
theorem dX8_takesKey_51 : decode cX8_takesKey 51 = .ok (.istore_n 3, 1) := by decide +kernel
theorem dX8_takesKey_52 : decode cX8_takesKey 52 = .ok (.iconst 0, 1) := by decide +kernel
theorem dX8_takesKey_53 : decode cX8_takesKey 53 = .ok (.istore 4, 2) := by decide +kernel
theorem dX8_takesKey_55 : decode cX8_takesKey 55 = .ok (.iload 4, 2) := by decide +kernel
theorem dX8_takesKey_57 : decode cX8_takesKey 57 = .ok (.iload_n 2, 1) := by decide +kernel
theorem dX8_takesKey_58 : decode cX8_takesKey 58 = .ok (.if_icmp .ge 48, 3) := by decide +kernel
theorem dX8_takesKey_61 : decode cX8_takesKey 61 = .ok (.iload_n 3, 1) := by decide +kernel
theorem dX8_takesKey_62 : decode cX8_takesKey 62 = .ok (.ifCond .eq 44, 3) := by decide +kernel
theorem dX8_takesKey_65 : decode cX8_takesKey 65 = .ok (.aload_n 0, 1) := by decide +kernel
theorem dX8_takesKey_66 : decode cX8_takesKey 66 = .ok (.getfield 28, 3) := by decide +kernel
theorem dX8_takesKey_69 : decode cX8_takesKey 69 = .ok (.aload_n 0, 1) := by decide +kernel
theorem dX8_takesKey_70 : decode cX8_takesKey 70 = .ok (.getfield 229, 3) := by decide +kernel
theorem dX8_takesKey_73 : decode cX8_takesKey 73 = .ok (.iload 4, 2) := by decide +kernel
theorem dX8_takesKey_75 : decode cX8_takesKey 75 = .ok (.iadd, 1) := by decide +kernel
theorem dX8_takesKey_76 : decode cX8_takesKey 76 = .ok (.iaload, 1) := by decide +kernel
theorem dX8_takesKey_77 : decode cX8_takesKey 77 = .ok (.aload_n 0, 1) := by decide +kernel
theorem dX8_takesKey_78 : decode cX8_takesKey 78 = .ok (.getfield 31, 3) := by decide +kernel
theorem dX8_takesKey_81 : decode cX8_takesKey 81 = .ok (.aload_n 0, 1) := by decide +kernel
theorem dX8_takesKey_82 : decode cX8_takesKey 82 = .ok (.getfield 35, 3) := by decide +kernel
theorem dX8_takesKey_85 : decode cX8_takesKey 85 = .ok (.iload_n 1, 1) := by decide +kernel
theorem dX8_takesKey_86 : decode cX8_takesKey 86 = .ok (.iaload, 1) := by decide +kernel
theorem dX8_takesKey_87 : decode cX8_takesKey 87 = .ok (.iload 4, 2) := by decide +kernel
theorem dX8_takesKey_89 : decode cX8_takesKey 89 = .ok (.iadd, 1) := by decide +kernel
theorem dX8_takesKey_90 : decode cX8_takesKey 90 = .ok (.caload, 1) := by decide +kernel
theorem dX8_takesKey_91 : decode cX8_takesKey 91 = .ok (.if_icmp .ne 7, 3) := by decide +kernel
theorem dX8_takesKey_94 : decode cX8_takesKey 94 = .ok (.iconst 1, 1) := by decide +kernel
theorem dX8_takesKey_95 : decode cX8_takesKey 95 = .ok (.goto 4, 3) := by decide +kernel
theorem dX8_takesKey_98 : decode cX8_takesKey 98 = .ok (.iconst 0, 1) := by decide +kernel
theorem dX8_takesKey_99 : decode cX8_takesKey 99 = .ok (.istore_n 3, 1) := by decide +kernel
theorem dX8_takesKey_100 : decode cX8_takesKey 100 = .ok (.iinc 4 1, 3) := by decide +kernel
theorem dX8_takesKey_103 : decode cX8_takesKey 103 = .ok (.goto (-48), 3) := by decide +kernel
theorem dX8_takesKey_106 : decode cX8_takesKey 106 = .ok (.iload_n 3, 1) := by decide +kernel
theorem dX8_takesKey_107 : decode cX8_takesKey 107 = .ok (.ifCond .eq 14, 3) := by decide +kernel
theorem dX8_takesKey_110 : decode cX8_takesKey 110 = .ok (.aload_n 0, 1) := by decide +kernel
theorem dX8_takesKey_111 : decode cX8_takesKey 111 = .ok (.iload_n 1, 1) := by decide +kernel
theorem dX8_takesKey_112 : decode cX8_takesKey 112 = .ok (.putfield 247, 3) := by decide +kernel
theorem dX8_takesKey_115 : decode cX8_takesKey 115 = .ok (.aload_n 0, 1) := by decide +kernel
theorem dX8_takesKey_116 : decode cX8_takesKey 116 = .ok (.invokevirtual 250, 3) := by decide +kernel
theorem dX8_takesKey_119 : decode cX8_takesKey 119 = .ok (.iconst 1, 1) := by decide +kernel
theorem dX8_takesKey_120 : decode cX8_takesKey 120 = .ok (.ireturn, 1) := by decide +kernel
theorem dX8_takesKey_121 : decode cX8_takesKey 121 = .ok (.iinc 1 1, 3) := by decide +kernel
theorem dX8_takesKey_124 : decode cX8_takesKey 124 = .ok (.goto (-112), 3) := by decide +kernel
theorem dX8_takesKey_127 : decode cX8_takesKey 127 = .ok (.iconst 0, 1) := by decide +kernel
theorem dX8_takesKey_128 : decode cX8_takesKey 128 = .ok (.ireturn, 1) := by decide +kernel
theorem dX8_nameOf_0 : decode cX8_nameOf 0 = .ok (.aload_n 0, 1) := by decide +kernel
theorem dX8_nameOf_1 : decode cX8_nameOf 1 = .ok (.getfield 247, 3) := by decide +kernel
theorem dX8_nameOf_4 : decode cX8_nameOf 4 = .ok (.lookupswitch 82 #[(0, 28), (1, 60)], 28) := by decide +kernel
theorem dX8_nameOf_32 : decode cX8_nameOf 32 = .ok (.iload_n 1, 1) := by decide +kernel
theorem dX8_nameOf_33 : decode cX8_nameOf 33 = .ok (.bipush 100, 2) := by decide +kernel
theorem dX8_nameOf_35 : decode cX8_nameOf 35 = .ok (.if_icmp .ne 7, 3) := by decide +kernel
theorem dX8_nameOf_38 : decode cX8_nameOf 38 = .ok (.iconst 0, 1) := by decide +kernel
theorem dX8_nameOf_39 : decode cX8_nameOf 39 = .ok (.goto 24, 3) := by decide +kernel
theorem dX8_nameOf_42 : decode cX8_nameOf 42 = .ok (.iload_n 1, 1) := by decide +kernel
theorem dX8_nameOf_43 : decode cX8_nameOf 43 = .ok (.bipush 109, 2) := by decide +kernel
theorem dX8_nameOf_45 : decode cX8_nameOf 45 = .ok (.if_icmp .ne 7, 3) := by decide +kernel
theorem dX8_nameOf_48 : decode cX8_nameOf 48 = .ok (.iconst 1, 1) := by decide +kernel
theorem dX8_nameOf_49 : decode cX8_nameOf 49 = .ok (.goto 14, 3) := by decide +kernel
theorem dX8_nameOf_52 : decode cX8_nameOf 52 = .ok (.iload_n 1, 1) := by decide +kernel
theorem dX8_nameOf_53 : decode cX8_nameOf 53 = .ok (.bipush 108, 2) := by decide +kernel
theorem dX8_nameOf_55 : decode cX8_nameOf 55 = .ok (.if_icmp .ne 7, 3) := by decide +kernel
theorem dX8_nameOf_58 : decode cX8_nameOf 58 = .ok (.iconst 2, 1) := by decide +kernel
theorem dX8_nameOf_59 : decode cX8_nameOf 59 = .ok (.goto 4, 3) := by decide +kernel
theorem dX8_nameOf_62 : decode cX8_nameOf 62 = .ok (.iconst (-1), 1) := by decide +kernel
theorem dX8_nameOf_63 : decode cX8_nameOf 63 = .ok (.ireturn, 1) := by decide +kernel
theorem dX8_nameOf_64 : decode cX8_nameOf 64 = .ok (.iload_n 1, 1) := by decide +kernel
theorem dX8_nameOf_65 : decode cX8_nameOf 65 = .ok (.bipush 99, 2) := by decide +kernel
theorem dX8_nameOf_67 : decode cX8_nameOf 67 = .ok (.if_icmp .ne 7, 3) := by decide +kernel
theorem dX8_nameOf_70 : decode cX8_nameOf 70 = .ok (.iconst 0, 1) := by decide +kernel
theorem dX8_nameOf_71 : decode cX8_nameOf 71 = .ok (.goto 14, 3) := by decide +kernel
theorem dX8_nameOf_74 : decode cX8_nameOf 74 = .ok (.iload_n 1, 1) := by decide +kernel
theorem dX8_nameOf_75 : decode cX8_nameOf 75 = .ok (.bipush 116, 2) := by decide +kernel
theorem dX8_nameOf_77 : decode cX8_nameOf 77 = .ok (.if_icmp .ne 7, 3) := by decide +kernel
theorem dX8_nameOf_80 : decode cX8_nameOf 80 = .ok (.iconst 1, 1) := by decide +kernel
theorem dX8_nameOf_81 : decode cX8_nameOf 81 = .ok (.goto 4, 3) := by decide +kernel
theorem dX8_nameOf_84 : decode cX8_nameOf 84 = .ok (.iconst (-1), 1) := by decide +kernel
theorem dX8_nameOf_85 : decode cX8_nameOf 85 = .ok (.ireturn, 1) := by decide +kernel
theorem dX8_nameOf_86 : decode cX8_nameOf 86 = .ok (.iload_n 1, 1) := by decide +kernel
theorem dX8_nameOf_87 : decode cX8_nameOf 87 = .ok (.bipush 111, 2) := by decide +kernel
theorem dX8_nameOf_89 : decode cX8_nameOf 89 = .ok (.if_icmp .ne 7, 3) := by decide +kernel
theorem dX8_nameOf_92 : decode cX8_nameOf 92 = .ok (.iconst 0, 1) := by decide +kernel
theorem dX8_nameOf_93 : decode cX8_nameOf 93 = .ok (.goto 14, 3) := by decide +kernel
theorem dX8_nameOf_96 : decode cX8_nameOf 96 = .ok (.iload_n 1, 1) := by decide +kernel
theorem dX8_nameOf_97 : decode cX8_nameOf 97 = .ok (.bipush 100, 2) := by decide +kernel
theorem dX8_nameOf_99 : decode cX8_nameOf 99 = .ok (.if_icmp .ne 7, 3) := by decide +kernel
theorem dX8_nameOf_102 : decode cX8_nameOf 102 = .ok (.iconst 1, 1) := by decide +kernel
theorem dX8_nameOf_103 : decode cX8_nameOf 103 = .ok (.goto 4, 3) := by decide +kernel
theorem dX8_nameOf_106 : decode cX8_nameOf 106 = .ok (.iconst (-1), 1) := by decide +kernel
theorem dX8_nameOf_107 : decode cX8_nameOf 107 = .ok (.ireturn, 1) := by decide +kernel
theorem dX8_rank_0 : decode cX8_rank 0 = .ok (.iload_n 0, 1) := by decide +kernel
theorem dX8_rank_1 : decode cX8_rank 1 = .ok (.iconst (-1), 1) := by decide +kernel
theorem dX8_rank_2 : decode cX8_rank 2 = .ok (.if_icmp .ne 7, 3) := by decide +kernel
theorem dX8_rank_5 : decode cX8_rank 5 = .ok (.iconst 1, 1) := by decide +kernel
theorem dX8_rank_6 : decode cX8_rank 6 = .ok (.goto 45, 3) := by decide +kernel
theorem dX8_rank_9 : decode cX8_rank 9 = .ok (.iload_n 0, 1) := by decide +kernel
theorem dX8_rank_10 : decode cX8_rank 10 = .ok (.bipush (-2), 2) := by decide +kernel
theorem dX8_rank_12 : decode cX8_rank 12 = .ok (.if_icmp .ne 7, 3) := by decide +kernel
theorem dX8_rank_15 : decode cX8_rank 15 = .ok (.iconst 2, 1) := by decide +kernel
theorem dX8_rank_16 : decode cX8_rank 16 = .ok (.goto 35, 3) := by decide +kernel
theorem dX8_rank_19 : decode cX8_rank 19 = .ok (.iload_n 0, 1) := by decide +kernel
theorem dX8_rank_20 : decode cX8_rank 20 = .ok (.bipush (-5), 2) := by decide +kernel
theorem dX8_rank_22 : decode cX8_rank 22 = .ok (.if_icmp .lt 7, 3) := by decide +kernel
theorem dX8_rank_25 : decode cX8_rank 25 = .ok (.iconst 3, 1) := by decide +kernel
theorem dX8_rank_26 : decode cX8_rank 26 = .ok (.goto 25, 3) := by decide +kernel
theorem dX8_rank_29 : decode cX8_rank 29 = .ok (.iload_n 0, 1) := by decide +kernel
theorem dX8_rank_30 : decode cX8_rank 30 = .ok (.bipush (-7), 2) := by decide +kernel
theorem dX8_rank_32 : decode cX8_rank 32 = .ok (.if_icmp .lt 7, 3) := by decide +kernel
theorem dX8_rank_35 : decode cX8_rank 35 = .ok (.iconst 4, 1) := by decide +kernel
theorem dX8_rank_36 : decode cX8_rank 36 = .ok (.goto 15, 3) := by decide +kernel
theorem dX8_rank_39 : decode cX8_rank 39 = .ok (.iload_n 0, 1) := by decide +kernel
theorem dX8_rank_40 : decode cX8_rank 40 = .ok (.bipush (-9), 2) := by decide +kernel
theorem dX8_rank_42 : decode cX8_rank 42 = .ok (.if_icmp .lt 7, 3) := by decide +kernel
theorem dX8_rank_45 : decode cX8_rank 45 = .ok (.iconst 5, 1) := by decide +kernel
theorem dX8_rank_46 : decode cX8_rank 46 = .ok (.goto 5, 3) := by decide +kernel
theorem dX8_rank_49 : decode cX8_rank 49 = .ok (.bipush 6, 2) := by decide +kernel
theorem dX8_rank_51 : decode cX8_rank 51 = .ok (.ireturn, 1) := by decide +kernel
theorem dX8_settle_0 : decode cX8_settle 0 = .ok (.aload_n 0, 1) := by decide +kernel
theorem dX8_settle_1 : decode cX8_settle 1 = .ok (.getfield 253, 3) := by decide +kernel
theorem dX8_settle_4 : decode cX8_settle 4 = .ok (.ifCond .le 78, 3) := by decide +kernel
theorem dX8_settle_7 : decode cX8_settle 7 = .ok (.aload_n 0, 1) := by decide +kernel
theorem dX8_settle_8 : decode cX8_settle 8 = .ok (.getfield 41, 3) := by decide +kernel
theorem dX8_settle_11 : decode cX8_settle 11 = .ok (.aload_n 0, 1) := by decide +kernel
theorem dX8_settle_12 : decode cX8_settle 12 = .ok (.getfield 253, 3) := by decide +kernel
theorem dX8_settle_15 : decode cX8_settle 15 = .ok (.iconst 1, 1) := by decide +kernel
theorem dX8_settle_16 : decode cX8_settle 16 = .ok (.isub, 1) := by decide +kernel
theorem dX8_settle_17 : decode cX8_settle 17 = .ok (.iaload, 1) := by decide +kernel
theorem dX8_settle_18 : decode cX8_settle 18 = .ok (.bipush (-11), 2) := by decide +kernel
theorem dX8_settle_20 : decode cX8_settle 20 = .ok (.if_icmp .eq 62, 3) := by decide +kernel
theorem dX8_settle_23 : decode cX8_settle 23 = .ok (.aload_n 0, 1) := by decide +kernel
theorem dX8_settle_24 : decode cX8_settle 24 = .ok (.getfield 41, 3) := by decide +kernel
theorem dX8_settle_27 : decode cX8_settle 27 = .ok (.aload_n 0, 1) := by decide +kernel
theorem dX8_settle_28 : decode cX8_settle 28 = .ok (.getfield 253, 3) := by decide +kernel
theorem dX8_settle_31 : decode cX8_settle 31 = .ok (.iconst 1, 1) := by decide +kernel
theorem dX8_settle_32 : decode cX8_settle 32 = .ok (.isub, 1) := by decide +kernel
theorem dX8_settle_33 : decode cX8_settle 33 = .ok (.iaload, 1) := by decide +kernel
theorem dX8_settle_34 : decode cX8_settle 34 = .ok (.invokestatic 256, 3) := by decide +kernel
theorem dX8_settle_37 : decode cX8_settle 37 = .ok (.iload_n 1, 1) := by decide +kernel
theorem dX8_settle_38 : decode cX8_settle 38 = .ok (.if_icmp .lt 44, 3) := by decide +kernel
theorem dX8_settle_41 : decode cX8_settle 41 = .ok (.aload_n 0, 1) := by decide +kernel
theorem dX8_settle_42 : decode cX8_settle 42 = .ok (.dup, 1) := by decide +kernel
theorem dX8_settle_43 : decode cX8_settle 43 = .ok (.getfield 253, 3) := by decide +kernel
theorem dX8_settle_46 : decode cX8_settle 46 = .ok (.iconst 1, 1) := by decide +kernel
theorem dX8_settle_47 : decode cX8_settle 47 = .ok (.isub, 1) := by decide +kernel
theorem dX8_settle_48 : decode cX8_settle 48 = .ok (.putfield 253, 3) := by decide +kernel
theorem dX8_settle_51 : decode cX8_settle 51 = .ok (.aload_n 0, 1) := by decide +kernel
theorem dX8_settle_52 : decode cX8_settle 52 = .ok (.getfield 38, 3) := by decide +kernel
theorem dX8_settle_55 : decode cX8_settle 55 = .ok (.aload_n 0, 1) := by decide +kernel
theorem dX8_settle_56 : decode cX8_settle 56 = .ok (.getfield 259, 3) := by decide +kernel
theorem dX8_settle_59 : decode cX8_settle 59 = .ok (.aload_n 0, 1) := by decide +kernel
theorem dX8_settle_60 : decode cX8_settle 60 = .ok (.getfield 41, 3) := by decide +kernel
theorem dX8_settle_63 : decode cX8_settle 63 = .ok (.aload_n 0, 1) := by decide +kernel
theorem dX8_settle_64 : decode cX8_settle 64 = .ok (.getfield 253, 3) := by decide +kernel
theorem dX8_settle_67 : decode cX8_settle 67 = .ok (.iaload, 1) := by decide +kernel
theorem dX8_settle_68 : decode cX8_settle 68 = .ok (.iastore, 1) := by decide +kernel
theorem dX8_settle_69 : decode cX8_settle 69 = .ok (.aload_n 0, 1) := by decide +kernel
theorem dX8_settle_70 : decode cX8_settle 70 = .ok (.dup, 1) := by decide +kernel
theorem dX8_settle_71 : decode cX8_settle 71 = .ok (.getfield 259, 3) := by decide +kernel
theorem dX8_settle_74 : decode cX8_settle 74 = .ok (.iconst 1, 1) := by decide +kernel
theorem dX8_settle_75 : decode cX8_settle 75 = .ok (.iadd, 1) := by decide +kernel
theorem dX8_settle_76 : decode cX8_settle 76 = .ok (.putfield 259, 3) := by decide +kernel
theorem dX8_settle_79 : decode cX8_settle 79 = .ok (.goto (-79), 3) := by decide +kernel
theorem dX8_settle_82 : decode cX8_settle 82 = .ok (.return_, 1) := by decide +kernel
theorem dX8_signHere_0 : decode cX8_signHere 0 = .ok (.aload_n 0, 1) := by decide +kernel
theorem dX8_signHere_1 : decode cX8_signHere 1 = .ok (.getfield 235, 3) := by decide +kernel
theorem dX8_signHere_4 : decode cX8_signHere 4 = .ok (.iconst 3, 1) := by decide +kernel
theorem dX8_signHere_5 : decode cX8_signHere 5 = .ok (.if_icmp .eq 5, 3) := by decide +kernel
theorem dX8_signHere_8 : decode cX8_signHere 8 = .ok (.iconst 0, 1) := by decide +kernel
theorem dX8_signHere_9 : decode cX8_signHere 9 = .ok (.ireturn, 1) := by decide +kernel
theorem dX8_signHere_10 : decode cX8_signHere 10 = .ok (.aload_n 0, 1) := by decide +kernel
theorem dX8_signHere_11 : decode cX8_signHere 11 = .ok (.getfield 241, 3) := by decide +kernel
theorem dX8_signHere_14 : decode cX8_signHere 14 = .ok (.lookupswitch 108 #[(38, 84), (42, 102), (43, 96), (45, 99), (47, 105), (60, 87), (61, 90), (62, 93), (124, 82)], 82) := by decide +kernel
theorem dX8_signHere_96 : decode cX8_signHere 96 = .ok (.iconst (-1), 1) := by decide +kernel
theorem dX8_signHere_97 : decode cX8_signHere 97 = .ok (.ireturn, 1) := by decide +kernel
theorem dX8_signHere_98 : decode cX8_signHere 98 = .ok (.bipush (-2), 2) := by decide +kernel
theorem dX8_signHere_100 : decode cX8_signHere 100 = .ok (.ireturn, 1) := by decide +kernel
theorem dX8_signHere_101 : decode cX8_signHere 101 = .ok (.bipush (-3), 2) := by decide +kernel
theorem dX8_signHere_103 : decode cX8_signHere 103 = .ok (.ireturn, 1) := by decide +kernel
theorem dX8_signHere_104 : decode cX8_signHere 104 = .ok (.bipush (-4), 2) := by decide +kernel
theorem dX8_signHere_106 : decode cX8_signHere 106 = .ok (.ireturn, 1) := by decide +kernel
theorem dX8_signHere_107 : decode cX8_signHere 107 = .ok (.bipush (-5), 2) := by decide +kernel
theorem dX8_signHere_109 : decode cX8_signHere 109 = .ok (.ireturn, 1) := by decide +kernel
theorem dX8_signHere_110 : decode cX8_signHere 110 = .ok (.bipush (-6), 2) := by decide +kernel
theorem dX8_signHere_112 : decode cX8_signHere 112 = .ok (.ireturn, 1) := by decide +kernel
theorem dX8_signHere_113 : decode cX8_signHere 113 = .ok (.bipush (-7), 2) := by decide +kernel
theorem dX8_signHere_115 : decode cX8_signHere 115 = .ok (.ireturn, 1) := by decide +kernel
theorem dX8_signHere_116 : decode cX8_signHere 116 = .ok (.bipush (-8), 2) := by decide +kernel
theorem dX8_signHere_118 : decode cX8_signHere 118 = .ok (.ireturn, 1) := by decide +kernel
theorem dX8_signHere_119 : decode cX8_signHere 119 = .ok (.bipush (-9), 2) := by decide +kernel
theorem dX8_signHere_121 : decode cX8_signHere 121 = .ok (.ireturn, 1) := by decide +kernel
theorem dX8_signHere_122 : decode cX8_signHere 122 = .ok (.iconst 0, 1) := by decide +kernel
theorem dX8_signHere_123 : decode cX8_signHere 123 = .ok (.ireturn, 1) := by decide +kernel
theorem dX8_takesPart_0 : decode cX8_takesPart 0 = .ok (.aload_n 0, 1) := by decide +kernel
theorem dX8_takesPart_1 : decode cX8_takesPart 1 = .ok (.getfield 235, 3) := by decide +kernel
theorem dX8_takesPart_4 : decode cX8_takesPart 4 = .ok (.iconst 1, 1) := by decide +kernel
theorem dX8_takesPart_5 : decode cX8_takesPart 5 = .ok (.if_icmp .ne 31, 3) := by decide +kernel
theorem dX8_takesPart_8 : decode cX8_takesPart 8 = .ok (.aload_n 0, 1) := by decide +kernel
theorem dX8_takesPart_9 : decode cX8_takesPart 9 = .ok (.getfield 226, 3) := by decide +kernel
theorem dX8_takesPart_12 : decode cX8_takesPart 12 = .ok (.aload_n 0, 1) := by decide +kernel
theorem dX8_takesPart_13 : decode cX8_takesPart 13 = .ok (.getfield 229, 3) := by decide +kernel
theorem dX8_takesPart_16 : decode cX8_takesPart 16 = .ok (.isub, 1) := by decide +kernel
theorem dX8_takesPart_17 : decode cX8_takesPart 17 = .ok (.iconst 1, 1) := by decide +kernel
theorem dX8_takesPart_18 : decode cX8_takesPart 18 = .ok (.if_icmp .ne 18, 3) := by decide +kernel
theorem dX8_takesPart_21 : decode cX8_takesPart 21 = .ok (.aload_n 0, 1) := by decide +kernel
theorem dX8_takesPart_22 : decode cX8_takesPart 22 = .ok (.aload_n 0, 1) := by decide +kernel
theorem dX8_takesPart_23 : decode cX8_takesPart 23 = .ok (.getfield 241, 3) := by decide +kernel
theorem dX8_takesPart_26 : decode cX8_takesPart 26 = .ok (.invokevirtual 262, 3) := by decide +kernel
theorem dX8_takesPart_29 : decode cX8_takesPart 29 = .ok (.ifCond .lt 7, 3) := by decide +kernel
theorem dX8_takesPart_32 : decode cX8_takesPart 32 = .ok (.iconst 1, 1) := by decide +kernel
theorem dX8_takesPart_33 : decode cX8_takesPart 33 = .ok (.goto 4, 3) := by decide +kernel
theorem dX8_takesPart_36 : decode cX8_takesPart 36 = .ok (.iconst 0, 1) := by decide +kernel
theorem dX8_takesPart_37 : decode cX8_takesPart 37 = .ok (.istore_n 1, 1) := by decide +kernel
theorem dX8_takesPart_38 : decode cX8_takesPart 38 = .ok (.aload_n 0, 1) := by decide +kernel
theorem dX8_takesPart_39 : decode cX8_takesPart 39 = .ok (.getfield 235, 3) := by decide +kernel
theorem dX8_takesPart_42 : decode cX8_takesPart 42 = .ok (.iconst 2, 1) := by decide +kernel
theorem dX8_takesPart_43 : decode cX8_takesPart 43 = .ok (.if_icmp .eq 9, 3) := by decide +kernel
theorem dX8_takesPart_46 : decode cX8_takesPart 46 = .ok (.iload_n 1, 1) := by decide +kernel
theorem dX8_takesPart_47 : decode cX8_takesPart 47 = .ok (.ifCond .ne 5, 3) := by decide +kernel
theorem dX8_takesPart_50 : decode cX8_takesPart 50 = .ok (.iconst 0, 1) := by decide +kernel
theorem dX8_takesPart_51 : decode cX8_takesPart 51 = .ok (.ireturn, 1) := by decide +kernel
theorem dX8_takesPart_52 : decode cX8_takesPart 52 = .ok (.aload_n 0, 1) := by decide +kernel
theorem dX8_takesPart_53 : decode cX8_takesPart 53 = .ok (.getfield 38, 3) := by decide +kernel
theorem dX8_takesPart_56 : decode cX8_takesPart 56 = .ok (.aload_n 0, 1) := by decide +kernel
theorem dX8_takesPart_57 : decode cX8_takesPart 57 = .ok (.getfield 259, 3) := by decide +kernel
theorem dX8_takesPart_60 : decode cX8_takesPart 60 = .ok (.aload_n 0, 1) := by decide +kernel
theorem dX8_takesPart_61 : decode cX8_takesPart 61 = .ok (.getfield 235, 3) := by decide +kernel
theorem dX8_takesPart_64 : decode cX8_takesPart 64 = .ok (.iconst 2, 1) := by decide +kernel
theorem dX8_takesPart_65 : decode cX8_takesPart 65 = .ok (.if_icmp .ne 10, 3) := by decide +kernel
theorem dX8_takesPart_68 : decode cX8_takesPart 68 = .ok (.aload_n 0, 1) := by decide +kernel
theorem dX8_takesPart_69 : decode cX8_takesPart 69 = .ok (.getfield 241, 3) := by decide +kernel
theorem dX8_takesPart_72 : decode cX8_takesPart 72 = .ok (.goto 15, 3) := by decide +kernel
theorem dX8_takesPart_75 : decode cX8_takesPart 75 = .ok (.sipush 10000, 3) := by decide +kernel
theorem dX8_takesPart_78 : decode cX8_takesPart 78 = .ok (.aload_n 0, 1) := by decide +kernel
theorem dX8_takesPart_79 : decode cX8_takesPart 79 = .ok (.aload_n 0, 1) := by decide +kernel
theorem dX8_takesPart_80 : decode cX8_takesPart 80 = .ok (.getfield 241, 3) := by decide +kernel
theorem dX8_takesPart_83 : decode cX8_takesPart 83 = .ok (.invokevirtual 262, 3) := by decide +kernel
theorem dX8_takesPart_86 : decode cX8_takesPart 86 = .ok (.iadd, 1) := by decide +kernel
theorem dX8_takesPart_87 : decode cX8_takesPart 87 = .ok (.iastore, 1) := by decide +kernel
theorem dX8_takesPart_88 : decode cX8_takesPart 88 = .ok (.aload_n 0, 1) := by decide +kernel
theorem dX8_takesPart_89 : decode cX8_takesPart 89 = .ok (.dup, 1) := by decide +kernel
theorem dX8_takesPart_90 : decode cX8_takesPart 90 = .ok (.getfield 259, 3) := by decide +kernel
theorem dX8_takesPart_93 : decode cX8_takesPart 93 = .ok (.iconst 1, 1) := by decide +kernel
theorem dX8_takesPart_94 : decode cX8_takesPart 94 = .ok (.iadd, 1) := by decide +kernel
theorem dX8_takesPart_95 : decode cX8_takesPart 95 = .ok (.putfield 259, 3) := by decide +kernel
theorem dX8_takesPart_98 : decode cX8_takesPart 98 = .ok (.aload_n 0, 1) := by decide +kernel
theorem dX8_takesPart_99 : decode cX8_takesPart 99 = .ok (.dup, 1) := by decide +kernel
theorem dX8_takesPart_100 : decode cX8_takesPart 100 = .ok (.getfield 265, 3) := by decide +kernel
theorem dX8_takesPart_103 : decode cX8_takesPart 103 = .ok (.iconst 1, 1) := by decide +kernel
theorem dX8_takesPart_104 : decode cX8_takesPart 104 = .ok (.iadd, 1) := by decide +kernel
theorem dX8_takesPart_105 : decode cX8_takesPart 105 = .ok (.putfield 265, 3) := by decide +kernel
theorem dX8_takesPart_108 : decode cX8_takesPart 108 = .ok (.aload_n 0, 1) := by decide +kernel
theorem dX8_takesPart_109 : decode cX8_takesPart 109 = .ok (.bipush 6, 2) := by decide +kernel
theorem dX8_takesPart_111 : decode cX8_takesPart 111 = .ok (.invokevirtual 268, 3) := by decide +kernel
theorem dX8_takesPart_114 : decode cX8_takesPart 114 = .ok (.aload_n 0, 1) := by decide +kernel
theorem dX8_takesPart_115 : decode cX8_takesPart 115 = .ok (.invokevirtual 250, 3) := by decide +kernel
theorem dX8_takesPart_118 : decode cX8_takesPart 118 = .ok (.iconst 1, 1) := by decide +kernel
theorem dX8_takesPart_119 : decode cX8_takesPart 119 = .ok (.ireturn, 1) := by decide +kernel
theorem dX8_takesE_0 : decode cX8_takesE 0 = .ok (.iconst 0, 1) := by decide +kernel
theorem dX8_takesE_1 : decode cX8_takesE 1 = .ok (.istore_n 1, 1) := by decide +kernel
theorem dX8_takesE_2 : decode cX8_takesE 2 = .ok (.iconst 0, 1) := by decide +kernel
theorem dX8_takesE_3 : decode cX8_takesE 3 = .ok (.istore_n 2, 1) := by decide +kernel
theorem dX8_takesE_4 : decode cX8_takesE 4 = .ok (.iconst 1, 1) := by decide +kernel
theorem dX8_takesE_5 : decode cX8_takesE 5 = .ok (.istore_n 3, 1) := by decide +kernel
theorem dX8_takesE_6 : decode cX8_takesE 6 = .ok (.aload_n 0, 1) := by decide +kernel
theorem dX8_takesE_7 : decode cX8_takesE 7 = .ok (.iconst 0, 1) := by decide +kernel
theorem dX8_takesE_8 : decode cX8_takesE 8 = .ok (.putfield 259, 3) := by decide +kernel
theorem dX8_takesE_11 : decode cX8_takesE 11 = .ok (.aload_n 0, 1) := by decide +kernel
theorem dX8_takesE_12 : decode cX8_takesE 12 = .ok (.iconst 0, 1) := by decide +kernel
theorem dX8_takesE_13 : decode cX8_takesE 13 = .ok (.putfield 265, 3) := by decide +kernel
theorem dX8_takesE_16 : decode cX8_takesE 16 = .ok (.aload_n 0, 1) := by decide +kernel
theorem dX8_takesE_17 : decode cX8_takesE 17 = .ok (.iconst 0, 1) := by decide +kernel
theorem dX8_takesE_18 : decode cX8_takesE 18 = .ok (.putfield 253, 3) := by decide +kernel
theorem dX8_takesE_21 : decode cX8_takesE 21 = .ok (.aload_n 0, 1) := by decide +kernel
theorem dX8_takesE_22 : decode cX8_takesE 22 = .ok (.getfield 44, 3) := by decide +kernel
theorem dX8_takesE_25 : decode cX8_takesE 25 = .ok (.iconst 0, 1) := by decide +kernel
theorem dX8_takesE_26 : decode cX8_takesE 26 = .ok (.iconst 0, 1) := by decide +kernel
theorem dX8_takesE_27 : decode cX8_takesE 27 = .ok (.bastore, 1) := by decide +kernel
theorem dX8_takesE_28 : decode cX8_takesE 28 = .ok (.iload_n 3, 1) := by decide +kernel
theorem dX8_takesE_29 : decode cX8_takesE 29 = .ok (.ifCond .ne 10, 3) := by decide +kernel
theorem dX8_takesE_32 : decode cX8_takesE 32 = .ok (.aload_n 0, 1) := by decide +kernel
theorem dX8_takesE_33 : decode cX8_takesE 33 = .ok (.getfield 235, 3) := by decide +kernel
theorem dX8_takesE_36 : decode cX8_takesE 36 = .ok (.ifCond .eq 309, 3) := by decide +kernel
theorem dX8_takesE_39 : decode cX8_takesE 39 = .ok (.iload_n 3, 1) := by decide +kernel
theorem dX8_takesE_40 : decode cX8_takesE 40 = .ok (.ifCond .eq 140, 3) := by decide +kernel
theorem dX8_takesE_43 : decode cX8_takesE 43 = .ok (.aload_n 0, 1) := by decide +kernel
theorem dX8_takesE_44 : decode cX8_takesE 44 = .ok (.getfield 235, 3) := by decide +kernel
theorem dX8_takesE_47 : decode cX8_takesE 47 = .ok (.iconst 3, 1) := by decide +kernel
theorem dX8_takesE_48 : decode cX8_takesE 48 = .ok (.if_icmp .ne 49, 3) := by decide +kernel
theorem dX8_takesE_51 : decode cX8_takesE 51 = .ok (.aload_n 0, 1) := by decide +kernel
theorem dX8_takesE_52 : decode cX8_takesE 52 = .ok (.getfield 241, 3) := by decide +kernel
theorem dX8_takesE_55 : decode cX8_takesE 55 = .ok (.bipush 33, 2) := by decide +kernel
theorem dX8_takesE_57 : decode cX8_takesE 57 = .ok (.if_icmp .ne 40, 3) := by decide +kernel
theorem dX8_takesE_60 : decode cX8_takesE 60 = .ok (.iload_n 2, 1) := by decide +kernel
theorem dX8_takesE_61 : decode cX8_takesE 61 = .ok (.bipush 8, 2) := by decide +kernel
theorem dX8_takesE_63 : decode cX8_takesE 63 = .ok (.if_icmp .ge 34, 3) := by decide +kernel
theorem dX8_takesE_66 : decode cX8_takesE 66 = .ok (.aload_n 0, 1) := by decide +kernel
theorem dX8_takesE_67 : decode cX8_takesE 67 = .ok (.getfield 41, 3) := by decide +kernel
theorem dX8_takesE_70 : decode cX8_takesE 70 = .ok (.aload_n 0, 1) := by decide +kernel
theorem dX8_takesE_71 : decode cX8_takesE 71 = .ok (.getfield 253, 3) := by decide +kernel
theorem dX8_takesE_74 : decode cX8_takesE 74 = .ok (.bipush (-10), 2) := by decide +kernel
theorem dX8_takesE_76 : decode cX8_takesE 76 = .ok (.iastore, 1) := by decide +kernel
theorem dX8_takesE_77 : decode cX8_takesE 77 = .ok (.aload_n 0, 1) := by decide +kernel
theorem dX8_takesE_78 : decode cX8_takesE 78 = .ok (.dup, 1) := by decide +kernel
theorem dX8_takesE_79 : decode cX8_takesE 79 = .ok (.getfield 253, 3) := by decide +kernel
theorem dX8_takesE_82 : decode cX8_takesE 82 = .ok (.iconst 1, 1) := by decide +kernel
theorem dX8_takesE_83 : decode cX8_takesE 83 = .ok (.iadd, 1) := by decide +kernel
theorem dX8_takesE_84 : decode cX8_takesE 84 = .ok (.putfield 253, 3) := by decide +kernel
theorem dX8_takesE_87 : decode cX8_takesE 87 = .ok (.iinc 2 1, 3) := by decide +kernel
theorem dX8_takesE_90 : decode cX8_takesE 90 = .ok (.aload_n 0, 1) := by decide +kernel
theorem dX8_takesE_91 : decode cX8_takesE 91 = .ok (.invokevirtual 250, 3) := by decide +kernel
theorem dX8_takesE_94 : decode cX8_takesE 94 = .ok (.goto 78, 3) := by decide +kernel
theorem dX8_takesE_97 : decode cX8_takesE 97 = .ok (.aload_n 0, 1) := by decide +kernel
theorem dX8_takesE_98 : decode cX8_takesE 98 = .ok (.getfield 235, 3) := by decide +kernel
theorem dX8_takesE_101 : decode cX8_takesE 101 = .ok (.iconst 3, 1) := by decide +kernel
theorem dX8_takesE_102 : decode cX8_takesE 102 = .ok (.if_icmp .ne 56, 3) := by decide +kernel
theorem dX8_takesE_105 : decode cX8_takesE 105 = .ok (.aload_n 0, 1) := by decide +kernel
theorem dX8_takesE_106 : decode cX8_takesE 106 = .ok (.getfield 241, 3) := by decide +kernel
theorem dX8_takesE_109 : decode cX8_takesE 109 = .ok (.bipush 40, 2) := by decide +kernel
theorem dX8_takesE_111 : decode cX8_takesE 111 = .ok (.if_icmp .ne 47, 3) := by decide +kernel
theorem dX8_takesE_114 : decode cX8_takesE 114 = .ok (.iload_n 1, 1) := by decide +kernel
theorem dX8_takesE_115 : decode cX8_takesE 115 = .ok (.bipush 8, 2) := by decide +kernel
theorem dX8_takesE_117 : decode cX8_takesE 117 = .ok (.if_icmp .ge 41, 3) := by decide +kernel
theorem dX8_takesE_120 : decode cX8_takesE 120 = .ok (.aload_n 0, 1) := by decide +kernel
theorem dX8_takesE_121 : decode cX8_takesE 121 = .ok (.getfield 41, 3) := by decide +kernel
theorem dX8_takesE_124 : decode cX8_takesE 124 = .ok (.aload_n 0, 1) := by decide +kernel
theorem dX8_takesE_125 : decode cX8_takesE 125 = .ok (.getfield 253, 3) := by decide +kernel
theorem dX8_takesE_128 : decode cX8_takesE 128 = .ok (.bipush (-11), 2) := by decide +kernel
theorem dX8_takesE_130 : decode cX8_takesE 130 = .ok (.iastore, 1) := by decide +kernel
theorem dX8_takesE_131 : decode cX8_takesE 131 = .ok (.aload_n 0, 1) := by decide +kernel
theorem dX8_takesE_132 : decode cX8_takesE 132 = .ok (.dup, 1) := by decide +kernel
theorem dX8_takesE_133 : decode cX8_takesE 133 = .ok (.getfield 253, 3) := by decide +kernel
theorem dX8_takesE_136 : decode cX8_takesE 136 = .ok (.iconst 1, 1) := by decide +kernel
theorem dX8_takesE_137 : decode cX8_takesE 137 = .ok (.iadd, 1) := by decide +kernel
theorem dX8_takesE_138 : decode cX8_takesE 138 = .ok (.putfield 253, 3) := by decide +kernel
theorem dX8_takesE_141 : decode cX8_takesE 141 = .ok (.iinc 1 1, 3) := by decide +kernel
theorem dX8_takesE_144 : decode cX8_takesE 144 = .ok (.aload_n 0, 1) := by decide +kernel
theorem dX8_takesE_145 : decode cX8_takesE 145 = .ok (.getfield 44, 3) := by decide +kernel
theorem dX8_takesE_148 : decode cX8_takesE 148 = .ok (.iload_n 1, 1) := by decide +kernel
theorem dX8_takesE_149 : decode cX8_takesE 149 = .ok (.iconst 0, 1) := by decide +kernel
theorem dX8_takesE_150 : decode cX8_takesE 150 = .ok (.bastore, 1) := by decide +kernel
theorem dX8_takesE_151 : decode cX8_takesE 151 = .ok (.aload_n 0, 1) := by decide +kernel
theorem dX8_takesE_152 : decode cX8_takesE 152 = .ok (.invokevirtual 250, 3) := by decide +kernel
theorem dX8_takesE_155 : decode cX8_takesE 155 = .ok (.goto 17, 3) := by decide +kernel
theorem dX8_takesE_158 : decode cX8_takesE 158 = .ok (.aload_n 0, 1) := by decide +kernel
theorem dX8_takesE_159 : decode cX8_takesE 159 = .ok (.invokevirtual 271, 3) := by decide +kernel
theorem dX8_takesE_162 : decode cX8_takesE 162 = .ok (.ifCond .eq 8, 3) := by decide +kernel
theorem dX8_takesE_165 : decode cX8_takesE 165 = .ok (.iconst 0, 1) := by decide +kernel
theorem dX8_takesE_166 : decode cX8_takesE 166 = .ok (.istore_n 3, 1) := by decide +kernel
theorem dX8_takesE_167 : decode cX8_takesE 167 = .ok (.goto 5, 3) := by decide +kernel
theorem dX8_takesE_170 : decode cX8_takesE 170 = .ok (.iconst 0, 1) := by decide +kernel
theorem dX8_takesE_171 : decode cX8_takesE 171 = .ok (.ireturn, 1) := by decide +kernel
theorem dX8_takesE_172 : decode cX8_takesE 172 = .ok (.aload_n 0, 1) := by decide +kernel
theorem dX8_takesE_173 : decode cX8_takesE 173 = .ok (.invokevirtual 274, 3) := by decide +kernel
theorem dX8_takesE_176 : decode cX8_takesE 176 = .ok (.istore_n 2, 1) := by decide +kernel
theorem dX8_takesE_177 : decode cX8_takesE 177 = .ok (.goto (-149), 3) := by decide +kernel
theorem dX8_takesE_180 : decode cX8_takesE 180 = .ok (.aload_n 0, 1) := by decide +kernel
theorem dX8_takesE_181 : decode cX8_takesE 181 = .ok (.getfield 235, 3) := by decide +kernel
theorem dX8_takesE_184 : decode cX8_takesE 184 = .ok (.iconst 3, 1) := by decide +kernel
theorem dX8_takesE_185 : decode cX8_takesE 185 = .ok (.if_icmp .ne 52, 3) := by decide +kernel
theorem dX8_takesE_188 : decode cX8_takesE 188 = .ok (.aload_n 0, 1) := by decide +kernel
theorem dX8_takesE_189 : decode cX8_takesE 189 = .ok (.getfield 241, 3) := by decide +kernel
theorem dX8_takesE_192 : decode cX8_takesE 192 = .ok (.bipush 41, 2) := by decide +kernel
theorem dX8_takesE_194 : decode cX8_takesE 194 = .ok (.if_icmp .ne 43, 3) := by decide +kernel
theorem dX8_takesE_197 : decode cX8_takesE 197 = .ok (.iload_n 1, 1) := by decide +kernel
theorem dX8_takesE_198 : decode cX8_takesE 198 = .ok (.ifCond .le 39, 3) := by decide +kernel
theorem dX8_takesE_201 : decode cX8_takesE 201 = .ok (.aload_n 0, 1) := by decide +kernel
theorem dX8_takesE_202 : decode cX8_takesE 202 = .ok (.iconst 0, 1) := by decide +kernel
theorem dX8_takesE_203 : decode cX8_takesE 203 = .ok (.invokevirtual 268, 3) := by decide +kernel
theorem dX8_takesE_206 : decode cX8_takesE 206 = .ok (.aload_n 0, 1) := by decide +kernel
theorem dX8_takesE_207 : decode cX8_takesE 207 = .ok (.dup, 1) := by decide +kernel
theorem dX8_takesE_208 : decode cX8_takesE 208 = .ok (.getfield 253, 3) := by decide +kernel
theorem dX8_takesE_211 : decode cX8_takesE 211 = .ok (.iconst 1, 1) := by decide +kernel
theorem dX8_takesE_212 : decode cX8_takesE 212 = .ok (.isub, 1) := by decide +kernel
theorem dX8_takesE_213 : decode cX8_takesE 213 = .ok (.putfield 253, 3) := by decide +kernel
theorem dX8_takesE_216 : decode cX8_takesE 216 = .ok (.iinc 1 (-1), 3) := by decide +kernel
theorem dX8_takesE_219 : decode cX8_takesE 219 = .ok (.aload_n 0, 1) := by decide +kernel
theorem dX8_takesE_220 : decode cX8_takesE 220 = .ok (.bipush 6, 2) := by decide +kernel
theorem dX8_takesE_222 : decode cX8_takesE 222 = .ok (.invokevirtual 268, 3) := by decide +kernel
theorem dX8_takesE_225 : decode cX8_takesE 225 = .ok (.aload_n 0, 1) := by decide +kernel
theorem dX8_takesE_226 : decode cX8_takesE 226 = .ok (.invokevirtual 274, 3) := by decide +kernel
theorem dX8_takesE_229 : decode cX8_takesE 229 = .ok (.istore_n 2, 1) := by decide +kernel
theorem dX8_takesE_230 : decode cX8_takesE 230 = .ok (.aload_n 0, 1) := by decide +kernel
theorem dX8_takesE_231 : decode cX8_takesE 231 = .ok (.invokevirtual 250, 3) := by decide +kernel
theorem dX8_takesE_234 : decode cX8_takesE 234 = .ok (.goto (-206), 3) := by decide +kernel
theorem dX8_takesE_237 : decode cX8_takesE 237 = .ok (.aload_n 0, 1) := by decide +kernel
theorem dX8_takesE_238 : decode cX8_takesE 238 = .ok (.invokevirtual 277, 3) := by decide +kernel
theorem dX8_takesE_241 : decode cX8_takesE 241 = .ok (.istore 4, 2) := by decide +kernel
theorem dX8_takesE_243 : decode cX8_takesE 243 = .ok (.iload 4, 2) := by decide +kernel
theorem dX8_takesE_245 : decode cX8_takesE 245 = .ok (.ifCond .eq 21, 3) := by decide +kernel
theorem dX8_takesE_248 : decode cX8_takesE 248 = .ok (.iload 4, 2) := by decide +kernel
theorem dX8_takesE_250 : decode cX8_takesE 250 = .ok (.invokestatic 256, 3) := by decide +kernel
theorem dX8_takesE_253 : decode cX8_takesE 253 = .ok (.iconst 3, 1) := by decide +kernel
theorem dX8_takesE_254 : decode cX8_takesE 254 = .ok (.if_icmp .ne 14, 3) := by decide +kernel
theorem dX8_takesE_257 : decode cX8_takesE 257 = .ok (.aload_n 0, 1) := by decide +kernel
theorem dX8_takesE_258 : decode cX8_takesE 258 = .ok (.getfield 44, 3) := by decide +kernel
theorem dX8_takesE_261 : decode cX8_takesE 261 = .ok (.iload_n 1, 1) := by decide +kernel
theorem dX8_takesE_262 : decode cX8_takesE 262 = .ok (.baload, 1) := by decide +kernel
theorem dX8_takesE_263 : decode cX8_takesE 263 = .ok (.ifCond .eq 5, 3) := by decide +kernel
theorem dX8_takesE_266 : decode cX8_takesE 266 = .ok (.iconst 0, 1) := by decide +kernel
theorem dX8_takesE_267 : decode cX8_takesE 267 = .ok (.ireturn, 1) := by decide +kernel
theorem dX8_takesE_268 : decode cX8_takesE 268 = .ok (.aload_n 0, 1) := by decide +kernel
theorem dX8_takesE_269 : decode cX8_takesE 269 = .ok (.getfield 44, 3) := by decide +kernel
theorem dX8_takesE_272 : decode cX8_takesE 272 = .ok (.iload_n 1, 1) := by decide +kernel
theorem dX8_takesE_273 : decode cX8_takesE 273 = .ok (.iload 4, 2) := by decide +kernel
theorem dX8_takesE_275 : decode cX8_takesE 275 = .ok (.invokestatic 256, 3) := by decide +kernel
theorem dX8_takesE_278 : decode cX8_takesE 278 = .ok (.iconst 3, 1) := by decide +kernel
theorem dX8_takesE_279 : decode cX8_takesE 279 = .ok (.if_icmp .eq 21, 3) := by decide +kernel
theorem dX8_takesE_282 : decode cX8_takesE 282 = .ok (.iload 4, 2) := by decide +kernel
theorem dX8_takesE_284 : decode cX8_takesE 284 = .ok (.invokestatic 256, 3) := by decide +kernel
theorem dX8_takesE_287 : decode cX8_takesE 287 = .ok (.iconst 3, 1) := by decide +kernel
theorem dX8_takesE_288 : decode cX8_takesE 288 = .ok (.if_icmp .le 16, 3) := by decide +kernel
theorem dX8_takesE_291 : decode cX8_takesE 291 = .ok (.aload_n 0, 1) := by decide +kernel
theorem dX8_takesE_292 : decode cX8_takesE 292 = .ok (.getfield 44, 3) := by decide +kernel
theorem dX8_takesE_295 : decode cX8_takesE 295 = .ok (.iload_n 1, 1) := by decide +kernel
theorem dX8_takesE_296 : decode cX8_takesE 296 = .ok (.baload, 1) := by decide +kernel
theorem dX8_takesE_297 : decode cX8_takesE 297 = .ok (.ifCond .eq 7, 3) := by decide +kernel
theorem dX8_takesE_300 : decode cX8_takesE 300 = .ok (.iconst 1, 1) := by decide +kernel
theorem dX8_takesE_301 : decode cX8_takesE 301 = .ok (.goto 4, 3) := by decide +kernel
theorem dX8_takesE_304 : decode cX8_takesE 304 = .ok (.iconst 0, 1) := by decide +kernel
theorem dX8_takesE_305 : decode cX8_takesE 305 = .ok (.bastore, 1) := by decide +kernel
theorem dX8_takesE_306 : decode cX8_takesE 306 = .ok (.aload_n 0, 1) := by decide +kernel
theorem dX8_takesE_307 : decode cX8_takesE 307 = .ok (.iload 4, 2) := by decide +kernel
theorem dX8_takesE_309 : decode cX8_takesE 309 = .ok (.invokestatic 256, 3) := by decide +kernel
theorem dX8_takesE_312 : decode cX8_takesE 312 = .ok (.invokevirtual 268, 3) := by decide +kernel
theorem dX8_takesE_315 : decode cX8_takesE 315 = .ok (.aload_n 0, 1) := by decide +kernel
theorem dX8_takesE_316 : decode cX8_takesE 316 = .ok (.getfield 41, 3) := by decide +kernel
theorem dX8_takesE_319 : decode cX8_takesE 319 = .ok (.aload_n 0, 1) := by decide +kernel
theorem dX8_takesE_320 : decode cX8_takesE 320 = .ok (.getfield 253, 3) := by decide +kernel
theorem dX8_takesE_323 : decode cX8_takesE 323 = .ok (.iload 4, 2) := by decide +kernel
theorem dX8_takesE_325 : decode cX8_takesE 325 = .ok (.iastore, 1) := by decide +kernel
theorem dX8_takesE_326 : decode cX8_takesE 326 = .ok (.aload_n 0, 1) := by decide +kernel
theorem dX8_takesE_327 : decode cX8_takesE 327 = .ok (.dup, 1) := by decide +kernel
theorem dX8_takesE_328 : decode cX8_takesE 328 = .ok (.getfield 253, 3) := by decide +kernel
theorem dX8_takesE_331 : decode cX8_takesE 331 = .ok (.iconst 1, 1) := by decide +kernel
theorem dX8_takesE_332 : decode cX8_takesE 332 = .ok (.iadd, 1) := by decide +kernel
theorem dX8_takesE_333 : decode cX8_takesE 333 = .ok (.putfield 253, 3) := by decide +kernel
theorem dX8_takesE_336 : decode cX8_takesE 336 = .ok (.iconst 1, 1) := by decide +kernel
theorem dX8_takesE_337 : decode cX8_takesE 337 = .ok (.istore_n 3, 1) := by decide +kernel
theorem dX8_takesE_338 : decode cX8_takesE 338 = .ok (.aload_n 0, 1) := by decide +kernel
theorem dX8_takesE_339 : decode cX8_takesE 339 = .ok (.invokevirtual 250, 3) := by decide +kernel
theorem dX8_takesE_342 : decode cX8_takesE 342 = .ok (.goto (-314), 3) := by decide +kernel
theorem dX8_takesE_345 : decode cX8_takesE 345 = .ok (.aload_n 0, 1) := by decide +kernel
theorem dX8_takesE_346 : decode cX8_takesE 346 = .ok (.iconst 0, 1) := by decide +kernel
theorem dX8_takesE_347 : decode cX8_takesE 347 = .ok (.invokevirtual 268, 3) := by decide +kernel
theorem dX8_takesE_350 : decode cX8_takesE 350 = .ok (.iload_n 1, 1) := by decide +kernel
theorem dX8_takesE_351 : decode cX8_takesE 351 = .ok (.ifCond .ne 7, 3) := by decide +kernel
theorem dX8_takesE_354 : decode cX8_takesE 354 = .ok (.iconst 1, 1) := by decide +kernel
theorem dX8_takesE_355 : decode cX8_takesE 355 = .ok (.goto 4, 3) := by decide +kernel
theorem dX8_takesE_358 : decode cX8_takesE 358 = .ok (.iconst 0, 1) := by decide +kernel
theorem dX8_takesE_359 : decode cX8_takesE 359 = .ok (.ireturn, 1) := by decide +kernel
theorem dX8_notsOpen_0 : decode cX8_notsOpen 0 = .ok (.iconst 0, 1) := by decide +kernel
theorem dX8_notsOpen_1 : decode cX8_notsOpen 1 = .ok (.istore_n 1, 1) := by decide +kernel
theorem dX8_notsOpen_2 : decode cX8_notsOpen 2 = .ok (.iconst 0, 1) := by decide +kernel
theorem dX8_notsOpen_3 : decode cX8_notsOpen 3 = .ok (.istore_n 2, 1) := by decide +kernel
theorem dX8_notsOpen_4 : decode cX8_notsOpen 4 = .ok (.iload_n 2, 1) := by decide +kernel
theorem dX8_notsOpen_5 : decode cX8_notsOpen 5 = .ok (.aload_n 0, 1) := by decide +kernel
theorem dX8_notsOpen_6 : decode cX8_notsOpen 6 = .ok (.getfield 253, 3) := by decide +kernel
theorem dX8_notsOpen_9 : decode cX8_notsOpen 9 = .ok (.if_icmp .ge 28, 3) := by decide +kernel
theorem dX8_notsOpen_12 : decode cX8_notsOpen 12 = .ok (.iload_n 1, 1) := by decide +kernel
theorem dX8_notsOpen_13 : decode cX8_notsOpen 13 = .ok (.aload_n 0, 1) := by decide +kernel
theorem dX8_notsOpen_14 : decode cX8_notsOpen 14 = .ok (.getfield 41, 3) := by decide +kernel
theorem dX8_notsOpen_17 : decode cX8_notsOpen 17 = .ok (.iload_n 2, 1) := by decide +kernel
theorem dX8_notsOpen_18 : decode cX8_notsOpen 18 = .ok (.iaload, 1) := by decide +kernel
theorem dX8_notsOpen_19 : decode cX8_notsOpen 19 = .ok (.bipush (-10), 2) := by decide +kernel
theorem dX8_notsOpen_21 : decode cX8_notsOpen 21 = .ok (.if_icmp .ne 7, 3) := by decide +kernel
theorem dX8_notsOpen_24 : decode cX8_notsOpen 24 = .ok (.iconst 1, 1) := by decide +kernel
theorem dX8_notsOpen_25 : decode cX8_notsOpen 25 = .ok (.goto 4, 3) := by decide +kernel
theorem dX8_notsOpen_28 : decode cX8_notsOpen 28 = .ok (.iconst 0, 1) := by decide +kernel
theorem dX8_notsOpen_29 : decode cX8_notsOpen 29 = .ok (.iadd, 1) := by decide +kernel
theorem dX8_notsOpen_30 : decode cX8_notsOpen 30 = .ok (.istore_n 1, 1) := by decide +kernel
theorem dX8_notsOpen_31 : decode cX8_notsOpen 31 = .ok (.iinc 2 1, 3) := by decide +kernel
theorem dX8_notsOpen_34 : decode cX8_notsOpen 34 = .ok (.goto (-30), 3) := by decide +kernel
theorem dX8_notsOpen_37 : decode cX8_notsOpen 37 = .ok (.iload_n 1, 1) := by decide +kernel
theorem dX8_notsOpen_38 : decode cX8_notsOpen 38 = .ok (.ireturn, 1) := by decide +kernel
theorem dX8_text_0 : decode cX8_text 0 = .ok (.aload_n 0, 1) := by decide +kernel
theorem dX8_text_1 : decode cX8_text 1 = .ok (.iconst 0, 1) := by decide +kernel
theorem dX8_text_2 : decode cX8_text 2 = .ok (.putfield 226, 3) := by decide +kernel
theorem dX8_text_5 : decode cX8_text 5 = .ok (.aload_n 0, 1) := by decide +kernel
theorem dX8_text_6 : decode cX8_text 6 = .ok (.iconst (-1), 1) := by decide +kernel
theorem dX8_text_7 : decode cX8_text 7 = .ok (.putfield 232, 3) := by decide +kernel
theorem dX8_text_10 : decode cX8_text 10 = .ok (.aload_n 0, 1) := by decide +kernel
theorem dX8_text_11 : decode cX8_text 11 = .ok (.invokevirtual 250, 3) := by decide +kernel
theorem dX8_text_14 : decode cX8_text 14 = .ok (.aload_n 0, 1) := by decide +kernel
theorem dX8_text_15 : decode cX8_text 15 = .ok (.invokevirtual 280, 3) := by decide +kernel
theorem dX8_text_18 : decode cX8_text 18 = .ok (.ifCond .eq 14, 3) := by decide +kernel
theorem dX8_text_21 : decode cX8_text 21 = .ok (.aload_n 0, 1) := by decide +kernel
theorem dX8_text_22 : decode cX8_text 22 = .ok (.invokevirtual 283, 3) := by decide +kernel
theorem dX8_text_25 : decode cX8_text 25 = .ok (.ifCond .eq 7, 3) := by decide +kernel
theorem dX8_text_28 : decode cX8_text 28 = .ok (.iconst 1, 1) := by decide +kernel
theorem dX8_text_29 : decode cX8_text 29 = .ok (.goto 4, 3) := by decide +kernel
theorem dX8_text_32 : decode cX8_text 32 = .ok (.iconst 0, 1) := by decide +kernel
theorem dX8_text_33 : decode cX8_text 33 = .ok (.istore_n 1, 1) := by decide +kernel
theorem dX8_text_34 : decode cX8_text 34 = .ok (.aload_n 0, 1) := by decide +kernel
theorem dX8_text_35 : decode cX8_text 35 = .ok (.iconst 0, 1) := by decide +kernel
theorem dX8_text_36 : decode cX8_text 36 = .ok (.putfield 222, 3) := by decide +kernel
theorem dX8_text_39 : decode cX8_text 39 = .ok (.iload_n 1, 1) := by decide +kernel
theorem dX8_text_40 : decode cX8_text 40 = .ok (.ifCond .ne 11, 3) := by decide +kernel
theorem dX8_text_43 : decode cX8_text 43 = .ok (.bipush (-100), 2) := by decide +kernel
theorem dX8_text_45 : decode cX8_text 45 = .ok (.aload_n 0, 1) := by decide +kernel
theorem dX8_text_46 : decode cX8_text 46 = .ok (.getfield 229, 3) := by decide +kernel
theorem dX8_text_49 : decode cX8_text 49 = .ok (.isub, 1) := by decide +kernel
theorem dX8_text_50 : decode cX8_text 50 = .ok (.ireturn, 1) := by decide +kernel
theorem dX8_text_51 : decode cX8_text 51 = .ok (.aload_n 0, 1) := by decide +kernel
theorem dX8_text_52 : decode cX8_text 52 = .ok (.getfield 9, 3) := by decide +kernel
theorem dX8_text_55 : decode cX8_text 55 = .ok (.bipush 13, 2) := by decide +kernel
theorem dX8_text_57 : decode cX8_text 57 = .ok (.iaload, 1) := by decide +kernel
theorem dX8_text_58 : decode cX8_text 58 = .ok (.bipush 14, 2) := by decide +kernel
theorem dX8_text_60 : decode cX8_text 60 = .ok (.if_icmp .ne 6, 3) := by decide +kernel
theorem dX8_text_63 : decode cX8_text 63 = .ok (.ldc 98, 2) := by decide +kernel
theorem dX8_text_65 : decode cX8_text 65 = .ok (.ireturn, 1) := by decide +kernel
theorem dX8_text_66 : decode cX8_text 66 = .ok (.aload_n 0, 1) := by decide +kernel
theorem dX8_text_67 : decode cX8_text 67 = .ok (.getfield 9, 3) := by decide +kernel
theorem dX8_text_70 : decode cX8_text 70 = .ok (.bipush 13, 2) := by decide +kernel
theorem dX8_text_72 : decode cX8_text 72 = .ok (.iaload, 1) := by decide +kernel
theorem dX8_text_73 : decode cX8_text 73 = .ok (.istore_n 2, 1) := by decide +kernel
theorem dX8_text_74 : decode cX8_text 74 = .ok (.aload_n 0, 1) := by decide +kernel
theorem dX8_text_75 : decode cX8_text 75 = .ok (.getfield 9, 3) := by decide +kernel
theorem dX8_text_78 : decode cX8_text 78 = .ok (.bipush 64, 2) := by decide +kernel
theorem dX8_text_80 : decode cX8_text 80 = .ok (.iconst 2, 1) := by decide +kernel
theorem dX8_text_81 : decode cX8_text 81 = .ok (.iload_n 2, 1) := by decide +kernel
theorem dX8_text_82 : decode cX8_text 82 = .ok (.imul, 1) := by decide +kernel
theorem dX8_text_83 : decode cX8_text 83 = .ok (.iadd, 1) := by decide +kernel
theorem dX8_text_84 : decode cX8_text 84 = .ok (.sipush 1000, 3) := by decide +kernel
theorem dX8_text_87 : decode cX8_text 87 = .ok (.aload_n 0, 1) := by decide +kernel
theorem dX8_text_88 : decode cX8_text 88 = .ok (.getfield 247, 3) := by decide +kernel
theorem dX8_text_91 : decode cX8_text 91 = .ok (.imul, 1) := by decide +kernel
theorem dX8_text_92 : decode cX8_text 92 = .ok (.aload_n 0, 1) := by decide +kernel
theorem dX8_text_93 : decode cX8_text 93 = .ok (.getfield 259, 3) := by decide +kernel
theorem dX8_text_96 : decode cX8_text 96 = .ok (.iadd, 1) := by decide +kernel
theorem dX8_text_97 : decode cX8_text 97 = .ok (.iastore, 1) := by decide +kernel
theorem dX8_text_98 : decode cX8_text 98 = .ok (.aload_n 0, 1) := by decide +kernel
theorem dX8_text_99 : decode cX8_text 99 = .ok (.getfield 9, 3) := by decide +kernel
theorem dX8_text_102 : decode cX8_text 102 = .ok (.bipush 64, 2) := by decide +kernel
theorem dX8_text_104 : decode cX8_text 104 = .ok (.iconst 2, 1) := by decide +kernel
theorem dX8_text_105 : decode cX8_text 105 = .ok (.iload_n 2, 1) := by decide +kernel
theorem dX8_text_106 : decode cX8_text 106 = .ok (.imul, 1) := by decide +kernel
theorem dX8_text_107 : decode cX8_text 107 = .ok (.iadd, 1) := by decide +kernel
theorem dX8_text_108 : decode cX8_text 108 = .ok (.iconst 1, 1) := by decide +kernel
theorem dX8_text_109 : decode cX8_text 109 = .ok (.iadd, 1) := by decide +kernel
theorem dX8_text_110 : decode cX8_text 110 = .ok (.aload_n 0, 1) := by decide +kernel
theorem dX8_text_111 : decode cX8_text 111 = .ok (.getfield 265, 3) := by decide +kernel
theorem dX8_text_114 : decode cX8_text 114 = .ok (.iastore, 1) := by decide +kernel
theorem dX8_text_115 : decode cX8_text 115 = .ok (.iconst 0, 1) := by decide +kernel
theorem dX8_text_116 : decode cX8_text 116 = .ok (.istore_n 3, 1) := by decide +kernel
theorem dX8_text_117 : decode cX8_text 117 = .ok (.iload_n 3, 1) := by decide +kernel
theorem dX8_text_118 : decode cX8_text 118 = .ok (.aload_n 0, 1) := by decide +kernel
theorem dX8_text_119 : decode cX8_text 119 = .ok (.getfield 259, 3) := by decide +kernel
theorem dX8_text_122 : decode cX8_text 122 = .ok (.if_icmp .ge 29, 3) := by decide +kernel
theorem dX8_text_125 : decode cX8_text 125 = .ok (.aload_n 0, 1) := by decide +kernel
theorem dX8_text_126 : decode cX8_text 126 = .ok (.getfield 9, 3) := by decide +kernel
theorem dX8_text_129 : decode cX8_text 129 = .ok (.bipush 92, 2) := by decide +kernel
theorem dX8_text_131 : decode cX8_text 131 = .ok (.bipush 96, 2) := by decide +kernel
theorem dX8_text_133 : decode cX8_text 133 = .ok (.iload_n 2, 1) := by decide +kernel
theorem dX8_text_134 : decode cX8_text 134 = .ok (.imul, 1) := by decide +kernel
theorem dX8_text_135 : decode cX8_text 135 = .ok (.iadd, 1) := by decide +kernel
theorem dX8_text_136 : decode cX8_text 136 = .ok (.iload_n 3, 1) := by decide +kernel
theorem dX8_text_137 : decode cX8_text 137 = .ok (.iadd, 1) := by decide +kernel
theorem dX8_text_138 : decode cX8_text 138 = .ok (.aload_n 0, 1) := by decide +kernel
theorem dX8_text_139 : decode cX8_text 139 = .ok (.getfield 38, 3) := by decide +kernel
theorem dX8_text_142 : decode cX8_text 142 = .ok (.iload_n 3, 1) := by decide +kernel
theorem dX8_text_143 : decode cX8_text 143 = .ok (.iaload, 1) := by decide +kernel
theorem dX8_text_144 : decode cX8_text 144 = .ok (.iastore, 1) := by decide +kernel
theorem dX8_text_145 : decode cX8_text 145 = .ok (.iinc 3 1, 3) := by decide +kernel
theorem dX8_text_148 : decode cX8_text 148 = .ok (.goto (-31), 3) := by decide +kernel
theorem dX8_text_151 : decode cX8_text 151 = .ok (.aload_n 0, 1) := by decide +kernel
theorem dX8_text_152 : decode cX8_text 152 = .ok (.getfield 9, 3) := by decide +kernel
theorem dX8_text_155 : decode cX8_text 155 = .ok (.bipush 13, 2) := by decide +kernel
theorem dX8_text_157 : decode cX8_text 157 = .ok (.dup2, 1) := by decide +kernel
theorem dX8_text_158 : decode cX8_text 158 = .ok (.iaload, 1) := by decide +kernel
theorem dX8_text_159 : decode cX8_text 159 = .ok (.iconst 1, 1) := by decide +kernel
theorem dX8_text_160 : decode cX8_text 160 = .ok (.iadd, 1) := by decide +kernel
theorem dX8_text_161 : decode cX8_text 161 = .ok (.iastore, 1) := by decide +kernel
theorem dX8_text_162 : decode cX8_text 162 = .ok (.iload_n 2, 1) := by decide +kernel
theorem dX8_text_163 : decode cX8_text 163 = .ok (.ireturn, 1) := by decide +kernel
theorem dX8_textTold_0 : decode cX8_textTold 0 = .ok (.iload_n 1, 1) := by decide +kernel
theorem dX8_textTold_1 : decode cX8_textTold 1 = .ok (.iconst 0, 1) := by decide +kernel
theorem dX8_textTold_2 : decode cX8_textTold 2 = .ok (.aload_n 0, 1) := by decide +kernel
theorem dX8_textTold_3 : decode cX8_textTold 3 = .ok (.getfield 9, 3) := by decide +kernel
theorem dX8_textTold_6 : decode cX8_textTold 6 = .ok (.bipush 13, 2) := by decide +kernel
theorem dX8_textTold_8 : decode cX8_textTold 8 = .ok (.iaload, 1) := by decide +kernel
theorem dX8_textTold_9 : decode cX8_textTold 9 = .ok (.iconst 1, 1) := by decide +kernel
theorem dX8_textTold_10 : decode cX8_textTold 10 = .ok (.isub, 1) := by decide +kernel
theorem dX8_textTold_11 : decode cX8_textTold 11 = .ok (.invokestatic 81, 3) := by decide +kernel
theorem dX8_textTold_14 : decode cX8_textTold 14 = .ok (.ifCond .eq 12, 3) := by decide +kernel
theorem dX8_textTold_17 : decode cX8_textTold 17 = .ok (.iload_n 2, 1) := by decide +kernel
theorem dX8_textTold_18 : decode cX8_textTold 18 = .ok (.iconst 0, 1) := by decide +kernel
theorem dX8_textTold_19 : decode cX8_textTold 19 = .ok (.iconst 1, 1) := by decide +kernel
theorem dX8_textTold_20 : decode cX8_textTold 20 = .ok (.invokestatic 81, 3) := by decide +kernel
theorem dX8_textTold_23 : decode cX8_textTold 23 = .ok (.ifCond .ne 6, 3) := by decide +kernel
theorem dX8_textTold_26 : decode cX8_textTold 26 = .ok (.ldc 97, 2) := by decide +kernel
theorem dX8_textTold_28 : decode cX8_textTold 28 = .ok (.ireturn, 1) := by decide +kernel
theorem dX8_textTold_29 : decode cX8_textTold 29 = .ok (.iload_n 2, 1) := by decide +kernel
theorem dX8_textTold_30 : decode cX8_textTold 30 = .ok (.ifCond .ne 21, 3) := by decide +kernel
theorem dX8_textTold_33 : decode cX8_textTold 33 = .ok (.aload_n 0, 1) := by decide +kernel
theorem dX8_textTold_34 : decode cX8_textTold 34 = .ok (.getfield 9, 3) := by decide +kernel
theorem dX8_textTold_37 : decode cX8_textTold 37 = .ok (.bipush 64, 2) := by decide +kernel
theorem dX8_textTold_39 : decode cX8_textTold 39 = .ok (.iconst 2, 1) := by decide +kernel
theorem dX8_textTold_40 : decode cX8_textTold 40 = .ok (.iload_n 1, 1) := by decide +kernel
theorem dX8_textTold_41 : decode cX8_textTold 41 = .ok (.imul, 1) := by decide +kernel
theorem dX8_textTold_42 : decode cX8_textTold 42 = .ok (.iadd, 1) := by decide +kernel
theorem dX8_textTold_43 : decode cX8_textTold 43 = .ok (.iaload, 1) := by decide +kernel
theorem dX8_textTold_44 : decode cX8_textTold 44 = .ok (.sipush 1000, 3) := by decide +kernel
theorem dX8_textTold_47 : decode cX8_textTold 47 = .ok (.idiv, 1) := by decide +kernel
theorem dX8_textTold_48 : decode cX8_textTold 48 = .ok (.goto 16, 3) := by decide +kernel
theorem dX8_textTold_51 : decode cX8_textTold 51 = .ok (.aload_n 0, 1) := by decide +kernel
theorem dX8_textTold_52 : decode cX8_textTold 52 = .ok (.getfield 9, 3) := by decide +kernel
theorem dX8_textTold_55 : decode cX8_textTold 55 = .ok (.bipush 64, 2) := by decide +kernel
theorem dX8_textTold_57 : decode cX8_textTold 57 = .ok (.iconst 2, 1) := by decide +kernel
theorem dX8_textTold_58 : decode cX8_textTold 58 = .ok (.iload_n 1, 1) := by decide +kernel
theorem dX8_textTold_59 : decode cX8_textTold 59 = .ok (.imul, 1) := by decide +kernel
theorem dX8_textTold_60 : decode cX8_textTold 60 = .ok (.iadd, 1) := by decide +kernel
theorem dX8_textTold_61 : decode cX8_textTold 61 = .ok (.iconst 1, 1) := by decide +kernel
theorem dX8_textTold_62 : decode cX8_textTold 62 = .ok (.iadd, 1) := by decide +kernel
theorem dX8_textTold_63 : decode cX8_textTold 63 = .ok (.iaload, 1) := by decide +kernel
theorem dX8_textTold_64 : decode cX8_textTold 64 = .ok (.ireturn, 1) := by decide +kernel
theorem dX8_counts_0 : decode cX8_counts 0 = .ok (.aload_n 0, 1) := by decide +kernel
theorem dX8_counts_1 : decode cX8_counts 1 = .ok (.getfield 9, 3) := by decide +kernel
theorem dX8_counts_4 : decode cX8_counts 4 = .ok (.bipush 13, 2) := by decide +kernel
theorem dX8_counts_6 : decode cX8_counts 6 = .ok (.iaload, 1) := by decide +kernel
theorem dX8_counts_7 : decode cX8_counts 7 = .ok (.iconst 1, 1) := by decide +kernel
theorem dX8_counts_8 : decode cX8_counts 8 = .ok (.isub, 1) := by decide +kernel
theorem dX8_counts_9 : decode cX8_counts 9 = .ok (.istore_n 2, 1) := by decide +kernel
theorem dX8_counts_10 : decode cX8_counts 10 = .ok (.iload_n 2, 1) := by decide +kernel
theorem dX8_counts_11 : decode cX8_counts 11 = .ok (.ifCond .lt 30, 3) := by decide +kernel
theorem dX8_counts_14 : decode cX8_counts 14 = .ok (.aload_n 0, 1) := by decide +kernel
theorem dX8_counts_15 : decode cX8_counts 15 = .ok (.getfield 9, 3) := by decide +kernel
theorem dX8_counts_18 : decode cX8_counts 18 = .ok (.bipush 64, 2) := by decide +kernel
theorem dX8_counts_20 : decode cX8_counts 20 = .ok (.iconst 2, 1) := by decide +kernel
theorem dX8_counts_21 : decode cX8_counts 21 = .ok (.iload_n 2, 1) := by decide +kernel
theorem dX8_counts_22 : decode cX8_counts 22 = .ok (.imul, 1) := by decide +kernel
theorem dX8_counts_23 : decode cX8_counts 23 = .ok (.iadd, 1) := by decide +kernel
theorem dX8_counts_24 : decode cX8_counts 24 = .ok (.iaload, 1) := by decide +kernel
theorem dX8_counts_25 : decode cX8_counts 25 = .ok (.sipush 1000, 3) := by decide +kernel
theorem dX8_counts_28 : decode cX8_counts 28 = .ok (.idiv, 1) := by decide +kernel
theorem dX8_counts_29 : decode cX8_counts 29 = .ok (.iload_n 1, 1) := by decide +kernel
theorem dX8_counts_30 : decode cX8_counts 30 = .ok (.if_icmp .ne 5, 3) := by decide +kernel
theorem dX8_counts_33 : decode cX8_counts 33 = .ok (.iload_n 2, 1) := by decide +kernel
theorem dX8_counts_34 : decode cX8_counts 34 = .ok (.ireturn, 1) := by decide +kernel
theorem dX8_counts_35 : decode cX8_counts 35 = .ok (.iinc 2 (-1), 3) := by decide +kernel
theorem dX8_counts_38 : decode cX8_counts 38 = .ok (.goto (-28), 3) := by decide +kernel
theorem dX8_counts_41 : decode cX8_counts 41 = .ok (.iconst (-1), 1) := by decide +kernel
theorem dX8_counts_42 : decode cX8_counts 42 = .ok (.ireturn, 1) := by decide +kernel
theorem dX8_why_0 : decode cX8_why 0 = .ok (.iload_n 1, 1) := by decide +kernel
theorem dX8_why_1 : decode cX8_why 1 = .ok (.iconst 0, 1) := by decide +kernel
theorem dX8_why_2 : decode cX8_why 2 = .ok (.iconst 2, 1) := by decide +kernel
theorem dX8_why_3 : decode cX8_why 3 = .ok (.invokestatic 81, 3) := by decide +kernel
theorem dX8_why_6 : decode cX8_why 6 = .ok (.ifCond .ne 6, 3) := by decide +kernel
theorem dX8_why_9 : decode cX8_why 9 = .ok (.ldc 97, 2) := by decide +kernel
theorem dX8_why_11 : decode cX8_why 11 = .ok (.ireturn, 1) := by decide +kernel
theorem dX8_why_12 : decode cX8_why 12 = .ok (.aload_n 0, 1) := by decide +kernel
theorem dX8_why_13 : decode cX8_why 13 = .ok (.iload_n 1, 1) := by decide +kernel
theorem dX8_why_14 : decode cX8_why 14 = .ok (.invokevirtual 114, 3) := by decide +kernel
theorem dX8_why_17 : decode cX8_why 17 = .ok (.istore_n 2, 1) := by decide +kernel
theorem dX8_why_18 : decode cX8_why 18 = .ok (.iload_n 2, 1) := by decide +kernel
theorem dX8_why_19 : decode cX8_why 19 = .ok (.ifCond .ge 8, 3) := by decide +kernel
theorem dX8_why_22 : decode cX8_why 22 = .ok (.ldc 176, 2) := by decide +kernel
theorem dX8_why_24 : decode cX8_why 24 = .ok (.goto 4, 3) := by decide +kernel
theorem dX8_why_27 : decode cX8_why 27 = .ok (.iload_n 2, 1) := by decide +kernel
theorem dX8_why_28 : decode cX8_why 28 = .ok (.ireturn, 1) := by decide +kernel
theorem dX8_two_0 : decode cX8_two 0 = .ok (.iload_n 0, 1) := by decide +kernel
theorem dX8_two_1 : decode cX8_two 1 = .ok (.tableswitch 120 (-8) (-1) #[116, 112, 108, 97, 86, 75, 61, 47], 47) := by decide +kernel
theorem dX8_two_48 : decode cX8_two 48 = .ok (.iload_n 1, 1) := by decide +kernel
theorem dX8_two_49 : decode cX8_two 49 = .ok (.ifCond .ne 7, 3) := by decide +kernel
theorem dX8_two_52 : decode cX8_two 52 = .ok (.iload_n 2, 1) := by decide +kernel
theorem dX8_two_53 : decode cX8_two 53 = .ok (.ifCond .eq 7, 3) := by decide +kernel
theorem dX8_two_56 : decode cX8_two 56 = .ok (.iconst 1, 1) := by decide +kernel
theorem dX8_two_57 : decode cX8_two 57 = .ok (.goto 4, 3) := by decide +kernel
theorem dX8_two_60 : decode cX8_two 60 = .ok (.iconst 0, 1) := by decide +kernel
theorem dX8_two_61 : decode cX8_two 61 = .ok (.ireturn, 1) := by decide +kernel
theorem dX8_two_62 : decode cX8_two 62 = .ok (.iload_n 1, 1) := by decide +kernel
theorem dX8_two_63 : decode cX8_two 63 = .ok (.ifCond .eq 11, 3) := by decide +kernel
theorem dX8_two_66 : decode cX8_two 66 = .ok (.iload_n 2, 1) := by decide +kernel
theorem dX8_two_67 : decode cX8_two 67 = .ok (.ifCond .eq 7, 3) := by decide +kernel
theorem dX8_two_70 : decode cX8_two 70 = .ok (.iconst 1, 1) := by decide +kernel
theorem dX8_two_71 : decode cX8_two 71 = .ok (.goto 4, 3) := by decide +kernel
theorem dX8_two_74 : decode cX8_two 74 = .ok (.iconst 0, 1) := by decide +kernel
theorem dX8_two_75 : decode cX8_two 75 = .ok (.ireturn, 1) := by decide +kernel
theorem dX8_two_76 : decode cX8_two 76 = .ok (.iload_n 1, 1) := by decide +kernel
theorem dX8_two_77 : decode cX8_two 77 = .ok (.iload_n 2, 1) := by decide +kernel
theorem dX8_two_78 : decode cX8_two 78 = .ok (.if_icmp .ge 7, 3) := by decide +kernel
theorem dX8_two_81 : decode cX8_two 81 = .ok (.iconst 1, 1) := by decide +kernel
theorem dX8_two_82 : decode cX8_two 82 = .ok (.goto 4, 3) := by decide +kernel
theorem dX8_two_85 : decode cX8_two 85 = .ok (.iconst 0, 1) := by decide +kernel
theorem dX8_two_86 : decode cX8_two 86 = .ok (.ireturn, 1) := by decide +kernel
theorem dX8_two_87 : decode cX8_two 87 = .ok (.iload_n 1, 1) := by decide +kernel
theorem dX8_two_88 : decode cX8_two 88 = .ok (.iload_n 2, 1) := by decide +kernel
theorem dX8_two_89 : decode cX8_two 89 = .ok (.if_icmp .ne 7, 3) := by decide +kernel
theorem dX8_two_92 : decode cX8_two 92 = .ok (.iconst 1, 1) := by decide +kernel
theorem dX8_two_93 : decode cX8_two 93 = .ok (.goto 4, 3) := by decide +kernel
theorem dX8_two_96 : decode cX8_two 96 = .ok (.iconst 0, 1) := by decide +kernel
theorem dX8_two_97 : decode cX8_two 97 = .ok (.ireturn, 1) := by decide +kernel
theorem dX8_two_98 : decode cX8_two 98 = .ok (.iload_n 1, 1) := by decide +kernel
theorem dX8_two_99 : decode cX8_two 99 = .ok (.iload_n 2, 1) := by decide +kernel
theorem dX8_two_100 : decode cX8_two 100 = .ok (.if_icmp .le 7, 3) := by decide +kernel
theorem dX8_two_103 : decode cX8_two 103 = .ok (.iconst 1, 1) := by decide +kernel
theorem dX8_two_104 : decode cX8_two 104 = .ok (.goto 4, 3) := by decide +kernel
theorem dX8_two_107 : decode cX8_two 107 = .ok (.iconst 0, 1) := by decide +kernel
theorem dX8_two_108 : decode cX8_two 108 = .ok (.ireturn, 1) := by decide +kernel
theorem dX8_two_109 : decode cX8_two 109 = .ok (.iload_n 1, 1) := by decide +kernel
theorem dX8_two_110 : decode cX8_two 110 = .ok (.iload_n 2, 1) := by decide +kernel
theorem dX8_two_111 : decode cX8_two 111 = .ok (.iadd, 1) := by decide +kernel
theorem dX8_two_112 : decode cX8_two 112 = .ok (.ireturn, 1) := by decide +kernel
theorem dX8_two_113 : decode cX8_two 113 = .ok (.iload_n 1, 1) := by decide +kernel
theorem dX8_two_114 : decode cX8_two 114 = .ok (.iload_n 2, 1) := by decide +kernel
theorem dX8_two_115 : decode cX8_two 115 = .ok (.isub, 1) := by decide +kernel
theorem dX8_two_116 : decode cX8_two 116 = .ok (.ireturn, 1) := by decide +kernel
theorem dX8_two_117 : decode cX8_two 117 = .ok (.iload_n 1, 1) := by decide +kernel
theorem dX8_two_118 : decode cX8_two 118 = .ok (.iload_n 2, 1) := by decide +kernel
theorem dX8_two_119 : decode cX8_two 119 = .ok (.imul, 1) := by decide +kernel
theorem dX8_two_120 : decode cX8_two 120 = .ok (.ireturn, 1) := by decide +kernel
theorem dX8_two_121 : decode cX8_two 121 = .ok (.iload_n 2, 1) := by decide +kernel
theorem dX8_two_122 : decode cX8_two 122 = .ok (.ifCond .ne 7, 3) := by decide +kernel
theorem dX8_two_125 : decode cX8_two 125 = .ok (.iconst 0, 1) := by decide +kernel
theorem dX8_two_126 : decode cX8_two 126 = .ok (.goto 6, 3) := by decide +kernel
theorem dX8_two_129 : decode cX8_two 129 = .ok (.iload_n 1, 1) := by decide +kernel
theorem dX8_two_130 : decode cX8_two 130 = .ok (.iload_n 2, 1) := by decide +kernel
theorem dX8_two_131 : decode cX8_two 131 = .ok (.idiv, 1) := by decide +kernel
theorem dX8_two_132 : decode cX8_two 132 = .ok (.ireturn, 1) := by decide +kernel
theorem dX8_worksOut_0 : decode cX8_worksOut 0 = .ok (.iconst 0, 1) := by decide +kernel
theorem dX8_worksOut_1 : decode cX8_worksOut 1 = .ok (.istore_n 2, 1) := by decide +kernel
theorem dX8_worksOut_2 : decode cX8_worksOut 2 = .ok (.aload_n 0, 1) := by decide +kernel
theorem dX8_worksOut_3 : decode cX8_worksOut 3 = .ok (.getfield 9, 3) := by decide +kernel
theorem dX8_worksOut_6 : decode cX8_worksOut 6 = .ok (.bipush 64, 2) := by decide +kernel
theorem dX8_worksOut_8 : decode cX8_worksOut 8 = .ok (.iconst 2, 1) := by decide +kernel
theorem dX8_worksOut_9 : decode cX8_worksOut 9 = .ok (.iload_n 1, 1) := by decide +kernel
theorem dX8_worksOut_10 : decode cX8_worksOut 10 = .ok (.imul, 1) := by decide +kernel
theorem dX8_worksOut_11 : decode cX8_worksOut 11 = .ok (.iadd, 1) := by decide +kernel
theorem dX8_worksOut_12 : decode cX8_worksOut 12 = .ok (.iaload, 1) := by decide +kernel
theorem dX8_worksOut_13 : decode cX8_worksOut 13 = .ok (.sipush 1000, 3) := by decide +kernel
theorem dX8_worksOut_16 : decode cX8_worksOut 16 = .ok (.irem, 1) := by decide +kernel
theorem dX8_worksOut_17 : decode cX8_worksOut 17 = .ok (.istore_n 3, 1) := by decide +kernel
theorem dX8_worksOut_18 : decode cX8_worksOut 18 = .ok (.iconst 0, 1) := by decide +kernel
theorem dX8_worksOut_19 : decode cX8_worksOut 19 = .ok (.istore 4, 2) := by decide +kernel
theorem dX8_worksOut_21 : decode cX8_worksOut 21 = .ok (.iload 4, 2) := by decide +kernel
theorem dX8_worksOut_23 : decode cX8_worksOut 23 = .ok (.iload_n 3, 1) := by decide +kernel
theorem dX8_worksOut_24 : decode cX8_worksOut 24 = .ok (.if_icmp .ge 131, 3) := by decide +kernel
theorem dX8_worksOut_27 : decode cX8_worksOut 27 = .ok (.aload_n 0, 1) := by decide +kernel
theorem dX8_worksOut_28 : decode cX8_worksOut 28 = .ok (.getfield 9, 3) := by decide +kernel
theorem dX8_worksOut_31 : decode cX8_worksOut 31 = .ok (.bipush 92, 2) := by decide +kernel
theorem dX8_worksOut_33 : decode cX8_worksOut 33 = .ok (.bipush 96, 2) := by decide +kernel
theorem dX8_worksOut_35 : decode cX8_worksOut 35 = .ok (.iload_n 1, 1) := by decide +kernel
theorem dX8_worksOut_36 : decode cX8_worksOut 36 = .ok (.imul, 1) := by decide +kernel
theorem dX8_worksOut_37 : decode cX8_worksOut 37 = .ok (.iadd, 1) := by decide +kernel
theorem dX8_worksOut_38 : decode cX8_worksOut 38 = .ok (.iload 4, 2) := by decide +kernel
theorem dX8_worksOut_40 : decode cX8_worksOut 40 = .ok (.iadd, 1) := by decide +kernel
theorem dX8_worksOut_41 : decode cX8_worksOut 41 = .ok (.iaload, 1) := by decide +kernel
theorem dX8_worksOut_42 : decode cX8_worksOut 42 = .ok (.istore 5, 2) := by decide +kernel
theorem dX8_worksOut_44 : decode cX8_worksOut 44 = .ok (.iload 5, 2) := by decide +kernel
theorem dX8_worksOut_46 : decode cX8_worksOut 46 = .ok (.ifCond .lt 39, 3) := by decide +kernel
theorem dX8_worksOut_49 : decode cX8_worksOut 49 = .ok (.aload_n 0, 1) := by decide +kernel
theorem dX8_worksOut_50 : decode cX8_worksOut 50 = .ok (.getfield 48, 3) := by decide +kernel
theorem dX8_worksOut_53 : decode cX8_worksOut 53 = .ok (.iload_n 2, 1) := by decide +kernel
theorem dX8_worksOut_54 : decode cX8_worksOut 54 = .ok (.iload 5, 2) := by decide +kernel
theorem dX8_worksOut_56 : decode cX8_worksOut 56 = .ok (.sipush 10000, 3) := by decide +kernel
theorem dX8_worksOut_59 : decode cX8_worksOut 59 = .ok (.if_icmp .ge 8, 3) := by decide +kernel
theorem dX8_worksOut_62 : decode cX8_worksOut 62 = .ok (.iload 5, 2) := by decide +kernel
theorem dX8_worksOut_64 : decode cX8_worksOut 64 = .ok (.goto 14, 3) := by decide +kernel
theorem dX8_worksOut_67 : decode cX8_worksOut 67 = .ok (.aload_n 0, 1) := by decide +kernel
theorem dX8_worksOut_68 : decode cX8_worksOut 68 = .ok (.getfield 51, 3) := by decide +kernel
theorem dX8_worksOut_71 : decode cX8_worksOut 71 = .ok (.iload 5, 2) := by decide +kernel
theorem dX8_worksOut_73 : decode cX8_worksOut 73 = .ok (.sipush 10000, 3) := by decide +kernel
theorem dX8_worksOut_76 : decode cX8_worksOut 76 = .ok (.isub, 1) := by decide +kernel
theorem dX8_worksOut_77 : decode cX8_worksOut 77 = .ok (.iaload, 1) := by decide +kernel
theorem dX8_worksOut_78 : decode cX8_worksOut 78 = .ok (.iastore, 1) := by decide +kernel
theorem dX8_worksOut_79 : decode cX8_worksOut 79 = .ok (.iinc 2 1, 3) := by decide +kernel
theorem dX8_worksOut_82 : decode cX8_worksOut 82 = .ok (.goto 67, 3) := by decide +kernel
theorem dX8_worksOut_85 : decode cX8_worksOut 85 = .ok (.iload 5, 2) := by decide +kernel
theorem dX8_worksOut_87 : decode cX8_worksOut 87 = .ok (.bipush (-10), 2) := by decide +kernel
theorem dX8_worksOut_89 : decode cX8_worksOut 89 = .ok (.if_icmp .ne 30, 3) := by decide +kernel
theorem dX8_worksOut_92 : decode cX8_worksOut 92 = .ok (.aload_n 0, 1) := by decide +kernel
theorem dX8_worksOut_93 : decode cX8_worksOut 93 = .ok (.getfield 48, 3) := by decide +kernel
theorem dX8_worksOut_96 : decode cX8_worksOut 96 = .ok (.iload_n 2, 1) := by decide +kernel
theorem dX8_worksOut_97 : decode cX8_worksOut 97 = .ok (.iconst 1, 1) := by decide +kernel
theorem dX8_worksOut_98 : decode cX8_worksOut 98 = .ok (.isub, 1) := by decide +kernel
theorem dX8_worksOut_99 : decode cX8_worksOut 99 = .ok (.aload_n 0, 1) := by decide +kernel
theorem dX8_worksOut_100 : decode cX8_worksOut 100 = .ok (.getfield 48, 3) := by decide +kernel
theorem dX8_worksOut_103 : decode cX8_worksOut 103 = .ok (.iload_n 2, 1) := by decide +kernel
theorem dX8_worksOut_104 : decode cX8_worksOut 104 = .ok (.iconst 1, 1) := by decide +kernel
theorem dX8_worksOut_105 : decode cX8_worksOut 105 = .ok (.isub, 1) := by decide +kernel
theorem dX8_worksOut_106 : decode cX8_worksOut 106 = .ok (.iaload, 1) := by decide +kernel
theorem dX8_worksOut_107 : decode cX8_worksOut 107 = .ok (.ifCond .ne 7, 3) := by decide +kernel
theorem dX8_worksOut_110 : decode cX8_worksOut 110 = .ok (.iconst 1, 1) := by decide +kernel
theorem dX8_worksOut_111 : decode cX8_worksOut 111 = .ok (.goto 4, 3) := by decide +kernel
theorem dX8_worksOut_114 : decode cX8_worksOut 114 = .ok (.iconst 0, 1) := by decide +kernel
theorem dX8_worksOut_115 : decode cX8_worksOut 115 = .ok (.iastore, 1) := by decide +kernel
theorem dX8_worksOut_116 : decode cX8_worksOut 116 = .ok (.goto 33, 3) := by decide +kernel
theorem dX8_worksOut_119 : decode cX8_worksOut 119 = .ok (.iinc 2 (-1), 3) := by decide +kernel
theorem dX8_worksOut_122 : decode cX8_worksOut 122 = .ok (.aload_n 0, 1) := by decide +kernel
theorem dX8_worksOut_123 : decode cX8_worksOut 123 = .ok (.getfield 48, 3) := by decide +kernel
theorem dX8_worksOut_126 : decode cX8_worksOut 126 = .ok (.iload_n 2, 1) := by decide +kernel
theorem dX8_worksOut_127 : decode cX8_worksOut 127 = .ok (.iconst 1, 1) := by decide +kernel
theorem dX8_worksOut_128 : decode cX8_worksOut 128 = .ok (.isub, 1) := by decide +kernel
theorem dX8_worksOut_129 : decode cX8_worksOut 129 = .ok (.iload 5, 2) := by decide +kernel
theorem dX8_worksOut_131 : decode cX8_worksOut 131 = .ok (.aload_n 0, 1) := by decide +kernel
theorem dX8_worksOut_132 : decode cX8_worksOut 132 = .ok (.getfield 48, 3) := by decide +kernel
theorem dX8_worksOut_135 : decode cX8_worksOut 135 = .ok (.iload_n 2, 1) := by decide +kernel
theorem dX8_worksOut_136 : decode cX8_worksOut 136 = .ok (.iconst 1, 1) := by decide +kernel
theorem dX8_worksOut_137 : decode cX8_worksOut 137 = .ok (.isub, 1) := by decide +kernel
theorem dX8_worksOut_138 : decode cX8_worksOut 138 = .ok (.iaload, 1) := by decide +kernel
theorem dX8_worksOut_139 : decode cX8_worksOut 139 = .ok (.aload_n 0, 1) := by decide +kernel
theorem dX8_worksOut_140 : decode cX8_worksOut 140 = .ok (.getfield 48, 3) := by decide +kernel
theorem dX8_worksOut_143 : decode cX8_worksOut 143 = .ok (.iload_n 2, 1) := by decide +kernel
theorem dX8_worksOut_144 : decode cX8_worksOut 144 = .ok (.iaload, 1) := by decide +kernel
theorem dX8_worksOut_145 : decode cX8_worksOut 145 = .ok (.invokestatic 286, 3) := by decide +kernel
theorem dX8_worksOut_148 : decode cX8_worksOut 148 = .ok (.iastore, 1) := by decide +kernel
theorem dX8_worksOut_149 : decode cX8_worksOut 149 = .ok (.iinc 4 1, 3) := by decide +kernel
theorem dX8_worksOut_152 : decode cX8_worksOut 152 = .ok (.goto (-131), 3) := by decide +kernel
theorem dX8_worksOut_155 : decode cX8_worksOut 155 = .ok (.aload_n 0, 1) := by decide +kernel
theorem dX8_worksOut_156 : decode cX8_worksOut 156 = .ok (.getfield 48, 3) := by decide +kernel
theorem dX8_worksOut_159 : decode cX8_worksOut 159 = .ok (.iconst 0, 1) := by decide +kernel
theorem dX8_worksOut_160 : decode cX8_worksOut 160 = .ok (.iaload, 1) := by decide +kernel
theorem dX8_worksOut_161 : decode cX8_worksOut 161 = .ok (.ireturn, 1) := by decide +kernel
theorem dX8_isSheet_0 : decode cX8_isSheet 0 = .ok (.iload_n 0, 1) := by decide +kernel
theorem dX8_isSheet_1 : decode cX8_isSheet 1 = .ok (.iconst 0, 1) := by decide +kernel
theorem dX8_isSheet_2 : decode cX8_isSheet 2 = .ok (.iconst 3, 1) := by decide +kernel
theorem dX8_isSheet_3 : decode cX8_isSheet 3 = .ok (.invokestatic 81, 3) := by decide +kernel
theorem dX8_isSheet_6 : decode cX8_isSheet 6 = .ok (.ireturn, 1) := by decide +kernel
theorem dX8_isSlot_0 : decode cX8_isSlot 0 = .ok (.iload_n 0, 1) := by decide +kernel
theorem dX8_isSlot_1 : decode cX8_isSlot 1 = .ok (.iconst 0, 1) := by decide +kernel
theorem dX8_isSlot_2 : decode cX8_isSlot 2 = .ok (.iconst 4, 1) := by decide +kernel
theorem dX8_isSlot_3 : decode cX8_isSlot 3 = .ok (.invokestatic 81, 3) := by decide +kernel
theorem dX8_isSlot_6 : decode cX8_isSlot 6 = .ok (.ireturn, 1) := by decide +kernel
theorem dX8_sheet_0 : decode cX8_sheet 0 = .ok (.iload_n 1, 1) := by decide +kernel
theorem dX8_sheet_1 : decode cX8_sheet 1 = .ok (.invokestatic 197, 3) := by decide +kernel
theorem dX8_sheet_4 : decode cX8_sheet 4 = .ok (.ifCond .eq 22, 3) := by decide +kernel
theorem dX8_sheet_7 : decode cX8_sheet 7 = .ok (.iload_n 2, 1) := by decide +kernel
theorem dX8_sheet_8 : decode cX8_sheet 8 = .ok (.iconst (-1), 1) := by decide +kernel
theorem dX8_sheet_9 : decode cX8_sheet 9 = .ok (.iconst 1, 1) := by decide +kernel
theorem dX8_sheet_10 : decode cX8_sheet 10 = .ok (.invokestatic 81, 3) := by decide +kernel
theorem dX8_sheet_13 : decode cX8_sheet 13 = .ok (.ifCond .eq 13, 3) := by decide +kernel
theorem dX8_sheet_16 : decode cX8_sheet 16 = .ok (.iload_n 2, 1) := by decide +kernel
theorem dX8_sheet_17 : decode cX8_sheet 17 = .ok (.ifCond .lt 12, 3) := by decide +kernel
theorem dX8_sheet_20 : decode cX8_sheet 20 = .ok (.iload_n 3, 1) := by decide +kernel
theorem dX8_sheet_21 : decode cX8_sheet 21 = .ok (.bipush 24, 2) := by decide +kernel
theorem dX8_sheet_23 : decode cX8_sheet 23 = .ok (.if_icmp .le 6, 3) := by decide +kernel
theorem dX8_sheet_26 : decode cX8_sheet 26 = .ok (.ldc 97, 2) := by decide +kernel
theorem dX8_sheet_28 : decode cX8_sheet 28 = .ok (.ireturn, 1) := by decide +kernel
theorem dX8_sheet_29 : decode cX8_sheet 29 = .ok (.iload_n 2, 1) := by decide +kernel
theorem dX8_sheet_30 : decode cX8_sheet 30 = .ok (.ifCond .lt 11, 3) := by decide +kernel
theorem dX8_sheet_33 : decode cX8_sheet 33 = .ok (.iload_n 3, 1) := by decide +kernel
theorem dX8_sheet_34 : decode cX8_sheet 34 = .ok (.ifCond .ge 7, 3) := by decide +kernel
theorem dX8_sheet_37 : decode cX8_sheet 37 = .ok (.ldc_w 289, 3) := by decide +kernel
theorem dX8_sheet_40 : decode cX8_sheet 40 = .ok (.ireturn, 1) := by decide +kernel
theorem dX8_sheet_41 : decode cX8_sheet 41 = .ok (.aload_n 0, 1) := by decide +kernel
theorem dX8_sheet_42 : decode cX8_sheet 42 = .ok (.getfield 54, 3) := by decide +kernel
theorem dX8_sheet_45 : decode cX8_sheet 45 = .ok (.iload_n 1, 1) := by decide +kernel
theorem dX8_sheet_46 : decode cX8_sheet 46 = .ok (.iload_n 2, 1) := by decide +kernel
theorem dX8_sheet_47 : decode cX8_sheet 47 = .ok (.iastore, 1) := by decide +kernel
theorem dX8_sheet_48 : decode cX8_sheet 48 = .ok (.aload_n 0, 1) := by decide +kernel
theorem dX8_sheet_49 : decode cX8_sheet 49 = .ok (.getfield 57, 3) := by decide +kernel
theorem dX8_sheet_52 : decode cX8_sheet 52 = .ok (.iload_n 1, 1) := by decide +kernel
theorem dX8_sheet_53 : decode cX8_sheet 53 = .ok (.iload_n 2, 1) := by decide +kernel
theorem dX8_sheet_54 : decode cX8_sheet 54 = .ok (.ifCond .ge 7, 3) := by decide +kernel
theorem dX8_sheet_57 : decode cX8_sheet 57 = .ok (.iconst 0, 1) := by decide +kernel
theorem dX8_sheet_58 : decode cX8_sheet 58 = .ok (.goto 4, 3) := by decide +kernel
theorem dX8_sheet_61 : decode cX8_sheet 61 = .ok (.iload_n 3, 1) := by decide +kernel
theorem dX8_sheet_62 : decode cX8_sheet 62 = .ok (.iastore, 1) := by decide +kernel
theorem dX8_sheet_63 : decode cX8_sheet 63 = .ok (.iconst 0, 1) := by decide +kernel
theorem dX8_sheet_64 : decode cX8_sheet 64 = .ok (.istore 4, 2) := by decide +kernel
theorem dX8_sheet_66 : decode cX8_sheet 66 = .ok (.iload 4, 2) := by decide +kernel
theorem dX8_sheet_68 : decode cX8_sheet 68 = .ok (.bipush 24, 2) := by decide +kernel
theorem dX8_sheet_70 : decode cX8_sheet 70 = .ok (.if_icmp .ge 22, 3) := by decide +kernel
theorem dX8_sheet_73 : decode cX8_sheet 73 = .ok (.aload_n 0, 1) := by decide +kernel
theorem dX8_sheet_74 : decode cX8_sheet 74 = .ok (.getfield 60, 3) := by decide +kernel
theorem dX8_sheet_77 : decode cX8_sheet 77 = .ok (.bipush 24, 2) := by decide +kernel
theorem dX8_sheet_79 : decode cX8_sheet 79 = .ok (.iload_n 1, 1) := by decide +kernel
theorem dX8_sheet_80 : decode cX8_sheet 80 = .ok (.imul, 1) := by decide +kernel
theorem dX8_sheet_81 : decode cX8_sheet 81 = .ok (.iload 4, 2) := by decide +kernel
theorem dX8_sheet_83 : decode cX8_sheet 83 = .ok (.iadd, 1) := by decide +kernel
theorem dX8_sheet_84 : decode cX8_sheet 84 = .ok (.iconst 0, 1) := by decide +kernel
theorem dX8_sheet_85 : decode cX8_sheet 85 = .ok (.iastore, 1) := by decide +kernel
theorem dX8_sheet_86 : decode cX8_sheet 86 = .ok (.iinc 4 1, 3) := by decide +kernel
theorem dX8_sheet_89 : decode cX8_sheet 89 = .ok (.goto (-23), 3) := by decide +kernel
theorem dX8_sheet_92 : decode cX8_sheet 92 = .ok (.aload_n 0, 1) := by decide +kernel
theorem dX8_sheet_93 : decode cX8_sheet 93 = .ok (.getfield 57, 3) := by decide +kernel
theorem dX8_sheet_96 : decode cX8_sheet 96 = .ok (.iload_n 1, 1) := by decide +kernel
theorem dX8_sheet_97 : decode cX8_sheet 97 = .ok (.iaload, 1) := by decide +kernel
theorem dX8_sheet_98 : decode cX8_sheet 98 = .ok (.ireturn, 1) := by decide +kernel
theorem dX8_mark_0 : decode cX8_mark 0 = .ok (.iload_n 1, 1) := by decide +kernel
theorem dX8_mark_1 : decode cX8_mark 1 = .ok (.invokestatic 197, 3) := by decide +kernel
theorem dX8_mark_4 : decode cX8_mark 4 = .ok (.ifCond .ne 6, 3) := by decide +kernel
theorem dX8_mark_7 : decode cX8_mark 7 = .ok (.ldc 97, 2) := by decide +kernel
theorem dX8_mark_9 : decode cX8_mark 9 = .ok (.ireturn, 1) := by decide +kernel
theorem dX8_mark_10 : decode cX8_mark 10 = .ok (.aload_n 0, 1) := by decide +kernel
theorem dX8_mark_11 : decode cX8_mark 11 = .ok (.getfield 54, 3) := by decide +kernel
theorem dX8_mark_14 : decode cX8_mark 14 = .ok (.iload_n 1, 1) := by decide +kernel
theorem dX8_mark_15 : decode cX8_mark 15 = .ok (.iaload, 1) := by decide +kernel
theorem dX8_mark_16 : decode cX8_mark 16 = .ok (.ifCond .ge 6, 3) := by decide +kernel
theorem dX8_mark_19 : decode cX8_mark 19 = .ok (.ldc 200, 2) := by decide +kernel
theorem dX8_mark_21 : decode cX8_mark 21 = .ok (.ireturn, 1) := by decide +kernel
theorem dX8_mark_22 : decode cX8_mark 22 = .ok (.iload_n 2, 1) := by decide +kernel
theorem dX8_mark_23 : decode cX8_mark 23 = .ok (.iconst 0, 1) := by decide +kernel
theorem dX8_mark_24 : decode cX8_mark 24 = .ok (.aload_n 0, 1) := by decide +kernel
theorem dX8_mark_25 : decode cX8_mark 25 = .ok (.getfield 57, 3) := by decide +kernel
theorem dX8_mark_28 : decode cX8_mark 28 = .ok (.iload_n 1, 1) := by decide +kernel
theorem dX8_mark_29 : decode cX8_mark 29 = .ok (.iaload, 1) := by decide +kernel
theorem dX8_mark_30 : decode cX8_mark 30 = .ok (.iconst 1, 1) := by decide +kernel
theorem dX8_mark_31 : decode cX8_mark 31 = .ok (.isub, 1) := by decide +kernel
theorem dX8_mark_32 : decode cX8_mark 32 = .ok (.invokestatic 81, 3) := by decide +kernel
theorem dX8_mark_35 : decode cX8_mark 35 = .ok (.ifCond .ne 7, 3) := by decide +kernel
theorem dX8_mark_38 : decode cX8_mark 38 = .ok (.ldc_w 290, 3) := by decide +kernel
theorem dX8_mark_41 : decode cX8_mark 41 = .ok (.ireturn, 1) := by decide +kernel
theorem dX8_mark_42 : decode cX8_mark 42 = .ok (.aload_n 0, 1) := by decide +kernel
theorem dX8_mark_43 : decode cX8_mark 43 = .ok (.getfield 54, 3) := by decide +kernel
theorem dX8_mark_46 : decode cX8_mark 46 = .ok (.iload_n 1, 1) := by decide +kernel
theorem dX8_mark_47 : decode cX8_mark 47 = .ok (.iaload, 1) := by decide +kernel
theorem dX8_mark_48 : decode cX8_mark 48 = .ok (.ifCond .ne 12, 3) := by decide +kernel
theorem dX8_mark_51 : decode cX8_mark 51 = .ok (.iload_n 3, 1) := by decide +kernel
theorem dX8_mark_52 : decode cX8_mark 52 = .ok (.ldc 176, 2) := by decide +kernel
theorem dX8_mark_54 : decode cX8_mark 54 = .ok (.if_icmp .ne 6, 3) := by decide +kernel
theorem dX8_mark_57 : decode cX8_mark 57 = .ok (.ldc 136, 2) := by decide +kernel
theorem dX8_mark_59 : decode cX8_mark 59 = .ok (.ireturn, 1) := by decide +kernel
theorem dX8_mark_60 : decode cX8_mark 60 = .ok (.aload_n 0, 1) := by decide +kernel
theorem dX8_mark_61 : decode cX8_mark 61 = .ok (.getfield 54, 3) := by decide +kernel
theorem dX8_mark_64 : decode cX8_mark 64 = .ok (.iload_n 1, 1) := by decide +kernel
theorem dX8_mark_65 : decode cX8_mark 65 = .ok (.iaload, 1) := by decide +kernel
theorem dX8_mark_66 : decode cX8_mark 66 = .ok (.iconst 1, 1) := by decide +kernel
theorem dX8_mark_67 : decode cX8_mark 67 = .ok (.if_icmp .ne 24, 3) := by decide +kernel
theorem dX8_mark_70 : decode cX8_mark 70 = .ok (.iload_n 3, 1) := by decide +kernel
theorem dX8_mark_71 : decode cX8_mark 71 = .ok (.ldc 176, 2) := by decide +kernel
theorem dX8_mark_73 : decode cX8_mark 73 = .ok (.if_icmp .eq 18, 3) := by decide +kernel
theorem dX8_mark_76 : decode cX8_mark 76 = .ok (.iload_n 3, 1) := by decide +kernel
theorem dX8_mark_77 : decode cX8_mark 77 = .ok (.ldc_w 291, 3) := by decide +kernel
theorem dX8_mark_80 : decode cX8_mark 80 = .ok (.ldc 204, 2) := by decide +kernel
theorem dX8_mark_82 : decode cX8_mark 82 = .ok (.invokestatic 81, 3) := by decide +kernel
theorem dX8_mark_85 : decode cX8_mark 85 = .ok (.ifCond .ne 6, 3) := by decide +kernel
theorem dX8_mark_88 : decode cX8_mark 88 = .ok (.ldc 97, 2) := by decide +kernel
theorem dX8_mark_90 : decode cX8_mark 90 = .ok (.ireturn, 1) := by decide +kernel
theorem dX8_mark_91 : decode cX8_mark 91 = .ok (.aload_n 0, 1) := by decide +kernel
theorem dX8_mark_92 : decode cX8_mark 92 = .ok (.getfield 60, 3) := by decide +kernel
theorem dX8_mark_95 : decode cX8_mark 95 = .ok (.bipush 24, 2) := by decide +kernel
theorem dX8_mark_97 : decode cX8_mark 97 = .ok (.iload_n 1, 1) := by decide +kernel
theorem dX8_mark_98 : decode cX8_mark 98 = .ok (.imul, 1) := by decide +kernel
theorem dX8_mark_99 : decode cX8_mark 99 = .ok (.iload_n 2, 1) := by decide +kernel
theorem dX8_mark_100 : decode cX8_mark 100 = .ok (.iadd, 1) := by decide +kernel
theorem dX8_mark_101 : decode cX8_mark 101 = .ok (.aload_n 0, 1) := by decide +kernel
theorem dX8_mark_102 : decode cX8_mark 102 = .ok (.getfield 54, 3) := by decide +kernel
theorem dX8_mark_105 : decode cX8_mark 105 = .ok (.iload_n 1, 1) := by decide +kernel
theorem dX8_mark_106 : decode cX8_mark 106 = .ok (.iaload, 1) := by decide +kernel
theorem dX8_mark_107 : decode cX8_mark 107 = .ok (.ifCond .ne 8, 3) := by decide +kernel
theorem dX8_mark_110 : decode cX8_mark 110 = .ok (.iload_n 3, 1) := by decide +kernel
theorem dX8_mark_111 : decode cX8_mark 111 = .ok (.i2s, 1) := by decide +kernel
theorem dX8_mark_112 : decode cX8_mark 112 = .ok (.goto 4, 3) := by decide +kernel
theorem dX8_mark_115 : decode cX8_mark 115 = .ok (.iload_n 3, 1) := by decide +kernel
theorem dX8_mark_116 : decode cX8_mark 116 = .ok (.iastore, 1) := by decide +kernel
theorem dX8_mark_117 : decode cX8_mark 117 = .ok (.iconst 1, 1) := by decide +kernel
theorem dX8_mark_118 : decode cX8_mark 118 = .ok (.ireturn, 1) := by decide +kernel
theorem dX8_pour_0 : decode cX8_pour 0 = .ok (.iload_n 1, 1) := by decide +kernel
theorem dX8_pour_1 : decode cX8_pour 1 = .ok (.invokestatic 197, 3) := by decide +kernel
theorem dX8_pour_4 : decode cX8_pour 4 = .ok (.ifCond .ne 6, 3) := by decide +kernel
theorem dX8_pour_7 : decode cX8_pour 7 = .ok (.ldc 97, 2) := by decide +kernel
theorem dX8_pour_9 : decode cX8_pour 9 = .ok (.ireturn, 1) := by decide +kernel
theorem dX8_pour_10 : decode cX8_pour 10 = .ok (.aload_n 0, 1) := by decide +kernel
theorem dX8_pour_11 : decode cX8_pour 11 = .ok (.getfield 54, 3) := by decide +kernel
theorem dX8_pour_14 : decode cX8_pour 14 = .ok (.iload_n 1, 1) := by decide +kernel
theorem dX8_pour_15 : decode cX8_pour 15 = .ok (.iaload, 1) := by decide +kernel
theorem dX8_pour_16 : decode cX8_pour 16 = .ok (.ifCond .ge 6, 3) := by decide +kernel
theorem dX8_pour_19 : decode cX8_pour 19 = .ok (.ldc 200, 2) := by decide +kernel
theorem dX8_pour_21 : decode cX8_pour 21 = .ok (.ireturn, 1) := by decide +kernel
theorem dX8_pour_22 : decode cX8_pour 22 = .ok (.iconst 0, 1) := by decide +kernel
theorem dX8_pour_23 : decode cX8_pour 23 = .ok (.istore_n 2, 1) := by decide +kernel
theorem dX8_pour_24 : decode cX8_pour 24 = .ok (.iconst 0, 1) := by decide +kernel
theorem dX8_pour_25 : decode cX8_pour 25 = .ok (.istore_n 3, 1) := by decide +kernel
theorem dX8_pour_26 : decode cX8_pour 26 = .ok (.iload_n 3, 1) := by decide +kernel
theorem dX8_pour_27 : decode cX8_pour 27 = .ok (.aload_n 0, 1) := by decide +kernel
theorem dX8_pour_28 : decode cX8_pour 28 = .ok (.getfield 57, 3) := by decide +kernel
theorem dX8_pour_31 : decode cX8_pour 31 = .ok (.iload_n 1, 1) := by decide +kernel
theorem dX8_pour_32 : decode cX8_pour 32 = .ok (.iaload, 1) := by decide +kernel
theorem dX8_pour_33 : decode cX8_pour 33 = .ok (.if_icmp .ge 85, 3) := by decide +kernel
theorem dX8_pour_36 : decode cX8_pour 36 = .ok (.iload_n 3, 1) := by decide +kernel
theorem dX8_pour_37 : decode cX8_pour 37 = .ok (.aload_n 0, 1) := by decide +kernel
theorem dX8_pour_38 : decode cX8_pour 38 = .ok (.getfield 9, 3) := by decide +kernel
theorem dX8_pour_41 : decode cX8_pour 41 = .ok (.iconst 1, 1) := by decide +kernel
theorem dX8_pour_42 : decode cX8_pour 42 = .ok (.iaload, 1) := by decide +kernel
theorem dX8_pour_43 : decode cX8_pour 43 = .ok (.if_icmp .ge 75, 3) := by decide +kernel
theorem dX8_pour_46 : decode cX8_pour 46 = .ok (.aload_n 0, 1) := by decide +kernel
theorem dX8_pour_47 : decode cX8_pour 47 = .ok (.getfield 60, 3) := by decide +kernel
theorem dX8_pour_50 : decode cX8_pour 50 = .ok (.bipush 24, 2) := by decide +kernel
theorem dX8_pour_52 : decode cX8_pour 52 = .ok (.iload_n 1, 1) := by decide +kernel
theorem dX8_pour_53 : decode cX8_pour 53 = .ok (.imul, 1) := by decide +kernel
theorem dX8_pour_54 : decode cX8_pour 54 = .ok (.iload_n 3, 1) := by decide +kernel
theorem dX8_pour_55 : decode cX8_pour 55 = .ok (.iadd, 1) := by decide +kernel
theorem dX8_pour_56 : decode cX8_pour 56 = .ok (.iaload, 1) := by decide +kernel
theorem dX8_pour_57 : decode cX8_pour 57 = .ok (.istore 4, 2) := by decide +kernel
theorem dX8_pour_59 : decode cX8_pour 59 = .ok (.iload 4, 2) := by decide +kernel
theorem dX8_pour_61 : decode cX8_pour 61 = .ok (.ldc 176, 2) := by decide +kernel
theorem dX8_pour_63 : decode cX8_pour 63 = .ok (.if_icmp .ne 12, 3) := by decide +kernel
theorem dX8_pour_66 : decode cX8_pour 66 = .ok (.aload_n 0, 1) := by decide +kernel
theorem dX8_pour_67 : decode cX8_pour 67 = .ok (.iload_n 3, 1) := by decide +kernel
theorem dX8_pour_68 : decode cX8_pour 68 = .ok (.iconst 2, 1) := by decide +kernel
theorem dX8_pour_69 : decode cX8_pour 69 = .ok (.invokevirtual 103, 3) := by decide +kernel
theorem dX8_pour_72 : decode cX8_pour 72 = .ok (.goto 11, 3) := by decide +kernel
theorem dX8_pour_75 : decode cX8_pour 75 = .ok (.iload 4, 2) := by decide +kernel
theorem dX8_pour_77 : decode cX8_pour 77 = .ok (.iconst 1, 1) := by decide +kernel
theorem dX8_pour_78 : decode cX8_pour 78 = .ok (.bipush 99, 2) := by decide +kernel
theorem dX8_pour_80 : decode cX8_pour 80 = .ok (.invokestatic 107, 3) := by decide +kernel
theorem dX8_pour_83 : decode cX8_pour 83 = .ok (.istore 5, 2) := by decide +kernel
theorem dX8_pour_85 : decode cX8_pour 85 = .ok (.iload_n 2, 1) := by decide +kernel
theorem dX8_pour_86 : decode cX8_pour 86 = .ok (.aload_n 0, 1) := by decide +kernel
theorem dX8_pour_87 : decode cX8_pour 87 = .ok (.bipush 14, 2) := by decide +kernel
theorem dX8_pour_89 : decode cX8_pour 89 = .ok (.iconst 5, 1) := by decide +kernel
theorem dX8_pour_90 : decode cX8_pour 90 = .ok (.iload_n 3, 1) := by decide +kernel
theorem dX8_pour_91 : decode cX8_pour 91 = .ok (.imul, 1) := by decide +kernel
theorem dX8_pour_92 : decode cX8_pour 92 = .ok (.iadd, 1) := by decide +kernel
theorem dX8_pour_93 : decode cX8_pour 93 = .ok (.iconst 2, 1) := by decide +kernel
theorem dX8_pour_94 : decode cX8_pour 94 = .ok (.iadd, 1) := by decide +kernel
theorem dX8_pour_95 : decode cX8_pour 95 = .ok (.iload 5, 2) := by decide +kernel
theorem dX8_pour_97 : decode cX8_pour 97 = .ok (.invokevirtual 137, 3) := by decide +kernel
theorem dX8_pour_100 : decode cX8_pour 100 = .ok (.iload 5, 2) := by decide +kernel
theorem dX8_pour_102 : decode cX8_pour 102 = .ok (.if_icmp .ne 7, 3) := by decide +kernel
theorem dX8_pour_105 : decode cX8_pour 105 = .ok (.iconst 0, 1) := by decide +kernel
theorem dX8_pour_106 : decode cX8_pour 106 = .ok (.goto 4, 3) := by decide +kernel
theorem dX8_pour_109 : decode cX8_pour 109 = .ok (.iconst 1, 1) := by decide +kernel
theorem dX8_pour_110 : decode cX8_pour 110 = .ok (.iadd, 1) := by decide +kernel
theorem dX8_pour_111 : decode cX8_pour 111 = .ok (.istore_n 2, 1) := by decide +kernel
theorem dX8_pour_112 : decode cX8_pour 112 = .ok (.iinc 3 1, 3) := by decide +kernel
theorem dX8_pour_115 : decode cX8_pour 115 = .ok (.goto (-89), 3) := by decide +kernel
theorem dX8_pour_118 : decode cX8_pour 118 = .ok (.iload_n 2, 1) := by decide +kernel
theorem dX8_pour_119 : decode cX8_pour 119 = .ok (.ireturn, 1) := by decide +kernel
theorem dX8_reads_0 : decode cX8_reads 0 = .ok (.iload_n 1, 1) := by decide +kernel
theorem dX8_reads_1 : decode cX8_reads 1 = .ok (.invokestatic 197, 3) := by decide +kernel
theorem dX8_reads_4 : decode cX8_reads 4 = .ok (.ifCond .ne 6, 3) := by decide +kernel
theorem dX8_reads_7 : decode cX8_reads 7 = .ok (.ldc 97, 2) := by decide +kernel
theorem dX8_reads_9 : decode cX8_reads 9 = .ok (.ireturn, 1) := by decide +kernel
theorem dX8_reads_10 : decode cX8_reads 10 = .ok (.aload_n 0, 1) := by decide +kernel
theorem dX8_reads_11 : decode cX8_reads 11 = .ok (.getfield 54, 3) := by decide +kernel
theorem dX8_reads_14 : decode cX8_reads 14 = .ok (.iload_n 1, 1) := by decide +kernel
theorem dX8_reads_15 : decode cX8_reads 15 = .ok (.iaload, 1) := by decide +kernel
theorem dX8_reads_16 : decode cX8_reads 16 = .ok (.ifCond .ge 6, 3) := by decide +kernel
theorem dX8_reads_19 : decode cX8_reads 19 = .ok (.ldc 200, 2) := by decide +kernel
theorem dX8_reads_21 : decode cX8_reads 21 = .ok (.ireturn, 1) := by decide +kernel
theorem dX8_reads_22 : decode cX8_reads 22 = .ok (.iconst 0, 1) := by decide +kernel
theorem dX8_reads_23 : decode cX8_reads 23 = .ok (.istore_n 2, 1) := by decide +kernel
theorem dX8_reads_24 : decode cX8_reads 24 = .ok (.iload_n 2, 1) := by decide +kernel
theorem dX8_reads_25 : decode cX8_reads 25 = .ok (.aload_n 0, 1) := by decide +kernel
theorem dX8_reads_26 : decode cX8_reads 26 = .ok (.getfield 57, 3) := by decide +kernel
theorem dX8_reads_29 : decode cX8_reads 29 = .ok (.iload_n 1, 1) := by decide +kernel
theorem dX8_reads_30 : decode cX8_reads 30 = .ok (.iaload, 1) := by decide +kernel
theorem dX8_reads_31 : decode cX8_reads 31 = .ok (.if_icmp .ge 47, 3) := by decide +kernel
theorem dX8_reads_34 : decode cX8_reads 34 = .ok (.aload_n 0, 1) := by decide +kernel
theorem dX8_reads_35 : decode cX8_reads 35 = .ok (.getfield 60, 3) := by decide +kernel
theorem dX8_reads_38 : decode cX8_reads 38 = .ok (.bipush 24, 2) := by decide +kernel
theorem dX8_reads_40 : decode cX8_reads 40 = .ok (.iload_n 1, 1) := by decide +kernel
theorem dX8_reads_41 : decode cX8_reads 41 = .ok (.imul, 1) := by decide +kernel
theorem dX8_reads_42 : decode cX8_reads 42 = .ok (.iload_n 2, 1) := by decide +kernel
theorem dX8_reads_43 : decode cX8_reads 43 = .ok (.iadd, 1) := by decide +kernel
theorem dX8_reads_44 : decode cX8_reads 44 = .ok (.iaload, 1) := by decide +kernel
theorem dX8_reads_45 : decode cX8_reads 45 = .ok (.istore_n 3, 1) := by decide +kernel
theorem dX8_reads_46 : decode cX8_reads 46 = .ok (.iload_n 3, 1) := by decide +kernel
theorem dX8_reads_47 : decode cX8_reads 47 = .ok (.ldc 176, 2) := by decide +kernel
theorem dX8_reads_49 : decode cX8_reads 49 = .ok (.if_icmp .eq 23, 3) := by decide +kernel
theorem dX8_reads_52 : decode cX8_reads 52 = .ok (.aload_n 0, 1) := by decide +kernel
theorem dX8_reads_53 : decode cX8_reads 53 = .ok (.iload_n 2, 1) := by decide +kernel
theorem dX8_reads_54 : decode cX8_reads 54 = .ok (.invokevirtual 121, 3) := by decide +kernel
theorem dX8_reads_57 : decode cX8_reads 57 = .ok (.ifCond .eq 13, 3) := by decide +kernel
theorem dX8_reads_60 : decode cX8_reads 60 = .ok (.iload_n 3, 1) := by decide +kernel
theorem dX8_reads_61 : decode cX8_reads 61 = .ok (.aload_n 0, 1) := by decide +kernel
theorem dX8_reads_62 : decode cX8_reads 62 = .ok (.iload_n 2, 1) := by decide +kernel
theorem dX8_reads_63 : decode cX8_reads 63 = .ok (.iconst 3, 1) := by decide +kernel
theorem dX8_reads_64 : decode cX8_reads 64 = .ok (.invokevirtual 103, 3) := by decide +kernel
theorem dX8_reads_67 : decode cX8_reads 67 = .ok (.if_icmp .eq 5, 3) := by decide +kernel
theorem dX8_reads_70 : decode cX8_reads 70 = .ok (.iload_n 2, 1) := by decide +kernel
theorem dX8_reads_71 : decode cX8_reads 71 = .ok (.ireturn, 1) := by decide +kernel
theorem dX8_reads_72 : decode cX8_reads 72 = .ok (.iinc 2 1, 3) := by decide +kernel
theorem dX8_reads_75 : decode cX8_reads 75 = .ok (.goto (-51), 3) := by decide +kernel
theorem dX8_reads_78 : decode cX8_reads 78 = .ok (.ldc 176, 2) := by decide +kernel
theorem dX8_reads_80 : decode cX8_reads 80 = .ok (.ireturn, 1) := by decide +kernel
theorem dX8_copy_0 : decode cX8_copy 0 = .ok (.iload_n 1, 1) := by decide +kernel
theorem dX8_copy_1 : decode cX8_copy 1 = .ok (.invokestatic 197, 3) := by decide +kernel
theorem dX8_copy_4 : decode cX8_copy 4 = .ok (.ifCond .eq 10, 3) := by decide +kernel
theorem dX8_copy_7 : decode cX8_copy 7 = .ok (.iload_n 3, 1) := by decide +kernel
theorem dX8_copy_8 : decode cX8_copy 8 = .ok (.invokestatic 197, 3) := by decide +kernel
theorem dX8_copy_11 : decode cX8_copy 11 = .ok (.ifCond .ne 6, 3) := by decide +kernel
theorem dX8_copy_14 : decode cX8_copy 14 = .ok (.ldc 97, 2) := by decide +kernel
theorem dX8_copy_16 : decode cX8_copy 16 = .ok (.ireturn, 1) := by decide +kernel
theorem dX8_copy_17 : decode cX8_copy 17 = .ok (.aload_n 0, 1) := by decide +kernel
theorem dX8_copy_18 : decode cX8_copy 18 = .ok (.getfield 54, 3) := by decide +kernel
theorem dX8_copy_21 : decode cX8_copy 21 = .ok (.iload_n 1, 1) := by decide +kernel
theorem dX8_copy_22 : decode cX8_copy 22 = .ok (.iaload, 1) := by decide +kernel
theorem dX8_copy_23 : decode cX8_copy 23 = .ok (.ifCond .lt 12, 3) := by decide +kernel
theorem dX8_copy_26 : decode cX8_copy 26 = .ok (.aload_n 0, 1) := by decide +kernel
theorem dX8_copy_27 : decode cX8_copy 27 = .ok (.getfield 54, 3) := by decide +kernel
theorem dX8_copy_30 : decode cX8_copy 30 = .ok (.iload_n 3, 1) := by decide +kernel
theorem dX8_copy_31 : decode cX8_copy 31 = .ok (.iaload, 1) := by decide +kernel
theorem dX8_copy_32 : decode cX8_copy 32 = .ok (.ifCond .ge 6, 3) := by decide +kernel
theorem dX8_copy_35 : decode cX8_copy 35 = .ok (.ldc 200, 2) := by decide +kernel
theorem dX8_copy_37 : decode cX8_copy 37 = .ok (.ireturn, 1) := by decide +kernel
theorem dX8_copy_38 : decode cX8_copy 38 = .ok (.aload_n 0, 1) := by decide +kernel
theorem dX8_copy_39 : decode cX8_copy 39 = .ok (.getfield 54, 3) := by decide +kernel
theorem dX8_copy_42 : decode cX8_copy 42 = .ok (.iload_n 1, 1) := by decide +kernel
theorem dX8_copy_43 : decode cX8_copy 43 = .ok (.iaload, 1) := by decide +kernel
theorem dX8_copy_44 : decode cX8_copy 44 = .ok (.aload_n 0, 1) := by decide +kernel
theorem dX8_copy_45 : decode cX8_copy 45 = .ok (.getfield 54, 3) := by decide +kernel
theorem dX8_copy_48 : decode cX8_copy 48 = .ok (.iload_n 3, 1) := by decide +kernel
theorem dX8_copy_49 : decode cX8_copy 49 = .ok (.iaload, 1) := by decide +kernel
theorem dX8_copy_50 : decode cX8_copy 50 = .ok (.if_icmp .eq 6, 3) := by decide +kernel
theorem dX8_copy_53 : decode cX8_copy 53 = .ok (.ldc 136, 2) := by decide +kernel
theorem dX8_copy_55 : decode cX8_copy 55 = .ok (.ireturn, 1) := by decide +kernel
theorem dX8_copy_56 : decode cX8_copy 56 = .ok (.iload_n 2, 1) := by decide +kernel
theorem dX8_copy_57 : decode cX8_copy 57 = .ok (.ifCond .lt 40, 3) := by decide +kernel
theorem dX8_copy_60 : decode cX8_copy 60 = .ok (.iload 4, 2) := by decide +kernel
theorem dX8_copy_62 : decode cX8_copy 62 = .ok (.ifCond .lt 35, 3) := by decide +kernel
theorem dX8_copy_65 : decode cX8_copy 65 = .ok (.iload 5, 2) := by decide +kernel
theorem dX8_copy_67 : decode cX8_copy 67 = .ok (.ifCond .lt 30, 3) := by decide +kernel
theorem dX8_copy_70 : decode cX8_copy 70 = .ok (.iload_n 2, 1) := by decide +kernel
theorem dX8_copy_71 : decode cX8_copy 71 = .ok (.aload_n 0, 1) := by decide +kernel
theorem dX8_copy_72 : decode cX8_copy 72 = .ok (.getfield 57, 3) := by decide +kernel
theorem dX8_copy_75 : decode cX8_copy 75 = .ok (.iload_n 1, 1) := by decide +kernel
theorem dX8_copy_76 : decode cX8_copy 76 = .ok (.iaload, 1) := by decide +kernel
theorem dX8_copy_77 : decode cX8_copy 77 = .ok (.iload 5, 2) := by decide +kernel
theorem dX8_copy_79 : decode cX8_copy 79 = .ok (.isub, 1) := by decide +kernel
theorem dX8_copy_80 : decode cX8_copy 80 = .ok (.if_icmp .gt 17, 3) := by decide +kernel
theorem dX8_copy_83 : decode cX8_copy 83 = .ok (.iload 4, 2) := by decide +kernel
theorem dX8_copy_85 : decode cX8_copy 85 = .ok (.aload_n 0, 1) := by decide +kernel
theorem dX8_copy_86 : decode cX8_copy 86 = .ok (.getfield 57, 3) := by decide +kernel
theorem dX8_copy_89 : decode cX8_copy 89 = .ok (.iload_n 3, 1) := by decide +kernel
theorem dX8_copy_90 : decode cX8_copy 90 = .ok (.iaload, 1) := by decide +kernel
theorem dX8_copy_91 : decode cX8_copy 91 = .ok (.iload 5, 2) := by decide +kernel
theorem dX8_copy_93 : decode cX8_copy 93 = .ok (.isub, 1) := by decide +kernel
theorem dX8_copy_94 : decode cX8_copy 94 = .ok (.if_icmp .le 7, 3) := by decide +kernel
theorem dX8_copy_97 : decode cX8_copy 97 = .ok (.ldc_w 290, 3) := by decide +kernel
theorem dX8_copy_100 : decode cX8_copy 100 = .ok (.ireturn, 1) := by decide +kernel
theorem dX8_copy_101 : decode cX8_copy 101 = .ok (.iconst 0, 1) := by decide +kernel
theorem dX8_copy_102 : decode cX8_copy 102 = .ok (.istore 6, 2) := by decide +kernel
theorem dX8_copy_104 : decode cX8_copy 104 = .ok (.iload 6, 2) := by decide +kernel
theorem dX8_copy_106 : decode cX8_copy 106 = .ok (.iload 5, 2) := by decide +kernel
theorem dX8_copy_108 : decode cX8_copy 108 = .ok (.if_icmp .ge 30, 3) := by decide +kernel
theorem dX8_copy_111 : decode cX8_copy 111 = .ok (.aload_n 0, 1) := by decide +kernel
theorem dX8_copy_112 : decode cX8_copy 112 = .ok (.getfield 75, 3) := by decide +kernel
theorem dX8_copy_115 : decode cX8_copy 115 = .ok (.iload 6, 2) := by decide +kernel
theorem dX8_copy_117 : decode cX8_copy 117 = .ok (.aload_n 0, 1) := by decide +kernel
theorem dX8_copy_118 : decode cX8_copy 118 = .ok (.getfield 60, 3) := by decide +kernel
theorem dX8_copy_121 : decode cX8_copy 121 = .ok (.bipush 24, 2) := by decide +kernel
theorem dX8_copy_123 : decode cX8_copy 123 = .ok (.iload_n 1, 1) := by decide +kernel
theorem dX8_copy_124 : decode cX8_copy 124 = .ok (.imul, 1) := by decide +kernel
theorem dX8_copy_125 : decode cX8_copy 125 = .ok (.iload_n 2, 1) := by decide +kernel
theorem dX8_copy_126 : decode cX8_copy 126 = .ok (.iadd, 1) := by decide +kernel
theorem dX8_copy_127 : decode cX8_copy 127 = .ok (.iload 6, 2) := by decide +kernel
theorem dX8_copy_129 : decode cX8_copy 129 = .ok (.iadd, 1) := by decide +kernel
theorem dX8_copy_130 : decode cX8_copy 130 = .ok (.iaload, 1) := by decide +kernel
theorem dX8_copy_131 : decode cX8_copy 131 = .ok (.iastore, 1) := by decide +kernel
theorem dX8_copy_132 : decode cX8_copy 132 = .ok (.iinc 6 1, 3) := by decide +kernel
theorem dX8_copy_135 : decode cX8_copy 135 = .ok (.goto (-31), 3) := by decide +kernel
theorem dX8_copy_138 : decode cX8_copy 138 = .ok (.iconst 0, 1) := by decide +kernel
theorem dX8_copy_139 : decode cX8_copy 139 = .ok (.istore 6, 2) := by decide +kernel
theorem dX8_copy_141 : decode cX8_copy 141 = .ok (.iload 6, 2) := by decide +kernel
theorem dX8_copy_143 : decode cX8_copy 143 = .ok (.iload 5, 2) := by decide +kernel
theorem dX8_copy_145 : decode cX8_copy 145 = .ok (.if_icmp .ge 31, 3) := by decide +kernel
theorem dX8_copy_148 : decode cX8_copy 148 = .ok (.aload_n 0, 1) := by decide +kernel
theorem dX8_copy_149 : decode cX8_copy 149 = .ok (.getfield 60, 3) := by decide +kernel
theorem dX8_copy_152 : decode cX8_copy 152 = .ok (.bipush 24, 2) := by decide +kernel
theorem dX8_copy_154 : decode cX8_copy 154 = .ok (.iload_n 3, 1) := by decide +kernel
theorem dX8_copy_155 : decode cX8_copy 155 = .ok (.imul, 1) := by decide +kernel
theorem dX8_copy_156 : decode cX8_copy 156 = .ok (.iload 4, 2) := by decide +kernel
theorem dX8_copy_158 : decode cX8_copy 158 = .ok (.iadd, 1) := by decide +kernel
theorem dX8_copy_159 : decode cX8_copy 159 = .ok (.iload 6, 2) := by decide +kernel
theorem dX8_copy_161 : decode cX8_copy 161 = .ok (.iadd, 1) := by decide +kernel
theorem dX8_copy_162 : decode cX8_copy 162 = .ok (.aload_n 0, 1) := by decide +kernel
theorem dX8_copy_163 : decode cX8_copy 163 = .ok (.getfield 75, 3) := by decide +kernel
theorem dX8_copy_166 : decode cX8_copy 166 = .ok (.iload 6, 2) := by decide +kernel
theorem dX8_copy_168 : decode cX8_copy 168 = .ok (.iaload, 1) := by decide +kernel
theorem dX8_copy_169 : decode cX8_copy 169 = .ok (.iastore, 1) := by decide +kernel
theorem dX8_copy_170 : decode cX8_copy 170 = .ok (.iinc 6 1, 3) := by decide +kernel
theorem dX8_copy_173 : decode cX8_copy 173 = .ok (.goto (-32), 3) := by decide +kernel
theorem dX8_copy_176 : decode cX8_copy 176 = .ok (.iload 5, 2) := by decide +kernel
theorem dX8_copy_178 : decode cX8_copy 178 = .ok (.ireturn, 1) := by decide +kernel
theorem dX8_lay_0 : decode cX8_lay 0 = .ok (.iload_n 1, 1) := by decide +kernel
theorem dX8_lay_1 : decode cX8_lay 1 = .ok (.invokestatic 292, 3) := by decide +kernel
theorem dX8_lay_4 : decode cX8_lay 4 = .ok (.ifCond .eq 37, 3) := by decide +kernel
theorem dX8_lay_7 : decode cX8_lay 7 = .ok (.iload_n 2, 1) := by decide +kernel
theorem dX8_lay_8 : decode cX8_lay 8 = .ok (.iconst 0, 1) := by decide +kernel
theorem dX8_lay_9 : decode cX8_lay 9 = .ok (.iconst 3, 1) := by decide +kernel
theorem dX8_lay_10 : decode cX8_lay 10 = .ok (.invokestatic 81, 3) := by decide +kernel
theorem dX8_lay_13 : decode cX8_lay 13 = .ok (.ifCond .eq 28, 3) := by decide +kernel
theorem dX8_lay_16 : decode cX8_lay 16 = .ok (.iload_n 2, 1) := by decide +kernel
theorem dX8_lay_17 : decode cX8_lay 17 = .ok (.iconst 1, 1) := by decide +kernel
theorem dX8_lay_18 : decode cX8_lay 18 = .ok (.if_icmp .ne 11, 3) := by decide +kernel
theorem dX8_lay_21 : decode cX8_lay 21 = .ok (.aload_n 0, 1) := by decide +kernel
theorem dX8_lay_22 : decode cX8_lay 22 = .ok (.iload_n 3, 1) := by decide +kernel
theorem dX8_lay_23 : decode cX8_lay 23 = .ok (.invokevirtual 121, 3) := by decide +kernel
theorem dX8_lay_26 : decode cX8_lay 26 = .ok (.ifCond .eq 15, 3) := by decide +kernel
theorem dX8_lay_29 : decode cX8_lay 29 = .ok (.iload_n 2, 1) := by decide +kernel
theorem dX8_lay_30 : decode cX8_lay 30 = .ok (.iconst 2, 1) := by decide +kernel
theorem dX8_lay_31 : decode cX8_lay 31 = .ok (.if_icmp .ne 13, 3) := by decide +kernel
theorem dX8_lay_34 : decode cX8_lay 34 = .ok (.iload_n 3, 1) := by decide +kernel
theorem dX8_lay_35 : decode cX8_lay 35 = .ok (.invokestatic 197, 3) := by decide +kernel
theorem dX8_lay_38 : decode cX8_lay 38 = .ok (.ifCond .ne 6, 3) := by decide +kernel
theorem dX8_lay_41 : decode cX8_lay 41 = .ok (.ldc 97, 2) := by decide +kernel
theorem dX8_lay_43 : decode cX8_lay 43 = .ok (.ireturn, 1) := by decide +kernel
theorem dX8_lay_44 : decode cX8_lay 44 = .ok (.iload_n 2, 1) := by decide +kernel
theorem dX8_lay_45 : decode cX8_lay 45 = .ok (.iconst 2, 1) := by decide +kernel
theorem dX8_lay_46 : decode cX8_lay 46 = .ok (.if_icmp .ne 15, 3) := by decide +kernel
theorem dX8_lay_49 : decode cX8_lay 49 = .ok (.aload_n 0, 1) := by decide +kernel
theorem dX8_lay_50 : decode cX8_lay 50 = .ok (.getfield 54, 3) := by decide +kernel
theorem dX8_lay_53 : decode cX8_lay 53 = .ok (.iload_n 3, 1) := by decide +kernel
theorem dX8_lay_54 : decode cX8_lay 54 = .ok (.iaload, 1) := by decide +kernel
theorem dX8_lay_55 : decode cX8_lay 55 = .ok (.ifCond .ge 6, 3) := by decide +kernel
theorem dX8_lay_58 : decode cX8_lay 58 = .ok (.ldc 200, 2) := by decide +kernel
theorem dX8_lay_60 : decode cX8_lay 60 = .ok (.ireturn, 1) := by decide +kernel
theorem dX8_lay_61 : decode cX8_lay 61 = .ok (.aload_n 0, 1) := by decide +kernel
theorem dX8_lay_62 : decode cX8_lay 62 = .ok (.getfield 63, 3) := by decide +kernel
theorem dX8_lay_65 : decode cX8_lay 65 = .ok (.iload_n 1, 1) := by decide +kernel
theorem dX8_lay_66 : decode cX8_lay 66 = .ok (.iaload, 1) := by decide +kernel
theorem dX8_lay_67 : decode cX8_lay 67 = .ok (.istore 4, 2) := by decide +kernel
theorem dX8_lay_69 : decode cX8_lay 69 = .ok (.aload_n 0, 1) := by decide +kernel
theorem dX8_lay_70 : decode cX8_lay 70 = .ok (.getfield 63, 3) := by decide +kernel
theorem dX8_lay_73 : decode cX8_lay 73 = .ok (.iload_n 1, 1) := by decide +kernel
theorem dX8_lay_74 : decode cX8_lay 74 = .ok (.iload_n 2, 1) := by decide +kernel
theorem dX8_lay_75 : decode cX8_lay 75 = .ok (.iastore, 1) := by decide +kernel
theorem dX8_lay_76 : decode cX8_lay 76 = .ok (.aload_n 0, 1) := by decide +kernel
theorem dX8_lay_77 : decode cX8_lay 77 = .ok (.getfield 66, 3) := by decide +kernel
theorem dX8_lay_80 : decode cX8_lay 80 = .ok (.iload_n 1, 1) := by decide +kernel
theorem dX8_lay_81 : decode cX8_lay 81 = .ok (.iload_n 2, 1) := by decide +kernel
theorem dX8_lay_82 : decode cX8_lay 82 = .ok (.iconst 1, 1) := by decide +kernel
theorem dX8_lay_83 : decode cX8_lay 83 = .ok (.if_icmp .ne 12, 3) := by decide +kernel
theorem dX8_lay_86 : decode cX8_lay 86 = .ok (.aload_n 0, 1) := by decide +kernel
theorem dX8_lay_87 : decode cX8_lay 87 = .ok (.iload_n 3, 1) := by decide +kernel
theorem dX8_lay_88 : decode cX8_lay 88 = .ok (.iconst 0, 1) := by decide +kernel
theorem dX8_lay_89 : decode cX8_lay 89 = .ok (.invokevirtual 103, 3) := by decide +kernel
theorem dX8_lay_92 : decode cX8_lay 92 = .ok (.goto 18, 3) := by decide +kernel
theorem dX8_lay_95 : decode cX8_lay 95 = .ok (.iload_n 2, 1) := by decide +kernel
theorem dX8_lay_96 : decode cX8_lay 96 = .ok (.iconst 2, 1) := by decide +kernel
theorem dX8_lay_97 : decode cX8_lay 97 = .ok (.if_icmp .ne 12, 3) := by decide +kernel
theorem dX8_lay_100 : decode cX8_lay 100 = .ok (.aload_n 0, 1) := by decide +kernel
theorem dX8_lay_101 : decode cX8_lay 101 = .ok (.getfield 57, 3) := by decide +kernel
theorem dX8_lay_104 : decode cX8_lay 104 = .ok (.iload_n 3, 1) := by decide +kernel
theorem dX8_lay_105 : decode cX8_lay 105 = .ok (.iaload, 1) := by decide +kernel
theorem dX8_lay_106 : decode cX8_lay 106 = .ok (.goto 4, 3) := by decide +kernel
theorem dX8_lay_109 : decode cX8_lay 109 = .ok (.iload_n 3, 1) := by decide +kernel
theorem dX8_lay_110 : decode cX8_lay 110 = .ok (.iastore, 1) := by decide +kernel
theorem dX8_lay_111 : decode cX8_lay 111 = .ok (.aload_n 0, 1) := by decide +kernel
theorem dX8_lay_112 : decode cX8_lay 112 = .ok (.getfield 69, 3) := by decide +kernel
theorem dX8_lay_115 : decode cX8_lay 115 = .ok (.iload_n 1, 1) := by decide +kernel
theorem dX8_lay_116 : decode cX8_lay 116 = .ok (.iload_n 2, 1) := by decide +kernel
theorem dX8_lay_117 : decode cX8_lay 117 = .ok (.iconst 1, 1) := by decide +kernel
theorem dX8_lay_118 : decode cX8_lay 118 = .ok (.if_icmp .ne 11, 3) := by decide +kernel
theorem dX8_lay_121 : decode cX8_lay 121 = .ok (.aload_n 0, 1) := by decide +kernel
theorem dX8_lay_122 : decode cX8_lay 122 = .ok (.iload_n 3, 1) := by decide +kernel
theorem dX8_lay_123 : decode cX8_lay 123 = .ok (.invokevirtual 130, 3) := by decide +kernel
theorem dX8_lay_126 : decode cX8_lay 126 = .ok (.goto 4, 3) := by decide +kernel
theorem dX8_lay_129 : decode cX8_lay 129 = .ok (.iconst 0, 1) := by decide +kernel
theorem dX8_lay_130 : decode cX8_lay 130 = .ok (.iastore, 1) := by decide +kernel
theorem dX8_lay_131 : decode cX8_lay 131 = .ok (.iconst 0, 1) := by decide +kernel
theorem dX8_lay_132 : decode cX8_lay 132 = .ok (.istore 5, 2) := by decide +kernel
theorem dX8_lay_134 : decode cX8_lay 134 = .ok (.iload 5, 2) := by decide +kernel
theorem dX8_lay_136 : decode cX8_lay 136 = .ok (.bipush 24, 2) := by decide +kernel
theorem dX8_lay_138 : decode cX8_lay 138 = .ok (.if_icmp .ge 38, 3) := by decide +kernel
theorem dX8_lay_141 : decode cX8_lay 141 = .ok (.iload_n 2, 1) := by decide +kernel
theorem dX8_lay_142 : decode cX8_lay 142 = .ok (.iconst 2, 1) := by decide +kernel
theorem dX8_lay_143 : decode cX8_lay 143 = .ok (.if_icmp .ne 33, 3) := by decide +kernel
theorem dX8_lay_146 : decode cX8_lay 146 = .ok (.aload_n 0, 1) := by decide +kernel
theorem dX8_lay_147 : decode cX8_lay 147 = .ok (.getfield 72, 3) := by decide +kernel
theorem dX8_lay_150 : decode cX8_lay 150 = .ok (.bipush 24, 2) := by decide +kernel
theorem dX8_lay_152 : decode cX8_lay 152 = .ok (.iload_n 1, 1) := by decide +kernel
theorem dX8_lay_153 : decode cX8_lay 153 = .ok (.imul, 1) := by decide +kernel
theorem dX8_lay_154 : decode cX8_lay 154 = .ok (.iload 5, 2) := by decide +kernel
theorem dX8_lay_156 : decode cX8_lay 156 = .ok (.iadd, 1) := by decide +kernel
theorem dX8_lay_157 : decode cX8_lay 157 = .ok (.aload_n 0, 1) := by decide +kernel
theorem dX8_lay_158 : decode cX8_lay 158 = .ok (.getfield 60, 3) := by decide +kernel
theorem dX8_lay_161 : decode cX8_lay 161 = .ok (.bipush 24, 2) := by decide +kernel
theorem dX8_lay_163 : decode cX8_lay 163 = .ok (.iload_n 3, 1) := by decide +kernel
theorem dX8_lay_164 : decode cX8_lay 164 = .ok (.imul, 1) := by decide +kernel
theorem dX8_lay_165 : decode cX8_lay 165 = .ok (.iload 5, 2) := by decide +kernel
theorem dX8_lay_167 : decode cX8_lay 167 = .ok (.iadd, 1) := by decide +kernel
theorem dX8_lay_168 : decode cX8_lay 168 = .ok (.iaload, 1) := by decide +kernel
theorem dX8_lay_169 : decode cX8_lay 169 = .ok (.iastore, 1) := by decide +kernel
theorem dX8_lay_170 : decode cX8_lay 170 = .ok (.iinc 5 1, 3) := by decide +kernel
theorem dX8_lay_173 : decode cX8_lay 173 = .ok (.goto (-39), 3) := by decide +kernel
theorem dX8_lay_176 : decode cX8_lay 176 = .ok (.iload 4, 2) := by decide +kernel
theorem dX8_lay_178 : decode cX8_lay 178 = .ok (.ireturn, 1) := by decide +kernel
theorem dX8_ask_0 : decode cX8_ask 0 = .ok (.iload_n 1, 1) := by decide +kernel
theorem dX8_ask_1 : decode cX8_ask 1 = .ok (.invokestatic 292, 3) := by decide +kernel
theorem dX8_ask_4 : decode cX8_ask 4 = .ok (.ifCond .eq 12, 3) := by decide +kernel
theorem dX8_ask_7 : decode cX8_ask 7 = .ok (.iload_n 2, 1) := by decide +kernel
theorem dX8_ask_8 : decode cX8_ask 8 = .ok (.iconst 0, 1) := by decide +kernel
theorem dX8_ask_9 : decode cX8_ask 9 = .ok (.iconst 5, 1) := by decide +kernel
theorem dX8_ask_10 : decode cX8_ask 10 = .ok (.invokestatic 81, 3) := by decide +kernel
theorem dX8_ask_13 : decode cX8_ask 13 = .ok (.ifCond .ne 6, 3) := by decide +kernel
theorem dX8_ask_16 : decode cX8_ask 16 = .ok (.ldc 97, 2) := by decide +kernel
theorem dX8_ask_18 : decode cX8_ask 18 = .ok (.ireturn, 1) := by decide +kernel
theorem dX8_ask_19 : decode cX8_ask 19 = .ok (.aload_n 0, 1) := by decide +kernel
theorem dX8_ask_20 : decode cX8_ask 20 = .ok (.getfield 63, 3) := by decide +kernel
theorem dX8_ask_23 : decode cX8_ask 23 = .ok (.iload_n 1, 1) := by decide +kernel
theorem dX8_ask_24 : decode cX8_ask 24 = .ok (.iaload, 1) := by decide +kernel
theorem dX8_ask_25 : decode cX8_ask 25 = .ok (.ifCond .ne 6, 3) := by decide +kernel
theorem dX8_ask_28 : decode cX8_ask 28 = .ok (.ldc 200, 2) := by decide +kernel
theorem dX8_ask_30 : decode cX8_ask 30 = .ok (.ireturn, 1) := by decide +kernel
theorem dX8_ask_31 : decode cX8_ask 31 = .ok (.aload_n 0, 1) := by decide +kernel
theorem dX8_ask_32 : decode cX8_ask 32 = .ok (.getfield 63, 3) := by decide +kernel
theorem dX8_ask_35 : decode cX8_ask 35 = .ok (.iload_n 1, 1) := by decide +kernel
theorem dX8_ask_36 : decode cX8_ask 36 = .ok (.iaload, 1) := by decide +kernel
theorem dX8_ask_37 : decode cX8_ask 37 = .ok (.iconst 1, 1) := by decide +kernel
theorem dX8_ask_38 : decode cX8_ask 38 = .ok (.if_icmp .ne 25, 3) := by decide +kernel
theorem dX8_ask_41 : decode cX8_ask 41 = .ok (.aload_n 0, 1) := by decide +kernel
theorem dX8_ask_42 : decode cX8_ask 42 = .ok (.getfield 66, 3) := by decide +kernel
theorem dX8_ask_45 : decode cX8_ask 45 = .ok (.iload_n 1, 1) := by decide +kernel
theorem dX8_ask_46 : decode cX8_ask 46 = .ok (.iaload, 1) := by decide +kernel
theorem dX8_ask_47 : decode cX8_ask 47 = .ok (.iload_n 2, 1) := by decide +kernel
theorem dX8_ask_48 : decode cX8_ask 48 = .ok (.invokestatic 133, 3) := by decide +kernel
theorem dX8_ask_51 : decode cX8_ask 51 = .ok (.ifCond .eq 12, 3) := by decide +kernel
theorem dX8_ask_54 : decode cX8_ask 54 = .ok (.aload_n 0, 1) := by decide +kernel
theorem dX8_ask_55 : decode cX8_ask 55 = .ok (.getfield 69, 3) := by decide +kernel
theorem dX8_ask_58 : decode cX8_ask 58 = .ok (.iload_n 1, 1) := by decide +kernel
theorem dX8_ask_59 : decode cX8_ask 59 = .ok (.iaload, 1) := by decide +kernel
theorem dX8_ask_60 : decode cX8_ask 60 = .ok (.goto 5, 3) := by decide +kernel
theorem dX8_ask_63 : decode cX8_ask 63 = .ok (.ldc 136, 2) := by decide +kernel
theorem dX8_ask_65 : decode cX8_ask 65 = .ok (.ireturn, 1) := by decide +kernel
theorem dX8_item_0 : decode cX8_item 0 = .ok (.iload_n 1, 1) := by decide +kernel
theorem dX8_item_1 : decode cX8_item 1 = .ok (.invokestatic 292, 3) := by decide +kernel
theorem dX8_item_4 : decode cX8_item 4 = .ok (.ifCond .ne 6, 3) := by decide +kernel
theorem dX8_item_7 : decode cX8_item 7 = .ok (.ldc 97, 2) := by decide +kernel
theorem dX8_item_9 : decode cX8_item 9 = .ok (.ireturn, 1) := by decide +kernel
theorem dX8_item_10 : decode cX8_item 10 = .ok (.aload_n 0, 1) := by decide +kernel
theorem dX8_item_11 : decode cX8_item 11 = .ok (.getfield 63, 3) := by decide +kernel
theorem dX8_item_14 : decode cX8_item 14 = .ok (.iload_n 1, 1) := by decide +kernel
theorem dX8_item_15 : decode cX8_item 15 = .ok (.iaload, 1) := by decide +kernel
theorem dX8_item_16 : decode cX8_item 16 = .ok (.ifCond .ne 6, 3) := by decide +kernel
theorem dX8_item_19 : decode cX8_item 19 = .ok (.ldc 200, 2) := by decide +kernel
theorem dX8_item_21 : decode cX8_item 21 = .ok (.ireturn, 1) := by decide +kernel
theorem dX8_item_22 : decode cX8_item 22 = .ok (.aload_n 0, 1) := by decide +kernel
theorem dX8_item_23 : decode cX8_item 23 = .ok (.getfield 63, 3) := by decide +kernel
theorem dX8_item_26 : decode cX8_item 26 = .ok (.iload_n 1, 1) := by decide +kernel
theorem dX8_item_27 : decode cX8_item 27 = .ok (.iaload, 1) := by decide +kernel
theorem dX8_item_28 : decode cX8_item 28 = .ok (.iconst 2, 1) := by decide +kernel
theorem dX8_item_29 : decode cX8_item 29 = .ok (.if_icmp .eq 6, 3) := by decide +kernel
theorem dX8_item_32 : decode cX8_item 32 = .ok (.ldc 136, 2) := by decide +kernel
theorem dX8_item_34 : decode cX8_item 34 = .ok (.ireturn, 1) := by decide +kernel
theorem dX8_item_35 : decode cX8_item 35 = .ok (.iload_n 2, 1) := by decide +kernel
theorem dX8_item_36 : decode cX8_item 36 = .ok (.iconst 0, 1) := by decide +kernel
theorem dX8_item_37 : decode cX8_item 37 = .ok (.aload_n 0, 1) := by decide +kernel
theorem dX8_item_38 : decode cX8_item 38 = .ok (.getfield 66, 3) := by decide +kernel
theorem dX8_item_41 : decode cX8_item 41 = .ok (.iload_n 1, 1) := by decide +kernel
theorem dX8_item_42 : decode cX8_item 42 = .ok (.iaload, 1) := by decide +kernel
theorem dX8_item_43 : decode cX8_item 43 = .ok (.iconst 1, 1) := by decide +kernel
theorem dX8_item_44 : decode cX8_item 44 = .ok (.isub, 1) := by decide +kernel
theorem dX8_item_45 : decode cX8_item 45 = .ok (.invokestatic 81, 3) := by decide +kernel
theorem dX8_item_48 : decode cX8_item 48 = .ok (.ifCond .ne 7, 3) := by decide +kernel
theorem dX8_item_51 : decode cX8_item 51 = .ok (.ldc_w 290, 3) := by decide +kernel
theorem dX8_item_54 : decode cX8_item 54 = .ok (.ireturn, 1) := by decide +kernel
theorem dX8_item_55 : decode cX8_item 55 = .ok (.aload_n 0, 1) := by decide +kernel
theorem dX8_item_56 : decode cX8_item 56 = .ok (.getfield 72, 3) := by decide +kernel
theorem dX8_item_59 : decode cX8_item 59 = .ok (.bipush 24, 2) := by decide +kernel
theorem dX8_item_61 : decode cX8_item 61 = .ok (.iload_n 1, 1) := by decide +kernel
theorem dX8_item_62 : decode cX8_item 62 = .ok (.imul, 1) := by decide +kernel
theorem dX8_item_63 : decode cX8_item 63 = .ok (.iload_n 2, 1) := by decide +kernel
theorem dX8_item_64 : decode cX8_item 64 = .ok (.iadd, 1) := by decide +kernel
theorem dX8_item_65 : decode cX8_item 65 = .ok (.iaload, 1) := by decide +kernel
theorem dX8_item_66 : decode cX8_item 66 = .ok (.istore_n 3, 1) := by decide +kernel
theorem dX8_item_67 : decode cX8_item 67 = .ok (.iload_n 3, 1) := by decide +kernel
theorem dX8_item_68 : decode cX8_item 68 = .ok (.ldc 176, 2) := by decide +kernel
theorem dX8_item_70 : decode cX8_item 70 = .ok (.if_icmp .ne 8, 3) := by decide +kernel
theorem dX8_item_73 : decode cX8_item 73 = .ok (.ldc 136, 2) := by decide +kernel
theorem dX8_item_75 : decode cX8_item 75 = .ok (.goto 4, 3) := by decide +kernel
theorem dX8_item_78 : decode cX8_item 78 = .ok (.iload_n 3, 1) := by decide +kernel
theorem dX8_item_79 : decode cX8_item 79 = .ok (.ireturn, 1) := by decide +kernel
theorem dX8_rest_0 : decode cX8_rest 0 = .ok (.iload_n 1, 1) := by decide +kernel
theorem dX8_rest_1 : decode cX8_rest 1 = .ok (.invokestatic 292, 3) := by decide +kernel
theorem dX8_rest_4 : decode cX8_rest 4 = .ok (.ifCond .ne 6, 3) := by decide +kernel
theorem dX8_rest_7 : decode cX8_rest 7 = .ok (.ldc 97, 2) := by decide +kernel
theorem dX8_rest_9 : decode cX8_rest 9 = .ok (.ireturn, 1) := by decide +kernel
theorem dX8_rest_10 : decode cX8_rest 10 = .ok (.aload_n 0, 1) := by decide +kernel
theorem dX8_rest_11 : decode cX8_rest 11 = .ok (.getfield 63, 3) := by decide +kernel
theorem dX8_rest_14 : decode cX8_rest 14 = .ok (.iload_n 1, 1) := by decide +kernel
theorem dX8_rest_15 : decode cX8_rest 15 = .ok (.iaload, 1) := by decide +kernel
theorem dX8_rest_16 : decode cX8_rest 16 = .ok (.ifCond .ne 6, 3) := by decide +kernel
theorem dX8_rest_19 : decode cX8_rest 19 = .ok (.ldc 200, 2) := by decide +kernel
theorem dX8_rest_21 : decode cX8_rest 21 = .ok (.ireturn, 1) := by decide +kernel
theorem dX8_rest_22 : decode cX8_rest 22 = .ok (.aload_n 0, 1) := by decide +kernel
theorem dX8_rest_23 : decode cX8_rest 23 = .ok (.getfield 63, 3) := by decide +kernel
theorem dX8_rest_26 : decode cX8_rest 26 = .ok (.iload_n 1, 1) := by decide +kernel
theorem dX8_rest_27 : decode cX8_rest 27 = .ok (.iaload, 1) := by decide +kernel
theorem dX8_rest_28 : decode cX8_rest 28 = .ok (.iconst 3, 1) := by decide +kernel
theorem dX8_rest_29 : decode cX8_rest 29 = .ok (.if_icmp .eq 6, 3) := by decide +kernel
theorem dX8_rest_32 : decode cX8_rest 32 = .ok (.ldc 136, 2) := by decide +kernel
theorem dX8_rest_34 : decode cX8_rest 34 = .ok (.ireturn, 1) := by decide +kernel
theorem dX8_rest_35 : decode cX8_rest 35 = .ok (.iload_n 2, 1) := by decide +kernel
theorem dX8_rest_36 : decode cX8_rest 36 = .ok (.ifCond .ne 8, 3) := by decide +kernel
theorem dX8_rest_39 : decode cX8_rest 39 = .ok (.ldc 154, 2) := by decide +kernel
theorem dX8_rest_41 : decode cX8_rest 41 = .ok (.goto 20, 3) := by decide +kernel
theorem dX8_rest_44 : decode cX8_rest 44 = .ok (.iload_n 2, 1) := by decide +kernel
theorem dX8_rest_45 : decode cX8_rest 45 = .ok (.iconst (-1), 1) := by decide +kernel
theorem dX8_rest_46 : decode cX8_rest 46 = .ok (.if_icmp .ne 7, 3) := by decide +kernel
theorem dX8_rest_49 : decode cX8_rest 49 = .ok (.iconst 0, 1) := by decide +kernel
theorem dX8_rest_50 : decode cX8_rest 50 = .ok (.goto 11, 3) := by decide +kernel
theorem dX8_rest_53 : decode cX8_rest 53 = .ok (.aload_n 0, 1) := by decide +kernel
theorem dX8_rest_54 : decode cX8_rest 54 = .ok (.getfield 66, 3) := by decide +kernel
theorem dX8_rest_57 : decode cX8_rest 57 = .ok (.iload_n 1, 1) := by decide +kernel
theorem dX8_rest_58 : decode cX8_rest 58 = .ok (.iaload, 1) := by decide +kernel
theorem dX8_rest_59 : decode cX8_rest 59 = .ok (.iload_n 2, 1) := by decide +kernel
theorem dX8_rest_60 : decode cX8_rest 60 = .ok (.irem, 1) := by decide +kernel
theorem dX8_rest_61 : decode cX8_rest 61 = .ok (.ireturn, 1) := by decide +kernel
theorem dX8_tell_0 : decode cX8_tell 0 = .ok (.aload_n 0, 1) := by decide +kernel
theorem dX8_tell_1 : decode cX8_tell 1 = .ok (.getfield 295, 3) := by decide +kernel
theorem dX8_tell_4 : decode cX8_tell 4 = .ok (.bipush 60, 2) := by decide +kernel
theorem dX8_tell_6 : decode cX8_tell 6 = .ok (.if_icmp .ne 6, 3) := by decide +kernel
theorem dX8_tell_9 : decode cX8_tell 9 = .ok (.ldc 98, 2) := by decide +kernel
theorem dX8_tell_11 : decode cX8_tell 11 = .ok (.ireturn, 1) := by decide +kernel
theorem dX8_tell_12 : decode cX8_tell 12 = .ok (.aload_n 0, 1) := by decide +kernel
theorem dX8_tell_13 : decode cX8_tell 13 = .ok (.getfield 78, 3) := by decide +kernel
theorem dX8_tell_16 : decode cX8_tell 16 = .ok (.aload_n 0, 1) := by decide +kernel
theorem dX8_tell_17 : decode cX8_tell 17 = .ok (.getfield 295, 3) := by decide +kernel
theorem dX8_tell_20 : decode cX8_tell 20 = .ok (.iload_n 1, 1) := by decide +kernel
theorem dX8_tell_21 : decode cX8_tell 21 = .ok (.iastore, 1) := by decide +kernel
theorem dX8_tell_22 : decode cX8_tell 22 = .ok (.aload_n 0, 1) := by decide +kernel
theorem dX8_tell_23 : decode cX8_tell 23 = .ok (.dup, 1) := by decide +kernel
theorem dX8_tell_24 : decode cX8_tell 24 = .ok (.getfield 295, 3) := by decide +kernel
theorem dX8_tell_27 : decode cX8_tell 27 = .ok (.iconst 1, 1) := by decide +kernel
theorem dX8_tell_28 : decode cX8_tell 28 = .ok (.iadd, 1) := by decide +kernel
theorem dX8_tell_29 : decode cX8_tell 29 = .ok (.putfield 295, 3) := by decide +kernel
theorem dX8_tell_32 : decode cX8_tell 32 = .ok (.aload_n 0, 1) := by decide +kernel
theorem dX8_tell_33 : decode cX8_tell 33 = .ok (.getfield 295, 3) := by decide +kernel
theorem dX8_tell_36 : decode cX8_tell 36 = .ok (.ireturn, 1) := by decide +kernel
theorem dX8_check_0 : decode cX8_check 0 = .ok (.aload_n 0, 1) := by decide +kernel
theorem dX8_check_1 : decode cX8_check 1 = .ok (.getfield 295, 3) := by decide +kernel
theorem dX8_check_4 : decode cX8_check 4 = .ok (.istore_n 2, 1) := by decide +kernel
theorem dX8_check_5 : decode cX8_check 5 = .ok (.aload_n 0, 1) := by decide +kernel
theorem dX8_check_6 : decode cX8_check 6 = .ok (.iconst 0, 1) := by decide +kernel
theorem dX8_check_7 : decode cX8_check 7 = .ok (.putfield 295, 3) := by decide +kernel
theorem dX8_check_10 : decode cX8_check 10 = .ok (.iload_n 1, 1) := by decide +kernel
theorem dX8_check_11 : decode cX8_check 11 = .ok (.iconst 1, 1) := by decide +kernel
theorem dX8_check_12 : decode cX8_check 12 = .ok (.bipush 30, 2) := by decide +kernel
theorem dX8_check_14 : decode cX8_check 14 = .ok (.invokestatic 81, 3) := by decide +kernel
theorem dX8_check_17 : decode cX8_check 17 = .ok (.ifCond .ne 6, 3) := by decide +kernel
theorem dX8_check_20 : decode cX8_check 20 = .ok (.ldc 97, 2) := by decide +kernel
theorem dX8_check_22 : decode cX8_check 22 = .ok (.ireturn, 1) := by decide +kernel
theorem dX8_check_23 : decode cX8_check 23 = .ok (.aload_n 0, 1) := by decide +kernel
theorem dX8_check_24 : decode cX8_check 24 = .ok (.getfield 298, 3) := by decide +kernel
theorem dX8_check_27 : decode cX8_check 27 = .ok (.ifCond .ne 6, 3) := by decide +kernel
theorem dX8_check_30 : decode cX8_check 30 = .ok (.ldc 154, 2) := by decide +kernel
theorem dX8_check_32 : decode cX8_check 32 = .ok (.ireturn, 1) := by decide +kernel
theorem dX8_check_33 : decode cX8_check 33 = .ok (.aload_n 0, 1) := by decide +kernel
theorem dX8_check_34 : decode cX8_check 34 = .ok (.getfield 9, 3) := by decide +kernel
theorem dX8_check_37 : decode cX8_check 37 = .ok (.aload_n 0, 1) := by decide +kernel
theorem dX8_check_38 : decode cX8_check 38 = .ok (.getfield 16, 3) := by decide +kernel
theorem dX8_check_41 : decode cX8_check 41 = .ok (.invokestatic 302, 3) := by decide +kernel
theorem dX8_check_44 : decode cX8_check 44 = .ok (.aload_n 0, 1) := by decide +kernel
theorem dX8_check_45 : decode cX8_check 45 = .ok (.getfield 13, 3) := by decide +kernel
theorem dX8_check_48 : decode cX8_check 48 = .ok (.aload_n 0, 1) := by decide +kernel
theorem dX8_check_49 : decode cX8_check 49 = .ok (.getfield 9, 3) := by decide +kernel
theorem dX8_check_52 : decode cX8_check 52 = .ok (.invokestatic 302, 3) := by decide +kernel
theorem dX8_check_55 : decode cX8_check 55 = .ok (.iconst 2, 1) := by decide +kernel
theorem dX8_check_56 : decode cX8_check 56 = .ok (.sipush 9999, 3) := by decide +kernel
theorem dX8_check_59 : decode cX8_check 59 = .ok (.aload_n 0, 1) := by decide +kernel
theorem dX8_check_60 : decode cX8_check 60 = .ok (.getfield 9, 3) := by decide +kernel
theorem dX8_check_63 : decode cX8_check 63 = .ok (.iconst 2, 1) := by decide +kernel
theorem dX8_check_64 : decode cX8_check 64 = .ok (.iaload, 1) := by decide +kernel
theorem dX8_check_65 : decode cX8_check 65 = .ok (.isub, 1) := by decide +kernel
theorem dX8_check_66 : decode cX8_check 66 = .ok (.iconst 0, 1) := by decide +kernel
theorem dX8_check_67 : decode cX8_check 67 = .ok (.iload_n 1, 1) := by decide +kernel
theorem dX8_check_68 : decode cX8_check 68 = .ok (.invokestatic 107, 3) := by decide +kernel
theorem dX8_check_71 : decode cX8_check 71 = .ok (.imul, 1) := by decide +kernel
theorem dX8_check_72 : decode cX8_check 72 = .ok (.istore_n 3, 1) := by decide +kernel
theorem dX8_check_73 : decode cX8_check 73 = .ok (.iconst 0, 1) := by decide +kernel
theorem dX8_check_74 : decode cX8_check 74 = .ok (.istore 4, 2) := by decide +kernel
theorem dX8_check_76 : decode cX8_check 76 = .ok (.iconst 0, 1) := by decide +kernel
theorem dX8_check_77 : decode cX8_check 77 = .ok (.istore 5, 2) := by decide +kernel
theorem dX8_check_79 : decode cX8_check 79 = .ok (.iconst 2, 1) := by decide +kernel
theorem dX8_check_80 : decode cX8_check 80 = .ok (.iload 5, 2) := by decide +kernel
theorem dX8_check_82 : decode cX8_check 82 = .ok (.imul, 1) := by decide +kernel
theorem dX8_check_83 : decode cX8_check 83 = .ok (.iload_n 3, 1) := by decide +kernel
theorem dX8_check_84 : decode cX8_check 84 = .ok (.if_icmp .ge 96, 3) := by decide +kernel
theorem dX8_check_87 : decode cX8_check 87 = .ok (.iload 4, 2) := by decide +kernel
theorem dX8_check_89 : decode cX8_check 89 = .ok (.iconst 2, 1) := by decide +kernel
theorem dX8_check_90 : decode cX8_check 90 = .ok (.iload 5, 2) := by decide +kernel
theorem dX8_check_92 : decode cX8_check 92 = .ok (.imul, 1) := by decide +kernel
theorem dX8_check_93 : decode cX8_check 93 = .ok (.if_icmp .ne 87, 3) := by decide +kernel
theorem dX8_check_96 : decode cX8_check 96 = .ok (.aload_n 0, 1) := by decide +kernel
theorem dX8_check_97 : decode cX8_check 97 = .ok (.invokevirtual 165, 3) := by decide +kernel
theorem dX8_check_100 : decode cX8_check 100 = .ok (.iload 4, 2) := by decide +kernel
theorem dX8_check_102 : decode cX8_check 102 = .ok (.iload 4, 2) := by decide +kernel
theorem dX8_check_104 : decode cX8_check 104 = .ok (.iload_n 2, 1) := by decide +kernel
theorem dX8_check_105 : decode cX8_check 105 = .ok (.if_icmp .ge 24, 3) := by decide +kernel
theorem dX8_check_108 : decode cX8_check 108 = .ok (.aload_n 0, 1) := by decide +kernel
theorem dX8_check_109 : decode cX8_check 109 = .ok (.getfield 78, 3) := by decide +kernel
theorem dX8_check_112 : decode cX8_check 112 = .ok (.iload 4, 2) := by decide +kernel
theorem dX8_check_114 : decode cX8_check 114 = .ok (.iaload, 1) := by decide +kernel
theorem dX8_check_115 : decode cX8_check 115 = .ok (.aload_n 0, 1) := by decide +kernel
theorem dX8_check_116 : decode cX8_check 116 = .ok (.getfield 9, 3) := by decide +kernel
theorem dX8_check_119 : decode cX8_check 119 = .ok (.bipush 10, 2) := by decide +kernel
theorem dX8_check_121 : decode cX8_check 121 = .ok (.iaload, 1) := by decide +kernel
theorem dX8_check_122 : decode cX8_check 122 = .ok (.if_icmp .ne 7, 3) := by decide +kernel
theorem dX8_check_125 : decode cX8_check 125 = .ok (.iconst 1, 1) := by decide +kernel
theorem dX8_check_126 : decode cX8_check 126 = .ok (.goto 4, 3) := by decide +kernel
theorem dX8_check_129 : decode cX8_check 129 = .ok (.iconst 0, 1) := by decide +kernel
theorem dX8_check_130 : decode cX8_check 130 = .ok (.iadd, 1) := by decide +kernel
theorem dX8_check_131 : decode cX8_check 131 = .ok (.istore 4, 2) := by decide +kernel
theorem dX8_check_133 : decode cX8_check 133 = .ok (.iload 4, 2) := by decide +kernel
theorem dX8_check_135 : decode cX8_check 135 = .ok (.iload 4, 2) := by decide +kernel
theorem dX8_check_137 : decode cX8_check 137 = .ok (.iconst 2, 1) := by decide +kernel
theorem dX8_check_138 : decode cX8_check 138 = .ok (.iload 5, 2) := by decide +kernel
theorem dX8_check_140 : decode cX8_check 140 = .ok (.imul, 1) := by decide +kernel
theorem dX8_check_141 : decode cX8_check 141 = .ok (.iconst 1, 1) := by decide +kernel
theorem dX8_check_142 : decode cX8_check 142 = .ok (.iadd, 1) := by decide +kernel
theorem dX8_check_143 : decode cX8_check 143 = .ok (.if_icmp .ne 27, 3) := by decide +kernel
theorem dX8_check_146 : decode cX8_check 146 = .ok (.iload 4, 2) := by decide +kernel
theorem dX8_check_148 : decode cX8_check 148 = .ok (.iload_n 2, 1) := by decide +kernel
theorem dX8_check_149 : decode cX8_check 149 = .ok (.if_icmp .ge 21, 3) := by decide +kernel
theorem dX8_check_152 : decode cX8_check 152 = .ok (.aload_n 0, 1) := by decide +kernel
theorem dX8_check_153 : decode cX8_check 153 = .ok (.getfield 78, 3) := by decide +kernel
theorem dX8_check_156 : decode cX8_check 156 = .ok (.iload 4, 2) := by decide +kernel
theorem dX8_check_158 : decode cX8_check 158 = .ok (.iaload, 1) := by decide +kernel
theorem dX8_check_159 : decode cX8_check 159 = .ok (.aload_n 0, 1) := by decide +kernel
theorem dX8_check_160 : decode cX8_check 160 = .ok (.invokevirtual 177, 3) := by decide +kernel
theorem dX8_check_163 : decode cX8_check 163 = .ok (.if_icmp .ne 7, 3) := by decide +kernel
theorem dX8_check_166 : decode cX8_check 166 = .ok (.iconst 1, 1) := by decide +kernel
theorem dX8_check_167 : decode cX8_check 167 = .ok (.goto 4, 3) := by decide +kernel
theorem dX8_check_170 : decode cX8_check 170 = .ok (.iconst 0, 1) := by decide +kernel
theorem dX8_check_171 : decode cX8_check 171 = .ok (.iadd, 1) := by decide +kernel
theorem dX8_check_172 : decode cX8_check 172 = .ok (.istore 4, 2) := by decide +kernel
theorem dX8_check_174 : decode cX8_check 174 = .ok (.iinc 5 1, 3) := by decide +kernel
theorem dX8_check_177 : decode cX8_check 177 = .ok (.goto (-98), 3) := by decide +kernel
theorem dX8_check_180 : decode cX8_check 180 = .ok (.aload_n 0, 1) := by decide +kernel
theorem dX8_check_181 : decode cX8_check 181 = .ok (.getfield 16, 3) := by decide +kernel
theorem dX8_check_184 : decode cX8_check 184 = .ok (.aload_n 0, 1) := by decide +kernel
theorem dX8_check_185 : decode cX8_check 185 = .ok (.getfield 9, 3) := by decide +kernel
theorem dX8_check_188 : decode cX8_check 188 = .ok (.invokestatic 302, 3) := by decide +kernel
theorem dX8_check_191 : decode cX8_check 191 = .ok (.iload 4, 2) := by decide +kernel
theorem dX8_check_193 : decode cX8_check 193 = .ok (.iload_n 2, 1) := by decide +kernel
theorem dX8_check_194 : decode cX8_check 194 = .ok (.if_icmp .ne 13, 3) := by decide +kernel
theorem dX8_check_197 : decode cX8_check 197 = .ok (.iload 4, 2) := by decide +kernel
theorem dX8_check_199 : decode cX8_check 199 = .ok (.iload_n 3, 1) := by decide +kernel
theorem dX8_check_200 : decode cX8_check 200 = .ok (.if_icmp .ne 7, 3) := by decide +kernel
theorem dX8_check_203 : decode cX8_check 203 = .ok (.iconst 0, 1) := by decide +kernel
theorem dX8_check_204 : decode cX8_check 204 = .ok (.goto 7, 3) := by decide +kernel
theorem dX8_check_207 : decode cX8_check 207 = .ok (.iconst 1, 1) := by decide +kernel
theorem dX8_check_208 : decode cX8_check 208 = .ok (.iload 4, 2) := by decide +kernel
theorem dX8_check_210 : decode cX8_check 210 = .ok (.iadd, 1) := by decide +kernel
theorem dX8_check_211 : decode cX8_check 211 = .ok (.ireturn, 1) := by decide +kernel
theorem dX8_keep_0 : decode cX8_keep 0 = .ok (.aload_n 0, 1) := by decide +kernel
theorem dX8_keep_1 : decode cX8_keep 1 = .ok (.getfield 9, 3) := by decide +kernel
theorem dX8_keep_4 : decode cX8_keep 4 = .ok (.aload_n 0, 1) := by decide +kernel
theorem dX8_keep_5 : decode cX8_keep 5 = .ok (.getfield 13, 3) := by decide +kernel
theorem dX8_keep_8 : decode cX8_keep 8 = .ok (.invokestatic 302, 3) := by decide +kernel
theorem dX8_keep_11 : decode cX8_keep 11 = .ok (.aload_n 0, 1) := by decide +kernel
theorem dX8_keep_12 : decode cX8_keep 12 = .ok (.iconst 1, 1) := by decide +kernel
theorem dX8_keep_13 : decode cX8_keep 13 = .ok (.putfield 298, 3) := by decide +kernel
theorem dX8_keep_16 : decode cX8_keep 16 = .ok (.aload_n 0, 1) := by decide +kernel
theorem dX8_keep_17 : decode cX8_keep 17 = .ok (.getfield 9, 3) := by decide +kernel
theorem dX8_keep_20 : decode cX8_keep 20 = .ok (.iconst 1, 1) := by decide +kernel
theorem dX8_keep_21 : decode cX8_keep 21 = .ok (.iaload, 1) := by decide +kernel
theorem dX8_keep_22 : decode cX8_keep 22 = .ok (.ireturn, 1) := by decide +kernel
theorem dX8_back_0 : decode cX8_back 0 = .ok (.aload_n 0, 1) := by decide +kernel
theorem dX8_back_1 : decode cX8_back 1 = .ok (.getfield 298, 3) := by decide +kernel
theorem dX8_back_4 : decode cX8_back 4 = .ok (.ifCond .ne 6, 3) := by decide +kernel
theorem dX8_back_7 : decode cX8_back 7 = .ok (.ldc 154, 2) := by decide +kernel
theorem dX8_back_9 : decode cX8_back 9 = .ok (.ireturn, 1) := by decide +kernel
theorem dX8_back_10 : decode cX8_back 10 = .ok (.aload_n 0, 1) := by decide +kernel
theorem dX8_back_11 : decode cX8_back 11 = .ok (.getfield 13, 3) := by decide +kernel
theorem dX8_back_14 : decode cX8_back 14 = .ok (.aload_n 0, 1) := by decide +kernel
theorem dX8_back_15 : decode cX8_back 15 = .ok (.getfield 9, 3) := by decide +kernel
theorem dX8_back_18 : decode cX8_back 18 = .ok (.invokestatic 302, 3) := by decide +kernel
theorem dX8_back_21 : decode cX8_back 21 = .ok (.aload_n 0, 1) := by decide +kernel
theorem dX8_back_22 : decode cX8_back 22 = .ok (.getfield 9, 3) := by decide +kernel
theorem dX8_back_25 : decode cX8_back 25 = .ok (.iconst 1, 1) := by decide +kernel
theorem dX8_back_26 : decode cX8_back 26 = .ok (.iaload, 1) := by decide +kernel
theorem dX8_back_27 : decode cX8_back 27 = .ok (.ireturn, 1) := by decide +kernel
theorem dX8_count_0 : decode cX8_count 0 = .ok (.iload_n 1, 1) := by decide +kernel
theorem dX8_count_1 : decode cX8_count 1 = .ok (.tableswitch 100 0 7 #[47, 54, 61, 68, 75, 83, 88, 93], 47) := by decide +kernel
theorem dX8_count_48 : decode cX8_count 48 = .ok (.aload_n 0, 1) := by decide +kernel
theorem dX8_count_49 : decode cX8_count 49 = .ok (.getfield 9, 3) := by decide +kernel
theorem dX8_count_52 : decode cX8_count 52 = .ok (.iconst 1, 1) := by decide +kernel
theorem dX8_count_53 : decode cX8_count 53 = .ok (.iaload, 1) := by decide +kernel
theorem dX8_count_54 : decode cX8_count 54 = .ok (.ireturn, 1) := by decide +kernel
theorem dX8_count_55 : decode cX8_count 55 = .ok (.aload_n 0, 1) := by decide +kernel
theorem dX8_count_56 : decode cX8_count 56 = .ok (.getfield 9, 3) := by decide +kernel
theorem dX8_count_59 : decode cX8_count 59 = .ok (.iconst 2, 1) := by decide +kernel
theorem dX8_count_60 : decode cX8_count 60 = .ok (.iaload, 1) := by decide +kernel
theorem dX8_count_61 : decode cX8_count 61 = .ok (.ireturn, 1) := by decide +kernel
theorem dX8_count_62 : decode cX8_count 62 = .ok (.aload_n 0, 1) := by decide +kernel
theorem dX8_count_63 : decode cX8_count 63 = .ok (.getfield 9, 3) := by decide +kernel
theorem dX8_count_66 : decode cX8_count 66 = .ok (.iconst 3, 1) := by decide +kernel
theorem dX8_count_67 : decode cX8_count 67 = .ok (.iaload, 1) := by decide +kernel
theorem dX8_count_68 : decode cX8_count 68 = .ok (.ireturn, 1) := by decide +kernel
theorem dX8_count_69 : decode cX8_count 69 = .ok (.aload_n 0, 1) := by decide +kernel
theorem dX8_count_70 : decode cX8_count 70 = .ok (.getfield 9, 3) := by decide +kernel
theorem dX8_count_73 : decode cX8_count 73 = .ok (.iconst 4, 1) := by decide +kernel
theorem dX8_count_74 : decode cX8_count 74 = .ok (.iaload, 1) := by decide +kernel
theorem dX8_count_75 : decode cX8_count 75 = .ok (.ireturn, 1) := by decide +kernel
theorem dX8_count_76 : decode cX8_count 76 = .ok (.aload_n 0, 1) := by decide +kernel
theorem dX8_count_77 : decode cX8_count 77 = .ok (.getfield 9, 3) := by decide +kernel
theorem dX8_count_80 : decode cX8_count 80 = .ok (.bipush 13, 2) := by decide +kernel
theorem dX8_count_82 : decode cX8_count 82 = .ok (.iaload, 1) := by decide +kernel
theorem dX8_count_83 : decode cX8_count 83 = .ok (.ireturn, 1) := by decide +kernel
theorem dX8_count_84 : decode cX8_count 84 = .ok (.aload_n 0, 1) := by decide +kernel
theorem dX8_count_85 : decode cX8_count 85 = .ok (.getfield 295, 3) := by decide +kernel
theorem dX8_count_88 : decode cX8_count 88 = .ok (.ireturn, 1) := by decide +kernel
theorem dX8_count_89 : decode cX8_count 89 = .ok (.aload_n 0, 1) := by decide +kernel
theorem dX8_count_90 : decode cX8_count 90 = .ok (.getfield 222, 3) := by decide +kernel
theorem dX8_count_93 : decode cX8_count 93 = .ok (.ireturn, 1) := by decide +kernel
theorem dX8_count_94 : decode cX8_count 94 = .ok (.aload_n 0, 1) := by decide +kernel
theorem dX8_count_95 : decode cX8_count 95 = .ok (.getfield 9, 3) := by decide +kernel
theorem dX8_count_98 : decode cX8_count 98 = .ok (.iconst 0, 1) := by decide +kernel
theorem dX8_count_99 : decode cX8_count 99 = .ok (.iaload, 1) := by decide +kernel
theorem dX8_count_100 : decode cX8_count 100 = .ok (.ireturn, 1) := by decide +kernel
theorem dX8_count_101 : decode cX8_count 101 = .ok (.ldc 97, 2) := by decide +kernel
theorem dX8_count_103 : decode cX8_count 103 = .ok (.ireturn, 1) := by decide +kernel
