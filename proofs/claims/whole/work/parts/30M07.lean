theorem d_Mod_settle_0 : decode prog_14_method_18_code 0 = .ok (.aload_n 0, 1) := by decide +kernel
theorem d_Mod_settle_1 : decode prog_14_method_18_code 1 = .ok (.getfield 65, 3) := by decide +kernel
theorem d_Mod_settle_4 : decode prog_14_method_18_code 4 = .ok (.aload_n 0, 1) := by decide +kernel
theorem d_Mod_settle_5 : decode prog_14_method_18_code 5 = .ok (.iconst 3, 1) := by decide +kernel
theorem d_Mod_settle_6 : decode prog_14_method_18_code 6 = .ok (.iconst 0, 1) := by decide +kernel
theorem d_Mod_settle_7 : decode prog_14_method_18_code 7 = .ok (.iconst 0, 1) := by decide +kernel
theorem d_Mod_settle_8 : decode prog_14_method_18_code 8 = .ok (.invokevirtual 140, 3) := by decide +kernel
theorem d_Mod_settle_11 : decode prog_14_method_18_code 11 = .ok (.aload_n 0, 1) := by decide +kernel
theorem d_Mod_settle_12 : decode prog_14_method_18_code 12 = .ok (.iconst 3, 1) := by decide +kernel
theorem d_Mod_settle_13 : decode prog_14_method_18_code 13 = .ok (.iconst 0, 1) := by decide +kernel
theorem d_Mod_settle_14 : decode prog_14_method_18_code 14 = .ok (.iconst 1, 1) := by decide +kernel
theorem d_Mod_settle_15 : decode prog_14_method_18_code 15 = .ok (.invokevirtual 140, 3) := by decide +kernel
theorem d_Mod_settle_18 : decode prog_14_method_18_code 18 = .ok (.aload_n 0, 1) := by decide +kernel
theorem d_Mod_settle_19 : decode prog_14_method_18_code 19 = .ok (.iconst 3, 1) := by decide +kernel
theorem d_Mod_settle_20 : decode prog_14_method_18_code 20 = .ok (.iconst 0, 1) := by decide +kernel
theorem d_Mod_settle_21 : decode prog_14_method_18_code 21 = .ok (.iconst 2, 1) := by decide +kernel
theorem d_Mod_settle_22 : decode prog_14_method_18_code 22 = .ok (.invokevirtual 140, 3) := by decide +kernel
theorem d_Mod_settle_25 : decode prog_14_method_18_code 25 = .ok (.aload_n 0, 1) := by decide +kernel
theorem d_Mod_settle_26 : decode prog_14_method_18_code 26 = .ok (.iconst 3, 1) := by decide +kernel
theorem d_Mod_settle_27 : decode prog_14_method_18_code 27 = .ok (.iconst 0, 1) := by decide +kernel
theorem d_Mod_settle_28 : decode prog_14_method_18_code 28 = .ok (.iconst 3, 1) := by decide +kernel
theorem d_Mod_settle_29 : decode prog_14_method_18_code 29 = .ok (.invokevirtual 140, 3) := by decide +kernel
theorem d_Mod_settle_32 : decode prog_14_method_18_code 32 = .ok (.invokevirtual 211, 3) := by decide +kernel
theorem d_Mod_settle_35 : decode prog_14_method_18_code 35 = .ok (.aload_n 0, 1) := by decide +kernel
theorem d_Mod_settle_36 : decode prog_14_method_18_code 36 = .ok (.getfield 65, 3) := by decide +kernel
theorem d_Mod_settle_39 : decode prog_14_method_18_code 39 = .ok (.aload_n 0, 1) := by decide +kernel
theorem d_Mod_settle_40 : decode prog_14_method_18_code 40 = .ok (.bipush 10, 2) := by decide +kernel
theorem d_Mod_settle_42 : decode prog_14_method_18_code 42 = .ok (.iconst 0, 1) := by decide +kernel
theorem d_Mod_settle_43 : decode prog_14_method_18_code 43 = .ok (.iconst 0, 1) := by decide +kernel
theorem d_Mod_settle_44 : decode prog_14_method_18_code 44 = .ok (.invokevirtual 140, 3) := by decide +kernel
theorem d_Mod_settle_47 : decode prog_14_method_18_code 47 = .ok (.aload_n 0, 1) := by decide +kernel
theorem d_Mod_settle_48 : decode prog_14_method_18_code 48 = .ok (.bipush 10, 2) := by decide +kernel
theorem d_Mod_settle_50 : decode prog_14_method_18_code 50 = .ok (.iconst 0, 1) := by decide +kernel
theorem d_Mod_settle_51 : decode prog_14_method_18_code 51 = .ok (.iconst 1, 1) := by decide +kernel
theorem d_Mod_settle_52 : decode prog_14_method_18_code 52 = .ok (.invokevirtual 140, 3) := by decide +kernel
theorem d_Mod_settle_55 : decode prog_14_method_18_code 55 = .ok (.iconst 1, 1) := by decide +kernel
theorem d_Mod_settle_56 : decode prog_14_method_18_code 56 = .ok (.if_icmp .ne 7, 3) := by decide +kernel
theorem d_Mod_settle_59 : decode prog_14_method_18_code 59 = .ok (.iconst 1, 1) := by decide +kernel
theorem d_Mod_settle_60 : decode prog_14_method_18_code 60 = .ok (.goto 4, 3) := by decide +kernel
theorem d_Mod_settle_63 : decode prog_14_method_18_code 63 = .ok (.iconst 0, 1) := by decide +kernel
theorem d_Mod_settle_64 : decode prog_14_method_18_code 64 = .ok (.invokevirtual 214, 3) := by decide +kernel
theorem d_Mod_settle_67 : decode prog_14_method_18_code 67 = .ok (.iconst 0, 1) := by decide +kernel
theorem d_Mod_settle_68 : decode prog_14_method_18_code 68 = .ok (.istore_n 1, 1) := by decide +kernel
theorem d_Mod_settle_69 : decode prog_14_method_18_code 69 = .ok (.iload_n 1, 1) := by decide +kernel
theorem d_Mod_settle_70 : decode prog_14_method_18_code 70 = .ok (.iconst 2, 1) := by decide +kernel
theorem d_Mod_settle_71 : decode prog_14_method_18_code 71 = .ok (.if_icmp .ge 75, 3) := by decide +kernel
theorem d_Mod_settle_74 : decode prog_14_method_18_code 74 = .ok (.aload_n 0, 1) := by decide +kernel
theorem d_Mod_settle_75 : decode prog_14_method_18_code 75 = .ok (.getfield 65, 3) := by decide +kernel
theorem d_Mod_settle_78 : decode prog_14_method_18_code 78 = .ok (.iload_n 1, 1) := by decide +kernel
theorem d_Mod_settle_79 : decode prog_14_method_18_code 79 = .ok (.aload_n 0, 1) := by decide +kernel
theorem d_Mod_settle_80 : decode prog_14_method_18_code 80 = .ok (.bipush 11, 2) := by decide +kernel
theorem d_Mod_settle_82 : decode prog_14_method_18_code 82 = .ok (.iload_n 1, 1) := by decide +kernel
theorem d_Mod_settle_83 : decode prog_14_method_18_code 83 = .ok (.iconst 1, 1) := by decide +kernel
theorem d_Mod_settle_84 : decode prog_14_method_18_code 84 = .ok (.invokevirtual 140, 3) := by decide +kernel
theorem d_Mod_settle_87 : decode prog_14_method_18_code 87 = .ok (.aload_n 0, 1) := by decide +kernel
theorem d_Mod_settle_88 : decode prog_14_method_18_code 88 = .ok (.bipush 11, 2) := by decide +kernel
theorem d_Mod_settle_90 : decode prog_14_method_18_code 90 = .ok (.iload_n 1, 1) := by decide +kernel
theorem d_Mod_settle_91 : decode prog_14_method_18_code 91 = .ok (.iconst 2, 1) := by decide +kernel
theorem d_Mod_settle_92 : decode prog_14_method_18_code 92 = .ok (.invokevirtual 140, 3) := by decide +kernel
theorem d_Mod_settle_95 : decode prog_14_method_18_code 95 = .ok (.aload_n 0, 1) := by decide +kernel
theorem d_Mod_settle_96 : decode prog_14_method_18_code 96 = .ok (.bipush 11, 2) := by decide +kernel
theorem d_Mod_settle_98 : decode prog_14_method_18_code 98 = .ok (.iload_n 1, 1) := by decide +kernel
theorem d_Mod_settle_99 : decode prog_14_method_18_code 99 = .ok (.iconst 3, 1) := by decide +kernel
theorem d_Mod_settle_100 : decode prog_14_method_18_code 100 = .ok (.invokevirtual 140, 3) := by decide +kernel
theorem d_Mod_settle_103 : decode prog_14_method_18_code 103 = .ok (.aload_n 0, 1) := by decide +kernel
theorem d_Mod_settle_104 : decode prog_14_method_18_code 104 = .ok (.bipush 11, 2) := by decide +kernel
theorem d_Mod_settle_106 : decode prog_14_method_18_code 106 = .ok (.iload_n 1, 1) := by decide +kernel
theorem d_Mod_settle_107 : decode prog_14_method_18_code 107 = .ok (.iconst 4, 1) := by decide +kernel
theorem d_Mod_settle_108 : decode prog_14_method_18_code 108 = .ok (.invokevirtual 140, 3) := by decide +kernel
theorem d_Mod_settle_111 : decode prog_14_method_18_code 111 = .ok (.aload_n 0, 1) := by decide +kernel
theorem d_Mod_settle_112 : decode prog_14_method_18_code 112 = .ok (.bipush 11, 2) := by decide +kernel
theorem d_Mod_settle_114 : decode prog_14_method_18_code 114 = .ok (.iload_n 1, 1) := by decide +kernel
theorem d_Mod_settle_115 : decode prog_14_method_18_code 115 = .ok (.iconst 5, 1) := by decide +kernel
theorem d_Mod_settle_116 : decode prog_14_method_18_code 116 = .ok (.invokevirtual 140, 3) := by decide +kernel
theorem d_Mod_settle_119 : decode prog_14_method_18_code 119 = .ok (.aload_n 0, 1) := by decide +kernel
theorem d_Mod_settle_120 : decode prog_14_method_18_code 120 = .ok (.bipush 11, 2) := by decide +kernel
theorem d_Mod_settle_122 : decode prog_14_method_18_code 122 = .ok (.iload_n 1, 1) := by decide +kernel
theorem d_Mod_settle_123 : decode prog_14_method_18_code 123 = .ok (.bipush 6, 2) := by decide +kernel
theorem d_Mod_settle_125 : decode prog_14_method_18_code 125 = .ok (.invokevirtual 140, 3) := by decide +kernel
theorem d_Mod_settle_128 : decode prog_14_method_18_code 128 = .ok (.aload_n 0, 1) := by decide +kernel
theorem d_Mod_settle_129 : decode prog_14_method_18_code 129 = .ok (.bipush 11, 2) := by decide +kernel
theorem d_Mod_settle_131 : decode prog_14_method_18_code 131 = .ok (.iload_n 1, 1) := by decide +kernel
theorem d_Mod_settle_132 : decode prog_14_method_18_code 132 = .ok (.bipush 7, 2) := by decide +kernel
theorem d_Mod_settle_134 : decode prog_14_method_18_code 134 = .ok (.invokevirtual 140, 3) := by decide +kernel
theorem d_Mod_settle_137 : decode prog_14_method_18_code 137 = .ok (.invokevirtual 218, 3) := by decide +kernel
theorem d_Mod_settle_140 : decode prog_14_method_18_code 140 = .ok (.iinc 1 1, 3) := by decide +kernel
theorem d_Mod_settle_143 : decode prog_14_method_18_code 143 = .ok (.goto (-74), 3) := by decide +kernel
theorem d_Mod_settle_146 : decode prog_14_method_18_code 146 = .ok (.aload_n 0, 1) := by decide +kernel
theorem d_Mod_settle_147 : decode prog_14_method_18_code 147 = .ok (.getfield 65, 3) := by decide +kernel
theorem d_Mod_settle_150 : decode prog_14_method_18_code 150 = .ok (.aload_n 0, 1) := by decide +kernel
theorem d_Mod_settle_151 : decode prog_14_method_18_code 151 = .ok (.bipush 12, 2) := by decide +kernel
theorem d_Mod_settle_153 : decode prog_14_method_18_code 153 = .ok (.iconst 0, 1) := by decide +kernel
theorem d_Mod_settle_154 : decode prog_14_method_18_code 154 = .ok (.iconst 0, 1) := by decide +kernel
theorem d_Mod_settle_155 : decode prog_14_method_18_code 155 = .ok (.invokevirtual 140, 3) := by decide +kernel
theorem d_Mod_settle_158 : decode prog_14_method_18_code 158 = .ok (.aload_n 0, 1) := by decide +kernel
theorem d_Mod_settle_159 : decode prog_14_method_18_code 159 = .ok (.bipush 12, 2) := by decide +kernel
theorem d_Mod_settle_161 : decode prog_14_method_18_code 161 = .ok (.iconst 0, 1) := by decide +kernel
theorem d_Mod_settle_162 : decode prog_14_method_18_code 162 = .ok (.iconst 1, 1) := by decide +kernel
theorem d_Mod_settle_163 : decode prog_14_method_18_code 163 = .ok (.invokevirtual 140, 3) := by decide +kernel
theorem d_Mod_settle_166 : decode prog_14_method_18_code 166 = .ok (.aload_n 0, 1) := by decide +kernel
theorem d_Mod_settle_167 : decode prog_14_method_18_code 167 = .ok (.bipush 12, 2) := by decide +kernel
theorem d_Mod_settle_169 : decode prog_14_method_18_code 169 = .ok (.iconst 0, 1) := by decide +kernel
theorem d_Mod_settle_170 : decode prog_14_method_18_code 170 = .ok (.iconst 2, 1) := by decide +kernel
theorem d_Mod_settle_171 : decode prog_14_method_18_code 171 = .ok (.invokevirtual 140, 3) := by decide +kernel
theorem d_Mod_settle_174 : decode prog_14_method_18_code 174 = .ok (.aload_n 0, 1) := by decide +kernel
theorem d_Mod_settle_175 : decode prog_14_method_18_code 175 = .ok (.bipush 12, 2) := by decide +kernel
theorem d_Mod_settle_177 : decode prog_14_method_18_code 177 = .ok (.iconst 0, 1) := by decide +kernel
theorem d_Mod_settle_178 : decode prog_14_method_18_code 178 = .ok (.iconst 3, 1) := by decide +kernel
theorem d_Mod_settle_179 : decode prog_14_method_18_code 179 = .ok (.invokevirtual 140, 3) := by decide +kernel
theorem d_Mod_settle_182 : decode prog_14_method_18_code 182 = .ok (.aload_n 0, 1) := by decide +kernel
theorem d_Mod_settle_183 : decode prog_14_method_18_code 183 = .ok (.bipush 12, 2) := by decide +kernel
theorem d_Mod_settle_185 : decode prog_14_method_18_code 185 = .ok (.iconst 0, 1) := by decide +kernel
theorem d_Mod_settle_186 : decode prog_14_method_18_code 186 = .ok (.iconst 4, 1) := by decide +kernel
theorem d_Mod_settle_187 : decode prog_14_method_18_code 187 = .ok (.invokevirtual 140, 3) := by decide +kernel
theorem d_Mod_settle_190 : decode prog_14_method_18_code 190 = .ok (.aload_n 0, 1) := by decide +kernel
theorem d_Mod_settle_191 : decode prog_14_method_18_code 191 = .ok (.bipush 12, 2) := by decide +kernel
theorem d_Mod_settle_193 : decode prog_14_method_18_code 193 = .ok (.iconst 0, 1) := by decide +kernel
theorem d_Mod_settle_194 : decode prog_14_method_18_code 194 = .ok (.iconst 5, 1) := by decide +kernel
theorem d_Mod_settle_195 : decode prog_14_method_18_code 195 = .ok (.invokevirtual 140, 3) := by decide +kernel
theorem d_Mod_settle_198 : decode prog_14_method_18_code 198 = .ok (.invokevirtual 222, 3) := by decide +kernel
theorem d_Mod_settle_201 : decode prog_14_method_18_code 201 = .ok (.aload_n 0, 1) := by decide +kernel
theorem d_Mod_settle_202 : decode prog_14_method_18_code 202 = .ok (.getfield 65, 3) := by decide +kernel
theorem d_Mod_settle_205 : decode prog_14_method_18_code 205 = .ok (.aload_n 0, 1) := by decide +kernel
theorem d_Mod_settle_206 : decode prog_14_method_18_code 206 = .ok (.bipush 13, 2) := by decide +kernel
theorem d_Mod_settle_208 : decode prog_14_method_18_code 208 = .ok (.iconst 0, 1) := by decide +kernel
theorem d_Mod_settle_209 : decode prog_14_method_18_code 209 = .ok (.iconst 0, 1) := by decide +kernel
theorem d_Mod_settle_210 : decode prog_14_method_18_code 210 = .ok (.invokevirtual 140, 3) := by decide +kernel
theorem d_Mod_settle_213 : decode prog_14_method_18_code 213 = .ok (.invokevirtual 226, 3) := by decide +kernel
theorem d_Mod_settle_216 : decode prog_14_method_18_code 216 = .ok (.aload_n 0, 1) := by decide +kernel
theorem d_Mod_settle_217 : decode prog_14_method_18_code 217 = .ok (.getfield 65, 3) := by decide +kernel
theorem d_Mod_settle_220 : decode prog_14_method_18_code 220 = .ok (.aload_n 0, 1) := by decide +kernel
theorem d_Mod_settle_221 : decode prog_14_method_18_code 221 = .ok (.bipush 14, 2) := by decide +kernel
theorem d_Mod_settle_223 : decode prog_14_method_18_code 223 = .ok (.iconst 0, 1) := by decide +kernel
theorem d_Mod_settle_224 : decode prog_14_method_18_code 224 = .ok (.iconst 0, 1) := by decide +kernel
theorem d_Mod_settle_225 : decode prog_14_method_18_code 225 = .ok (.invokevirtual 140, 3) := by decide +kernel
theorem d_Mod_settle_228 : decode prog_14_method_18_code 228 = .ok (.invokevirtual 230, 3) := by decide +kernel
theorem d_Mod_settle_231 : decode prog_14_method_18_code 231 = .ok (.aload_n 0, 1) := by decide +kernel
theorem d_Mod_settle_232 : decode prog_14_method_18_code 232 = .ok (.getfield 65, 3) := by decide +kernel
theorem d_Mod_settle_235 : decode prog_14_method_18_code 235 = .ok (.aload_n 0, 1) := by decide +kernel
theorem d_Mod_settle_236 : decode prog_14_method_18_code 236 = .ok (.bipush 15, 2) := by decide +kernel
theorem d_Mod_settle_238 : decode prog_14_method_18_code 238 = .ok (.iconst 0, 1) := by decide +kernel
theorem d_Mod_settle_239 : decode prog_14_method_18_code 239 = .ok (.iconst 0, 1) := by decide +kernel
theorem d_Mod_settle_240 : decode prog_14_method_18_code 240 = .ok (.invokevirtual 140, 3) := by decide +kernel
theorem d_Mod_settle_243 : decode prog_14_method_18_code 243 = .ok (.invokevirtual 233, 3) := by decide +kernel
theorem d_Mod_settle_246 : decode prog_14_method_18_code 246 = .ok (.aload_n 0, 1) := by decide +kernel
theorem d_Mod_settle_247 : decode prog_14_method_18_code 247 = .ok (.getfield 51, 3) := by decide +kernel
theorem d_Mod_settle_250 : decode prog_14_method_18_code 250 = .ok (.aload_n 0, 1) := by decide +kernel
theorem d_Mod_settle_251 : decode prog_14_method_18_code 251 = .ok (.iconst 2, 1) := by decide +kernel
theorem d_Mod_settle_252 : decode prog_14_method_18_code 252 = .ok (.iconst 0, 1) := by decide +kernel
theorem d_Mod_settle_253 : decode prog_14_method_18_code 253 = .ok (.iconst 0, 1) := by decide +kernel
theorem d_Mod_settle_254 : decode prog_14_method_18_code 254 = .ok (.invokevirtual 140, 3) := by decide +kernel
theorem d_Mod_settle_257 : decode prog_14_method_18_code 257 = .ok (.aload_n 0, 1) := by decide +kernel
theorem d_Mod_settle_258 : decode prog_14_method_18_code 258 = .ok (.iconst 2, 1) := by decide +kernel
theorem d_Mod_settle_259 : decode prog_14_method_18_code 259 = .ok (.iconst 0, 1) := by decide +kernel
theorem d_Mod_settle_260 : decode prog_14_method_18_code 260 = .ok (.iconst 1, 1) := by decide +kernel
theorem d_Mod_settle_261 : decode prog_14_method_18_code 261 = .ok (.invokevirtual 140, 3) := by decide +kernel
theorem d_Mod_settle_264 : decode prog_14_method_18_code 264 = .ok (.aload_n 0, 1) := by decide +kernel
theorem d_Mod_settle_265 : decode prog_14_method_18_code 265 = .ok (.iconst 2, 1) := by decide +kernel
theorem d_Mod_settle_266 : decode prog_14_method_18_code 266 = .ok (.iconst 0, 1) := by decide +kernel
theorem d_Mod_settle_267 : decode prog_14_method_18_code 267 = .ok (.iconst 2, 1) := by decide +kernel
theorem d_Mod_settle_268 : decode prog_14_method_18_code 268 = .ok (.invokevirtual 140, 3) := by decide +kernel
theorem d_Mod_settle_271 : decode prog_14_method_18_code 271 = .ok (.aload_n 0, 1) := by decide +kernel
theorem d_Mod_settle_272 : decode prog_14_method_18_code 272 = .ok (.iconst 2, 1) := by decide +kernel
theorem d_Mod_settle_273 : decode prog_14_method_18_code 273 = .ok (.iconst 0, 1) := by decide +kernel
theorem d_Mod_settle_274 : decode prog_14_method_18_code 274 = .ok (.iconst 3, 1) := by decide +kernel
theorem d_Mod_settle_275 : decode prog_14_method_18_code 275 = .ok (.invokevirtual 140, 3) := by decide +kernel
theorem d_Mod_settle_278 : decode prog_14_method_18_code 278 = .ok (.aload_n 0, 1) := by decide +kernel
theorem d_Mod_settle_279 : decode prog_14_method_18_code 279 = .ok (.iconst 2, 1) := by decide +kernel
theorem d_Mod_settle_280 : decode prog_14_method_18_code 280 = .ok (.iconst 0, 1) := by decide +kernel
theorem d_Mod_settle_281 : decode prog_14_method_18_code 281 = .ok (.iconst 4, 1) := by decide +kernel
theorem d_Mod_settle_282 : decode prog_14_method_18_code 282 = .ok (.invokevirtual 140, 3) := by decide +kernel
theorem d_Mod_settle_285 : decode prog_14_method_18_code 285 = .ok (.aload_n 0, 1) := by decide +kernel
theorem d_Mod_settle_286 : decode prog_14_method_18_code 286 = .ok (.iconst 2, 1) := by decide +kernel
theorem d_Mod_settle_287 : decode prog_14_method_18_code 287 = .ok (.iconst 0, 1) := by decide +kernel
theorem d_Mod_settle_288 : decode prog_14_method_18_code 288 = .ok (.iconst 5, 1) := by decide +kernel
theorem d_Mod_settle_289 : decode prog_14_method_18_code 289 = .ok (.invokevirtual 140, 3) := by decide +kernel
theorem d_Mod_settle_292 : decode prog_14_method_18_code 292 = .ok (.invokevirtual 236, 3) := by decide +kernel
theorem d_Mod_settle_295 : decode prog_14_method_18_code 295 = .ok (.aload_n 0, 1) := by decide +kernel
theorem d_Mod_settle_296 : decode prog_14_method_18_code 296 = .ok (.getfield 51, 3) := by decide +kernel
theorem d_Mod_settle_299 : decode prog_14_method_18_code 299 = .ok (.aload_n 0, 1) := by decide +kernel
theorem d_Mod_settle_300 : decode prog_14_method_18_code 300 = .ok (.bipush 16, 2) := by decide +kernel
theorem d_Mod_settle_302 : decode prog_14_method_18_code 302 = .ok (.iconst 0, 1) := by decide +kernel
theorem d_Mod_settle_303 : decode prog_14_method_18_code 303 = .ok (.iconst 0, 1) := by decide +kernel
theorem d_Mod_settle_304 : decode prog_14_method_18_code 304 = .ok (.invokevirtual 140, 3) := by decide +kernel
theorem d_Mod_settle_307 : decode prog_14_method_18_code 307 = .ok (.aload_n 0, 1) := by decide +kernel
theorem d_Mod_settle_308 : decode prog_14_method_18_code 308 = .ok (.bipush 16, 2) := by decide +kernel
theorem d_Mod_settle_310 : decode prog_14_method_18_code 310 = .ok (.iconst 0, 1) := by decide +kernel
theorem d_Mod_settle_311 : decode prog_14_method_18_code 311 = .ok (.iconst 1, 1) := by decide +kernel
theorem d_Mod_settle_312 : decode prog_14_method_18_code 312 = .ok (.invokevirtual 140, 3) := by decide +kernel
theorem d_Mod_settle_315 : decode prog_14_method_18_code 315 = .ok (.iconst 1, 1) := by decide +kernel
theorem d_Mod_settle_316 : decode prog_14_method_18_code 316 = .ok (.if_icmp .ne 7, 3) := by decide +kernel
theorem d_Mod_settle_319 : decode prog_14_method_18_code 319 = .ok (.iconst 1, 1) := by decide +kernel
theorem d_Mod_settle_320 : decode prog_14_method_18_code 320 = .ok (.goto 4, 3) := by decide +kernel
theorem d_Mod_settle_323 : decode prog_14_method_18_code 323 = .ok (.iconst 0, 1) := by decide +kernel
theorem d_Mod_settle_324 : decode prog_14_method_18_code 324 = .ok (.invokevirtual 239, 3) := by decide +kernel
theorem d_Mod_settle_327 : decode prog_14_method_18_code 327 = .ok (.iconst 0, 1) := by decide +kernel
theorem d_Mod_settle_328 : decode prog_14_method_18_code 328 = .ok (.istore_n 1, 1) := by decide +kernel
theorem d_Mod_settle_329 : decode prog_14_method_18_code 329 = .ok (.iload_n 1, 1) := by decide +kernel
theorem d_Mod_settle_330 : decode prog_14_method_18_code 330 = .ok (.bipush 8, 2) := by decide +kernel
theorem d_Mod_settle_332 : decode prog_14_method_18_code 332 = .ok (.if_icmp .ge 45, 3) := by decide +kernel
theorem d_Mod_settle_335 : decode prog_14_method_18_code 335 = .ok (.aload_n 0, 1) := by decide +kernel
theorem d_Mod_settle_336 : decode prog_14_method_18_code 336 = .ok (.getfield 51, 3) := by decide +kernel
theorem d_Mod_settle_339 : decode prog_14_method_18_code 339 = .ok (.iload_n 1, 1) := by decide +kernel
theorem d_Mod_settle_340 : decode prog_14_method_18_code 340 = .ok (.aload_n 0, 1) := by decide +kernel
theorem d_Mod_settle_341 : decode prog_14_method_18_code 341 = .ok (.iconst 4, 1) := by decide +kernel
theorem d_Mod_settle_342 : decode prog_14_method_18_code 342 = .ok (.iload_n 1, 1) := by decide +kernel
theorem d_Mod_settle_343 : decode prog_14_method_18_code 343 = .ok (.iconst 1, 1) := by decide +kernel
theorem d_Mod_settle_344 : decode prog_14_method_18_code 344 = .ok (.invokevirtual 140, 3) := by decide +kernel
theorem d_Mod_settle_347 : decode prog_14_method_18_code 347 = .ok (.aload_n 0, 1) := by decide +kernel
theorem d_Mod_settle_348 : decode prog_14_method_18_code 348 = .ok (.iconst 4, 1) := by decide +kernel
theorem d_Mod_settle_349 : decode prog_14_method_18_code 349 = .ok (.iload_n 1, 1) := by decide +kernel
theorem d_Mod_settle_350 : decode prog_14_method_18_code 350 = .ok (.iconst 2, 1) := by decide +kernel
theorem d_Mod_settle_351 : decode prog_14_method_18_code 351 = .ok (.invokevirtual 140, 3) := by decide +kernel
theorem d_Mod_settle_354 : decode prog_14_method_18_code 354 = .ok (.aload_n 0, 1) := by decide +kernel
theorem d_Mod_settle_355 : decode prog_14_method_18_code 355 = .ok (.iconst 4, 1) := by decide +kernel
theorem d_Mod_settle_356 : decode prog_14_method_18_code 356 = .ok (.iload_n 1, 1) := by decide +kernel
theorem d_Mod_settle_357 : decode prog_14_method_18_code 357 = .ok (.iconst 3, 1) := by decide +kernel
theorem d_Mod_settle_358 : decode prog_14_method_18_code 358 = .ok (.invokevirtual 140, 3) := by decide +kernel
theorem d_Mod_settle_361 : decode prog_14_method_18_code 361 = .ok (.aload_n 0, 1) := by decide +kernel
theorem d_Mod_settle_362 : decode prog_14_method_18_code 362 = .ok (.iconst 4, 1) := by decide +kernel
theorem d_Mod_settle_363 : decode prog_14_method_18_code 363 = .ok (.iload_n 1, 1) := by decide +kernel
theorem d_Mod_settle_364 : decode prog_14_method_18_code 364 = .ok (.iconst 4, 1) := by decide +kernel
theorem d_Mod_settle_365 : decode prog_14_method_18_code 365 = .ok (.invokevirtual 140, 3) := by decide +kernel
theorem d_Mod_settle_368 : decode prog_14_method_18_code 368 = .ok (.invokevirtual 242, 3) := by decide +kernel
theorem d_Mod_settle_371 : decode prog_14_method_18_code 371 = .ok (.iinc 1 1, 3) := by decide +kernel
theorem d_Mod_settle_374 : decode prog_14_method_18_code 374 = .ok (.goto (-45), 3) := by decide +kernel
theorem d_Mod_settle_377 : decode prog_14_method_18_code 377 = .ok (.iconst 0, 1) := by decide +kernel
theorem d_Mod_settle_378 : decode prog_14_method_18_code 378 = .ok (.istore_n 1, 1) := by decide +kernel
theorem d_Mod_settle_379 : decode prog_14_method_18_code 379 = .ok (.iload_n 1, 1) := by decide +kernel
theorem d_Mod_settle_380 : decode prog_14_method_18_code 380 = .ok (.iconst 4, 1) := by decide +kernel
theorem d_Mod_settle_381 : decode prog_14_method_18_code 381 = .ok (.if_icmp .ge 129, 3) := by decide +kernel
theorem d_Mod_settle_384 : decode prog_14_method_18_code 384 = .ok (.aload_n 0, 1) := by decide +kernel
theorem d_Mod_settle_385 : decode prog_14_method_18_code 385 = .ok (.getfield 32, 3) := by decide +kernel
theorem d_Mod_settle_388 : decode prog_14_method_18_code 388 = .ok (.iload_n 1, 1) := by decide +kernel
theorem d_Mod_settle_389 : decode prog_14_method_18_code 389 = .ok (.aload_n 0, 1) := by decide +kernel
theorem d_Mod_settle_390 : decode prog_14_method_18_code 390 = .ok (.bipush 9, 2) := by decide +kernel
theorem d_Mod_settle_392 : decode prog_14_method_18_code 392 = .ok (.iload_n 1, 1) := by decide +kernel
theorem d_Mod_settle_393 : decode prog_14_method_18_code 393 = .ok (.iconst 1, 1) := by decide +kernel
theorem d_Mod_settle_394 : decode prog_14_method_18_code 394 = .ok (.invokevirtual 140, 3) := by decide +kernel
theorem d_Mod_settle_397 : decode prog_14_method_18_code 397 = .ok (.aload_n 0, 1) := by decide +kernel
theorem d_Mod_settle_398 : decode prog_14_method_18_code 398 = .ok (.bipush 9, 2) := by decide +kernel
theorem d_Mod_settle_400 : decode prog_14_method_18_code 400 = .ok (.iload_n 1, 1) := by decide +kernel
theorem d_Mod_settle_401 : decode prog_14_method_18_code 401 = .ok (.iconst 2, 1) := by decide +kernel
theorem d_Mod_settle_402 : decode prog_14_method_18_code 402 = .ok (.invokevirtual 140, 3) := by decide +kernel
theorem d_Mod_settle_405 : decode prog_14_method_18_code 405 = .ok (.aload_n 0, 1) := by decide +kernel
theorem d_Mod_settle_406 : decode prog_14_method_18_code 406 = .ok (.bipush 9, 2) := by decide +kernel
theorem d_Mod_settle_408 : decode prog_14_method_18_code 408 = .ok (.iload_n 1, 1) := by decide +kernel
theorem d_Mod_settle_409 : decode prog_14_method_18_code 409 = .ok (.iconst 3, 1) := by decide +kernel
theorem d_Mod_settle_410 : decode prog_14_method_18_code 410 = .ok (.invokevirtual 140, 3) := by decide +kernel
theorem d_Mod_settle_413 : decode prog_14_method_18_code 413 = .ok (.aload_n 0, 1) := by decide +kernel
theorem d_Mod_settle_414 : decode prog_14_method_18_code 414 = .ok (.bipush 9, 2) := by decide +kernel
theorem d_Mod_settle_416 : decode prog_14_method_18_code 416 = .ok (.iload_n 1, 1) := by decide +kernel
theorem d_Mod_settle_417 : decode prog_14_method_18_code 417 = .ok (.iconst 4, 1) := by decide +kernel
theorem d_Mod_settle_418 : decode prog_14_method_18_code 418 = .ok (.invokevirtual 140, 3) := by decide +kernel
theorem d_Mod_settle_421 : decode prog_14_method_18_code 421 = .ok (.aload_n 0, 1) := by decide +kernel
theorem d_Mod_settle_422 : decode prog_14_method_18_code 422 = .ok (.bipush 9, 2) := by decide +kernel
theorem d_Mod_settle_424 : decode prog_14_method_18_code 424 = .ok (.iload_n 1, 1) := by decide +kernel
theorem d_Mod_settle_425 : decode prog_14_method_18_code 425 = .ok (.iconst 5, 1) := by decide +kernel
theorem d_Mod_settle_426 : decode prog_14_method_18_code 426 = .ok (.invokevirtual 140, 3) := by decide +kernel
theorem d_Mod_settle_429 : decode prog_14_method_18_code 429 = .ok (.invokevirtual 246, 3) := by decide +kernel
theorem d_Mod_settle_432 : decode prog_14_method_18_code 432 = .ok (.aload_n 0, 1) := by decide +kernel
theorem d_Mod_settle_433 : decode prog_14_method_18_code 433 = .ok (.getfield 32, 3) := by decide +kernel
theorem d_Mod_settle_436 : decode prog_14_method_18_code 436 = .ok (.iload_n 1, 1) := by decide +kernel
theorem d_Mod_settle_437 : decode prog_14_method_18_code 437 = .ok (.aload_n 0, 1) := by decide +kernel
theorem d_Mod_settle_438 : decode prog_14_method_18_code 438 = .ok (.bipush 24, 2) := by decide +kernel
theorem d_Mod_settle_440 : decode prog_14_method_18_code 440 = .ok (.iload_n 1, 1) := by decide +kernel
theorem d_Mod_settle_441 : decode prog_14_method_18_code 441 = .ok (.iconst 1, 1) := by decide +kernel
theorem d_Mod_settle_442 : decode prog_14_method_18_code 442 = .ok (.invokevirtual 140, 3) := by decide +kernel
theorem d_Mod_settle_445 : decode prog_14_method_18_code 445 = .ok (.aload_n 0, 1) := by decide +kernel
theorem d_Mod_settle_446 : decode prog_14_method_18_code 446 = .ok (.bipush 24, 2) := by decide +kernel
theorem d_Mod_settle_448 : decode prog_14_method_18_code 448 = .ok (.iload_n 1, 1) := by decide +kernel
theorem d_Mod_settle_449 : decode prog_14_method_18_code 449 = .ok (.iconst 2, 1) := by decide +kernel
theorem d_Mod_settle_450 : decode prog_14_method_18_code 450 = .ok (.invokevirtual 140, 3) := by decide +kernel
theorem d_Mod_settle_453 : decode prog_14_method_18_code 453 = .ok (.aload_n 0, 1) := by decide +kernel
theorem d_Mod_settle_454 : decode prog_14_method_18_code 454 = .ok (.bipush 24, 2) := by decide +kernel
theorem d_Mod_settle_456 : decode prog_14_method_18_code 456 = .ok (.iload_n 1, 1) := by decide +kernel
theorem d_Mod_settle_457 : decode prog_14_method_18_code 457 = .ok (.iconst 3, 1) := by decide +kernel
theorem d_Mod_settle_458 : decode prog_14_method_18_code 458 = .ok (.invokevirtual 140, 3) := by decide +kernel
theorem d_Mod_settle_461 : decode prog_14_method_18_code 461 = .ok (.invokevirtual 249, 3) := by decide +kernel
theorem d_Mod_settle_464 : decode prog_14_method_18_code 464 = .ok (.aload_n 0, 1) := by decide +kernel
theorem d_Mod_settle_465 : decode prog_14_method_18_code 465 = .ok (.getfield 32, 3) := by decide +kernel
theorem d_Mod_settle_468 : decode prog_14_method_18_code 468 = .ok (.iload_n 1, 1) := by decide +kernel
theorem d_Mod_settle_469 : decode prog_14_method_18_code 469 = .ok (.aload_n 0, 1) := by decide +kernel
theorem d_Mod_settle_470 : decode prog_14_method_18_code 470 = .ok (.bipush 25, 2) := by decide +kernel
theorem d_Mod_settle_472 : decode prog_14_method_18_code 472 = .ok (.iload_n 1, 1) := by decide +kernel
theorem d_Mod_settle_473 : decode prog_14_method_18_code 473 = .ok (.iconst 1, 1) := by decide +kernel
theorem d_Mod_settle_474 : decode prog_14_method_18_code 474 = .ok (.invokevirtual 140, 3) := by decide +kernel
theorem d_Mod_settle_477 : decode prog_14_method_18_code 477 = .ok (.aload_n 0, 1) := by decide +kernel
theorem d_Mod_settle_478 : decode prog_14_method_18_code 478 = .ok (.bipush 25, 2) := by decide +kernel
theorem d_Mod_settle_480 : decode prog_14_method_18_code 480 = .ok (.iload_n 1, 1) := by decide +kernel
theorem d_Mod_settle_481 : decode prog_14_method_18_code 481 = .ok (.iconst 2, 1) := by decide +kernel
theorem d_Mod_settle_482 : decode prog_14_method_18_code 482 = .ok (.invokevirtual 140, 3) := by decide +kernel
theorem d_Mod_settle_485 : decode prog_14_method_18_code 485 = .ok (.aload_n 0, 1) := by decide +kernel
theorem d_Mod_settle_486 : decode prog_14_method_18_code 486 = .ok (.bipush 25, 2) := by decide +kernel
theorem d_Mod_settle_488 : decode prog_14_method_18_code 488 = .ok (.iload_n 1, 1) := by decide +kernel
theorem d_Mod_settle_489 : decode prog_14_method_18_code 489 = .ok (.iconst 3, 1) := by decide +kernel
theorem d_Mod_settle_490 : decode prog_14_method_18_code 490 = .ok (.invokevirtual 140, 3) := by decide +kernel
theorem d_Mod_settle_493 : decode prog_14_method_18_code 493 = .ok (.aload_n 0, 1) := by decide +kernel
theorem d_Mod_settle_494 : decode prog_14_method_18_code 494 = .ok (.bipush 25, 2) := by decide +kernel
theorem d_Mod_settle_496 : decode prog_14_method_18_code 496 = .ok (.iload_n 1, 1) := by decide +kernel
theorem d_Mod_settle_497 : decode prog_14_method_18_code 497 = .ok (.iconst 4, 1) := by decide +kernel
theorem d_Mod_settle_498 : decode prog_14_method_18_code 498 = .ok (.invokevirtual 140, 3) := by decide +kernel
theorem d_Mod_settle_501 : decode prog_14_method_18_code 501 = .ok (.invokevirtual 252, 3) := by decide +kernel
theorem d_Mod_settle_504 : decode prog_14_method_18_code 504 = .ok (.iinc 1 1, 3) := by decide +kernel
theorem d_Mod_settle_507 : decode prog_14_method_18_code 507 = .ok (.goto (-128), 3) := by decide +kernel
theorem d_Mod_settle_510 : decode prog_14_method_18_code 510 = .ok (.iconst 0, 1) := by decide +kernel
theorem d_Mod_settle_511 : decode prog_14_method_18_code 511 = .ok (.istore_n 1, 1) := by decide +kernel
theorem d_Mod_settle_512 : decode prog_14_method_18_code 512 = .ok (.iload_n 1, 1) := by decide +kernel
theorem d_Mod_settle_513 : decode prog_14_method_18_code 513 = .ok (.sipush 128, 3) := by decide +kernel
theorem d_Mod_settle_516 : decode prog_14_method_18_code 516 = .ok (.if_icmp .ge 49, 3) := by decide +kernel
theorem d_Mod_settle_519 : decode prog_14_method_18_code 519 = .ok (.aload_n 0, 1) := by decide +kernel
theorem d_Mod_settle_520 : decode prog_14_method_18_code 520 = .ok (.getfield 41, 3) := by decide +kernel
theorem d_Mod_settle_523 : decode prog_14_method_18_code 523 = .ok (.getfield 255, 3) := by decide +kernel
theorem d_Mod_settle_526 : decode prog_14_method_18_code 526 = .ok (.iload_n 1, 1) := by decide +kernel
theorem d_Mod_settle_527 : decode prog_14_method_18_code 527 = .ok (.aload_n 0, 1) := by decide +kernel
theorem d_Mod_settle_528 : decode prog_14_method_18_code 528 = .ok (.iconst 5, 1) := by decide +kernel
theorem d_Mod_settle_529 : decode prog_14_method_18_code 529 = .ok (.iload_n 1, 1) := by decide +kernel
theorem d_Mod_settle_530 : decode prog_14_method_18_code 530 = .ok (.iconst 4, 1) := by decide +kernel
theorem d_Mod_settle_531 : decode prog_14_method_18_code 531 = .ok (.idiv, 1) := by decide +kernel
theorem d_Mod_settle_532 : decode prog_14_method_18_code 532 = .ok (.iconst 1, 1) := by decide +kernel
theorem d_Mod_settle_533 : decode prog_14_method_18_code 533 = .ok (.iload_n 1, 1) := by decide +kernel
theorem d_Mod_settle_534 : decode prog_14_method_18_code 534 = .ok (.iconst 4, 1) := by decide +kernel
theorem d_Mod_settle_535 : decode prog_14_method_18_code 535 = .ok (.irem, 1) := by decide +kernel
theorem d_Mod_settle_536 : decode prog_14_method_18_code 536 = .ok (.iadd, 1) := by decide +kernel
theorem d_Mod_settle_537 : decode prog_14_method_18_code 537 = .ok (.invokevirtual 140, 3) := by decide +kernel
theorem d_Mod_settle_540 : decode prog_14_method_18_code 540 = .ok (.iastore, 1) := by decide +kernel
theorem d_Mod_settle_541 : decode prog_14_method_18_code 541 = .ok (.aload_n 0, 1) := by decide +kernel
theorem d_Mod_settle_542 : decode prog_14_method_18_code 542 = .ok (.getfield 45, 3) := by decide +kernel
theorem d_Mod_settle_545 : decode prog_14_method_18_code 545 = .ok (.getfield 255, 3) := by decide +kernel
theorem d_Mod_settle_548 : decode prog_14_method_18_code 548 = .ok (.iload_n 1, 1) := by decide +kernel
theorem d_Mod_settle_549 : decode prog_14_method_18_code 549 = .ok (.aload_n 0, 1) := by decide +kernel
theorem d_Mod_settle_550 : decode prog_14_method_18_code 550 = .ok (.getfield 41, 3) := by decide +kernel
theorem d_Mod_settle_553 : decode prog_14_method_18_code 553 = .ok (.getfield 255, 3) := by decide +kernel
theorem d_Mod_settle_556 : decode prog_14_method_18_code 556 = .ok (.iload_n 1, 1) := by decide +kernel
theorem d_Mod_settle_557 : decode prog_14_method_18_code 557 = .ok (.iaload, 1) := by decide +kernel
theorem d_Mod_settle_558 : decode prog_14_method_18_code 558 = .ok (.iastore, 1) := by decide +kernel
theorem d_Mod_settle_559 : decode prog_14_method_18_code 559 = .ok (.iinc 1 1, 3) := by decide +kernel
theorem d_Mod_settle_562 : decode prog_14_method_18_code 562 = .ok (.goto (-50), 3) := by decide +kernel
theorem d_Mod_settle_565 : decode prog_14_method_18_code 565 = .ok (.return_, 1) := by decide +kernel
def L_Mod_settle_512 : Nat → Sg → Int32 → Option (Sg)
  | 0, _, _ => none
  | n + 1, σ, v1 => if 128 ≤ v1 then (some σ) else (bd (F_Mod_kept σ 5 (v1 / 4) (1 + (irem v1 4))) (fun o70 => ck (inb v1 128) (lt (sA σ 19 (upd (σ.2.2.1 19) v1.toNatClampNeg o70)) (fun σ72 => ck (inb v1 128) (ck (inb v1 128) (lt (sA σ72 29 (upd (σ72.2.2.1 29) v1.toNatClampNeg (σ72.2.2.1 19 v1.toNatClampNeg))) (fun σ75 => lt (v1 + 1) (fun y76 => L_Mod_settle_512 n σ75 y76))))))))
set_option maxRecDepth 10000 in
set_option maxHeartbeats 4000000 in
theorem lt_Mod_settle_512 {p : Program} {l : Launch} {e : Env} {R : Room} {s : State} {m : MethodId} {args : Array Value} {below : List Frame} {meth : Method} {c : Code} {D : va_G} {τ : ClassId × ClassId × ClassId} {B : Nat} {A : Nat → Prop} {ad : Nat → Nat} (E : Cx p R s m args meth c prog_14_method_18_code 2 "DrawingMachineModel" 3 D τ B A) (hret : meth.sig.returnType = none) (o : Sg) : ∀ (n : Nat) (σ : Sg) (v1 : Int32) (H : Heap) (locs : List Loc) (ls : Array Slot), L_Mod_settle_512 n σ v1 = some o → Wd s D A (wdM τ σ ad) H locs → lv_has ls 2 [(0, .ref (ad 59)), (1, .int v1)] → W p l e R s m args below meth c H locs 0 0 (QV below args s A D τ (wdM τ o ad)) (F0 m 512 ls []) := by
  intro n
  induction n with
  | zero =>
    intro σ v1 H locs ls h w hl
    cases h
  | succ n hr_512 =>
    intro σ v1 H locs ls h w hl
    refine lv_iload_n E.x E.b d_Mod_settle_512 rfl (lv_at hl 1 rfl) ?_
    refine lv_sipush (v := 128) E.x E.b d_Mod_settle_513 (by decide) ?_
    refine lv_icmp_ge (tgt := 565) E.x E.b d_Mod_settle_516 (by decide) (fun c => ?_) (fun c => ?_)
    ·
      replace h := ifT c h
      obtain rfl := Option.some.inj h
      exact rt_v E w hret d_Mod_settle_565
    ·
      replace h := ifF c h
      refine lv_aload_n E.x E.b d_Mod_settle_519 rfl (lv_at hl 0 rfl) ?_
      refine gM_Mod_corners E w k1770 d_Mod_settle_520 ?_
      refine wr_e (v := ad (65 + 0)) rfl ?_
      refine gNM_Shm_uniforms E w (pid := 0) (by decide) n1570 d_Mod_settle_523 ?_
      refine lv_iload_n E.x E.b d_Mod_settle_526 rfl (lv_at hl 1 rfl) ?_
      refine lv_aload_n E.x E.b d_Mod_settle_527 rfl (lv_at hl 0 rfl) ?_
      refine lv_iconst (v := 5) E.x E.b d_Mod_settle_528 (by decide) ?_
      refine lv_iload_n E.x E.b d_Mod_settle_529 rfl (lv_at hl 1 rfl) ?_
      refine lv_iconst (v := 4) E.x E.b d_Mod_settle_530 (by decide) ?_
      refine lv_idiv E.x E.b d_Mod_settle_531 (by decide) ?_
      refine lv_iconst (v := 1) E.x E.b d_Mod_settle_532 (by decide) ?_
      refine lv_iload_n E.x E.b d_Mod_settle_533 rfl (lv_at hl 1 rfl) ?_
      refine lv_iconst (v := 4) E.x E.b d_Mod_settle_534 (by decide) ?_
      refine lv_irem E.x E.b d_Mod_settle_535 (by decide) ?_
      refine wi_e (v := irem v1 4) rfl ?_
      refine lv_iadd E.x E.b d_Mod_settle_536 ?_
      obtain ⟨o70, h_o70, h⟩ := bd_some h
      refine clV_Mod_kept E w (x0 := 5) (x1 := (v1 / 4)) (x2 := (1 + (irem v1 4))) h_o70 k1908 (by decide) hl.1 (Nat.le_of_ble_eq_true rfl) d_Mod_settle_537 (fun H locs w => ?_)
      obtain ⟨c71, h⟩ := ck_some h
      obtain ⟨σ72, e_σ72, h⟩ := lt_some h
      refine iasM E w (k := 19) (by decide) c71 e_σ72 d_Mod_settle_540 (fun H locs w => ?_)
      refine lv_aload_n E.x E.b d_Mod_settle_541 rfl (lv_at hl 0 rfl) ?_
      refine gM_Mod_places E w k1771 d_Mod_settle_542 ?_
      refine wr_e (v := ad (65 + 1)) rfl ?_
      refine gNM_Shm_uniforms E w (pid := 1) (by decide) n1570 d_Mod_settle_545 ?_
      refine lv_iload_n E.x E.b d_Mod_settle_548 rfl (lv_at hl 1 rfl) ?_
      refine lv_aload_n E.x E.b d_Mod_settle_549 rfl (lv_at hl 0 rfl) ?_
      refine gM_Mod_corners E w k1770 d_Mod_settle_550 ?_
      refine wr_e (v := ad (65 + 0)) rfl ?_
      refine gNM_Shm_uniforms E w (pid := 0) (by decide) n1570 d_Mod_settle_553 ?_
      refine lv_iload_n E.x E.b d_Mod_settle_556 rfl (lv_at hl 1 rfl) ?_
      obtain ⟨c73, h⟩ := ck_some h
      refine ialM E w (k := 19) (by decide) c73 d_Mod_settle_557 ?_
      obtain ⟨c74, h⟩ := ck_some h
      obtain ⟨σ75, e_σ75, h⟩ := lt_some h
      refine iasM E w (k := 29) (by decide) c74 e_σ75 d_Mod_settle_558 (fun H locs w => ?_)
      obtain ⟨y76, e_y76, h⟩ := lt_some h
      refine lv_iinc (v := y76) (lv' := [(1, .int y76), (0, .ref (ad 59))]) E.x E.b d_Mod_settle_559 hl (k := 1) rfl (e_y76) (by decide) rfl (fun ls hl => ?_)
      refine lv_goto (tgt := 512) E.x E.b d_Mod_settle_562 (by decide) ?_
      exact hr_512 σ75 y76 _ _ _ h w (lv_sub hl [1, 0] rfl)
def L_Mod_settle_379 : Nat → Sg → Int32 → Option (Sg)
  | 0, _, _ => none
  | n + 1, σ, v1 => if 4 ≤ v1 then (L_Mod_settle_512 100000 σ 0) else (bd (F_Mod_kept σ 9 v1 1) (fun o77 => bd (F_Mod_kept σ 9 v1 2) (fun o78 => bd (F_Mod_kept σ 9 v1 3) (fun o79 => bd (F_Mod_kept σ 9 v1 4) (fun o80 => bd (F_Mod_kept σ 9 v1 5) (fun o81 => bd (F_Txm_picture σ v1 o77 o78 o79 o80 o81) (fun o82 => bd (F_Mod_kept o82 24 v1 1) (fun o83 => bd (F_Mod_kept o82 24 v1 2) (fun o84 => bd (F_Mod_kept o82 24 v1 3) (fun o85 => bd (F_Txm_manner o82 v1 o83 o84 o85) (fun o86 => bd (F_Mod_kept o86 25 v1 1) (fun o87 => bd (F_Mod_kept o86 25 v1 2) (fun o88 => bd (F_Mod_kept o86 25 v1 3) (fun o89 => bd (F_Mod_kept o86 25 v1 4) (fun o90 => bd (F_Txm_border o86 v1 o87 o88 o89 o90) (fun o91 => lt (v1 + 1) (fun y92 => L_Mod_settle_379 n o91 y92)))))))))))))))))
set_option maxRecDepth 10000 in
set_option maxHeartbeats 4000000 in
theorem lt_Mod_settle_379 {p : Program} {l : Launch} {e : Env} {R : Room} {s : State} {m : MethodId} {args : Array Value} {below : List Frame} {meth : Method} {c : Code} {D : va_G} {τ : ClassId × ClassId × ClassId} {B : Nat} {A : Nat → Prop} {ad : Nat → Nat} (E : Cx p R s m args meth c prog_14_method_18_code 2 "DrawingMachineModel" 3 D τ B A) (hret : meth.sig.returnType = none) (o : Sg) : ∀ (n : Nat) (σ : Sg) (v1 : Int32) (H : Heap) (locs : List Loc) (ls : Array Slot), L_Mod_settle_379 n σ v1 = some o → Wd s D A (wdM τ σ ad) H locs → lv_has ls 2 [(0, .ref (ad 59)), (1, .int v1)] → W p l e R s m args below meth c H locs 0 0 (QV below args s A D τ (wdM τ o ad)) (F0 m 379 ls []) := by
  intro n
  induction n with
  | zero =>
    intro σ v1 H locs ls h w hl
    cases h
  | succ n hr_379 =>
    intro σ v1 H locs ls h w hl
    refine lv_iload_n E.x E.b d_Mod_settle_379 rfl (lv_at hl 1 rfl) ?_
    refine lv_iconst (v := 4) E.x E.b d_Mod_settle_380 (by decide) ?_
    refine lv_icmp_ge (tgt := 510) E.x E.b d_Mod_settle_381 (by decide) (fun c => ?_) (fun c => ?_)
    ·
      replace h := ifT c h
      refine lv_iconst (v := 0) E.x E.b d_Mod_settle_510 (by decide) ?_
      refine lv_istore_n (lv' := [(1, .int 0), (0, .ref (ad 59))]) E.x E.b d_Mod_settle_511 rfl hl (by decide) rfl (fun ls hl => ?_)
      exact lt_Mod_settle_512 E hret o 100000 σ 0 _ _ _ h w (lv_sub hl [1, 0] rfl)
    ·
      replace h := ifF c h
      refine lv_aload_n E.x E.b d_Mod_settle_384 rfl (lv_at hl 0 rfl) ?_
      refine gM_Mod_units E w k1769 d_Mod_settle_385 ?_
      refine lv_iload_n E.x E.b d_Mod_settle_388 rfl (lv_at hl 1 rfl) ?_
      refine lv_aload_n E.x E.b d_Mod_settle_389 rfl (lv_at hl 0 rfl) ?_
      refine lv_bipush (v := 9) E.x E.b d_Mod_settle_390 (by decide) ?_
      refine lv_iload_n E.x E.b d_Mod_settle_392 rfl (lv_at hl 1 rfl) ?_
      refine lv_iconst (v := 1) E.x E.b d_Mod_settle_393 (by decide) ?_
      obtain ⟨o77, h_o77, h⟩ := bd_some h
      refine clV_Mod_kept E w (x0 := 9) (x1 := v1) (x2 := 1) h_o77 k1908 (by decide) hl.1 (Nat.le_of_ble_eq_true rfl) d_Mod_settle_394 (fun H locs w => ?_)
      refine lv_aload_n E.x E.b d_Mod_settle_397 rfl (lv_at hl 0 rfl) ?_
      refine lv_bipush (v := 9) E.x E.b d_Mod_settle_398 (by decide) ?_
      refine lv_iload_n E.x E.b d_Mod_settle_400 rfl (lv_at hl 1 rfl) ?_
      refine lv_iconst (v := 2) E.x E.b d_Mod_settle_401 (by decide) ?_
      obtain ⟨o78, h_o78, h⟩ := bd_some h
      refine clV_Mod_kept E w (x0 := 9) (x1 := v1) (x2 := 2) h_o78 k1908 (by decide) hl.1 (Nat.le_of_ble_eq_true rfl) d_Mod_settle_402 (fun H locs w => ?_)
      refine lv_aload_n E.x E.b d_Mod_settle_405 rfl (lv_at hl 0 rfl) ?_
      refine lv_bipush (v := 9) E.x E.b d_Mod_settle_406 (by decide) ?_
      refine lv_iload_n E.x E.b d_Mod_settle_408 rfl (lv_at hl 1 rfl) ?_
      refine lv_iconst (v := 3) E.x E.b d_Mod_settle_409 (by decide) ?_
      obtain ⟨o79, h_o79, h⟩ := bd_some h
      refine clV_Mod_kept E w (x0 := 9) (x1 := v1) (x2 := 3) h_o79 k1908 (by decide) hl.1 (Nat.le_of_ble_eq_true rfl) d_Mod_settle_410 (fun H locs w => ?_)
      refine lv_aload_n E.x E.b d_Mod_settle_413 rfl (lv_at hl 0 rfl) ?_
      refine lv_bipush (v := 9) E.x E.b d_Mod_settle_414 (by decide) ?_
      refine lv_iload_n E.x E.b d_Mod_settle_416 rfl (lv_at hl 1 rfl) ?_
      refine lv_iconst (v := 4) E.x E.b d_Mod_settle_417 (by decide) ?_
      obtain ⟨o80, h_o80, h⟩ := bd_some h
      refine clV_Mod_kept E w (x0 := 9) (x1 := v1) (x2 := 4) h_o80 k1908 (by decide) hl.1 (Nat.le_of_ble_eq_true rfl) d_Mod_settle_418 (fun H locs w => ?_)
      refine lv_aload_n E.x E.b d_Mod_settle_421 rfl (lv_at hl 0 rfl) ?_
      refine lv_bipush (v := 9) E.x E.b d_Mod_settle_422 (by decide) ?_
      refine lv_iload_n E.x E.b d_Mod_settle_424 rfl (lv_at hl 1 rfl) ?_
      refine lv_iconst (v := 5) E.x E.b d_Mod_settle_425 (by decide) ?_
      obtain ⟨o81, h_o81, h⟩ := bd_some h
      refine clV_Mod_kept E w (x0 := 9) (x1 := v1) (x2 := 5) h_o81 k1908 (by decide) hl.1 (Nat.le_of_ble_eq_true rfl) d_Mod_settle_426 (fun H locs w => ?_)
      obtain ⟨o82, h_o82, h⟩ := bd_some h
      refine clV_Txm_picture E w (x0 := v1) (x1 := o77) (x2 := o78) (x3 := o79) (x4 := o80) (x5 := o81) h_o82 k2040 (by decide) hl.1 (Nat.le_of_ble_eq_true rfl) d_Mod_settle_429 (fun H locs w => ?_)
      refine lv_aload_n E.x E.b d_Mod_settle_432 rfl (lv_at hl 0 rfl) ?_
      refine gM_Mod_units E w k1769 d_Mod_settle_433 ?_
      refine lv_iload_n E.x E.b d_Mod_settle_436 rfl (lv_at hl 1 rfl) ?_
      refine lv_aload_n E.x E.b d_Mod_settle_437 rfl (lv_at hl 0 rfl) ?_
      refine lv_bipush (v := 24) E.x E.b d_Mod_settle_438 (by decide) ?_
      refine lv_iload_n E.x E.b d_Mod_settle_440 rfl (lv_at hl 1 rfl) ?_
      refine lv_iconst (v := 1) E.x E.b d_Mod_settle_441 (by decide) ?_
      obtain ⟨o83, h_o83, h⟩ := bd_some h
      refine clV_Mod_kept E w (x0 := 24) (x1 := v1) (x2 := 1) h_o83 k1908 (by decide) hl.1 (Nat.le_of_ble_eq_true rfl) d_Mod_settle_442 (fun H locs w => ?_)
      refine lv_aload_n E.x E.b d_Mod_settle_445 rfl (lv_at hl 0 rfl) ?_
      refine lv_bipush (v := 24) E.x E.b d_Mod_settle_446 (by decide) ?_
      refine lv_iload_n E.x E.b d_Mod_settle_448 rfl (lv_at hl 1 rfl) ?_
      refine lv_iconst (v := 2) E.x E.b d_Mod_settle_449 (by decide) ?_
      obtain ⟨o84, h_o84, h⟩ := bd_some h
      refine clV_Mod_kept E w (x0 := 24) (x1 := v1) (x2 := 2) h_o84 k1908 (by decide) hl.1 (Nat.le_of_ble_eq_true rfl) d_Mod_settle_450 (fun H locs w => ?_)
      refine lv_aload_n E.x E.b d_Mod_settle_453 rfl (lv_at hl 0 rfl) ?_
      refine lv_bipush (v := 24) E.x E.b d_Mod_settle_454 (by decide) ?_
      refine lv_iload_n E.x E.b d_Mod_settle_456 rfl (lv_at hl 1 rfl) ?_
      refine lv_iconst (v := 3) E.x E.b d_Mod_settle_457 (by decide) ?_
      obtain ⟨o85, h_o85, h⟩ := bd_some h
      refine clV_Mod_kept E w (x0 := 24) (x1 := v1) (x2 := 3) h_o85 k1908 (by decide) hl.1 (Nat.le_of_ble_eq_true rfl) d_Mod_settle_458 (fun H locs w => ?_)
      obtain ⟨o86, h_o86, h⟩ := bd_some h
      refine clV_Txm_manner E w (x0 := v1) (x1 := o83) (x2 := o84) (x3 := o85) h_o86 k2051 (by decide) hl.1 (Nat.le_of_ble_eq_true rfl) d_Mod_settle_461 (fun H locs w => ?_)
      refine lv_aload_n E.x E.b d_Mod_settle_464 rfl (lv_at hl 0 rfl) ?_
      refine gM_Mod_units E w k1769 d_Mod_settle_465 ?_
      refine lv_iload_n E.x E.b d_Mod_settle_468 rfl (lv_at hl 1 rfl) ?_
      refine lv_aload_n E.x E.b d_Mod_settle_469 rfl (lv_at hl 0 rfl) ?_
      refine lv_bipush (v := 25) E.x E.b d_Mod_settle_470 (by decide) ?_
      refine lv_iload_n E.x E.b d_Mod_settle_472 rfl (lv_at hl 1 rfl) ?_
      refine lv_iconst (v := 1) E.x E.b d_Mod_settle_473 (by decide) ?_
      obtain ⟨o87, h_o87, h⟩ := bd_some h
      refine clV_Mod_kept E w (x0 := 25) (x1 := v1) (x2 := 1) h_o87 k1908 (by decide) hl.1 (Nat.le_of_ble_eq_true rfl) d_Mod_settle_474 (fun H locs w => ?_)
      refine lv_aload_n E.x E.b d_Mod_settle_477 rfl (lv_at hl 0 rfl) ?_
      refine lv_bipush (v := 25) E.x E.b d_Mod_settle_478 (by decide) ?_
      refine lv_iload_n E.x E.b d_Mod_settle_480 rfl (lv_at hl 1 rfl) ?_
      refine lv_iconst (v := 2) E.x E.b d_Mod_settle_481 (by decide) ?_
      obtain ⟨o88, h_o88, h⟩ := bd_some h
      refine clV_Mod_kept E w (x0 := 25) (x1 := v1) (x2 := 2) h_o88 k1908 (by decide) hl.1 (Nat.le_of_ble_eq_true rfl) d_Mod_settle_482 (fun H locs w => ?_)
      refine lv_aload_n E.x E.b d_Mod_settle_485 rfl (lv_at hl 0 rfl) ?_
      refine lv_bipush (v := 25) E.x E.b d_Mod_settle_486 (by decide) ?_
      refine lv_iload_n E.x E.b d_Mod_settle_488 rfl (lv_at hl 1 rfl) ?_
      refine lv_iconst (v := 3) E.x E.b d_Mod_settle_489 (by decide) ?_
      obtain ⟨o89, h_o89, h⟩ := bd_some h
      refine clV_Mod_kept E w (x0 := 25) (x1 := v1) (x2 := 3) h_o89 k1908 (by decide) hl.1 (Nat.le_of_ble_eq_true rfl) d_Mod_settle_490 (fun H locs w => ?_)
      refine lv_aload_n E.x E.b d_Mod_settle_493 rfl (lv_at hl 0 rfl) ?_
      refine lv_bipush (v := 25) E.x E.b d_Mod_settle_494 (by decide) ?_
      refine lv_iload_n E.x E.b d_Mod_settle_496 rfl (lv_at hl 1 rfl) ?_
      refine lv_iconst (v := 4) E.x E.b d_Mod_settle_497 (by decide) ?_
      obtain ⟨o90, h_o90, h⟩ := bd_some h
      refine clV_Mod_kept E w (x0 := 25) (x1 := v1) (x2 := 4) h_o90 k1908 (by decide) hl.1 (Nat.le_of_ble_eq_true rfl) d_Mod_settle_498 (fun H locs w => ?_)
      obtain ⟨o91, h_o91, h⟩ := bd_some h
      refine clV_Txm_border E w (x0 := v1) (x1 := o87) (x2 := o88) (x3 := o89) (x4 := o90) h_o91 k2055 (by decide) hl.1 (Nat.le_of_ble_eq_true rfl) d_Mod_settle_501 (fun H locs w => ?_)
      obtain ⟨y92, e_y92, h⟩ := lt_some h
      refine lv_iinc (v := y92) (lv' := [(1, .int y92), (0, .ref (ad 59))]) E.x E.b d_Mod_settle_504 hl (k := 1) rfl (e_y92) (by decide) rfl (fun ls hl => ?_)
      refine lv_goto (tgt := 379) E.x E.b d_Mod_settle_507 (by decide) ?_
      exact hr_379 o91 y92 _ _ _ h w (lv_sub hl [1, 0] rfl)
def L_Mod_settle_329 : Nat → Sg → Int32 → Option (Sg)
  | 0, _, _ => none
  | n + 1, σ, v1 => if 8 ≤ v1 then (L_Mod_settle_379 100000 σ 0) else (bd (F_Mod_kept σ 4 v1 1) (fun o93 => bd (F_Mod_kept σ 4 v1 2) (fun o94 => bd (F_Mod_kept σ 4 v1 3) (fun o95 => bd (F_Mod_kept σ 4 v1 4) (fun o96 => bd (F_Vwm_attribute σ v1 o93 o94 o95 o96) (fun o97 => lt (v1 + 1) (fun y98 => L_Mod_settle_329 n o97 y98)))))))
set_option maxRecDepth 10000 in
set_option maxHeartbeats 4000000 in
theorem lt_Mod_settle_329 {p : Program} {l : Launch} {e : Env} {R : Room} {s : State} {m : MethodId} {args : Array Value} {below : List Frame} {meth : Method} {c : Code} {D : va_G} {τ : ClassId × ClassId × ClassId} {B : Nat} {A : Nat → Prop} {ad : Nat → Nat} (E : Cx p R s m args meth c prog_14_method_18_code 2 "DrawingMachineModel" 3 D τ B A) (hret : meth.sig.returnType = none) (o : Sg) : ∀ (n : Nat) (σ : Sg) (v1 : Int32) (H : Heap) (locs : List Loc) (ls : Array Slot), L_Mod_settle_329 n σ v1 = some o → Wd s D A (wdM τ σ ad) H locs → lv_has ls 2 [(0, .ref (ad 59)), (1, .int v1)] → W p l e R s m args below meth c H locs 0 0 (QV below args s A D τ (wdM τ o ad)) (F0 m 329 ls []) := by
  intro n
  induction n with
  | zero =>
    intro σ v1 H locs ls h w hl
    cases h
  | succ n hr_329 =>
    intro σ v1 H locs ls h w hl
    refine lv_iload_n E.x E.b d_Mod_settle_329 rfl (lv_at hl 1 rfl) ?_
    refine lv_bipush (v := 8) E.x E.b d_Mod_settle_330 (by decide) ?_
    refine lv_icmp_ge (tgt := 377) E.x E.b d_Mod_settle_332 (by decide) (fun c => ?_) (fun c => ?_)
    ·
      replace h := ifT c h
      refine lv_iconst (v := 0) E.x E.b d_Mod_settle_377 (by decide) ?_
      refine lv_istore_n (lv' := [(1, .int 0), (0, .ref (ad 59))]) E.x E.b d_Mod_settle_378 rfl hl (by decide) rfl (fun ls hl => ?_)
      exact lt_Mod_settle_379 E hret o 100000 σ 0 _ _ _ h w (lv_sub hl [1, 0] rfl)
    ·
      replace h := ifF c h
      refine lv_aload_n E.x E.b d_Mod_settle_335 rfl (lv_at hl 0 rfl) ?_
      refine gM_Mod_vertices E w k1772 d_Mod_settle_336 ?_
      refine lv_iload_n E.x E.b d_Mod_settle_339 rfl (lv_at hl 1 rfl) ?_
      refine lv_aload_n E.x E.b d_Mod_settle_340 rfl (lv_at hl 0 rfl) ?_
      refine lv_iconst (v := 4) E.x E.b d_Mod_settle_341 (by decide) ?_
      refine lv_iload_n E.x E.b d_Mod_settle_342 rfl (lv_at hl 1 rfl) ?_
      refine lv_iconst (v := 1) E.x E.b d_Mod_settle_343 (by decide) ?_
      obtain ⟨o93, h_o93, h⟩ := bd_some h
      refine clV_Mod_kept E w (x0 := 4) (x1 := v1) (x2 := 1) h_o93 k1908 (by decide) hl.1 (Nat.le_of_ble_eq_true rfl) d_Mod_settle_344 (fun H locs w => ?_)
      refine lv_aload_n E.x E.b d_Mod_settle_347 rfl (lv_at hl 0 rfl) ?_
      refine lv_iconst (v := 4) E.x E.b d_Mod_settle_348 (by decide) ?_
      refine lv_iload_n E.x E.b d_Mod_settle_349 rfl (lv_at hl 1 rfl) ?_
      refine lv_iconst (v := 2) E.x E.b d_Mod_settle_350 (by decide) ?_
      obtain ⟨o94, h_o94, h⟩ := bd_some h
      refine clV_Mod_kept E w (x0 := 4) (x1 := v1) (x2 := 2) h_o94 k1908 (by decide) hl.1 (Nat.le_of_ble_eq_true rfl) d_Mod_settle_351 (fun H locs w => ?_)
      refine lv_aload_n E.x E.b d_Mod_settle_354 rfl (lv_at hl 0 rfl) ?_
      refine lv_iconst (v := 4) E.x E.b d_Mod_settle_355 (by decide) ?_
      refine lv_iload_n E.x E.b d_Mod_settle_356 rfl (lv_at hl 1 rfl) ?_
      refine lv_iconst (v := 3) E.x E.b d_Mod_settle_357 (by decide) ?_
      obtain ⟨o95, h_o95, h⟩ := bd_some h
      refine clV_Mod_kept E w (x0 := 4) (x1 := v1) (x2 := 3) h_o95 k1908 (by decide) hl.1 (Nat.le_of_ble_eq_true rfl) d_Mod_settle_358 (fun H locs w => ?_)
      refine lv_aload_n E.x E.b d_Mod_settle_361 rfl (lv_at hl 0 rfl) ?_
      refine lv_iconst (v := 4) E.x E.b d_Mod_settle_362 (by decide) ?_
      refine lv_iload_n E.x E.b d_Mod_settle_363 rfl (lv_at hl 1 rfl) ?_
      refine lv_iconst (v := 4) E.x E.b d_Mod_settle_364 (by decide) ?_
      obtain ⟨o96, h_o96, h⟩ := bd_some h
      refine clV_Mod_kept E w (x0 := 4) (x1 := v1) (x2 := 4) h_o96 k1908 (by decide) hl.1 (Nat.le_of_ble_eq_true rfl) d_Mod_settle_365 (fun H locs w => ?_)
      obtain ⟨o97, h_o97, h⟩ := bd_some h
      refine clV_Vwm_attribute E w (x0 := v1) (x1 := o93) (x2 := o94) (x3 := o95) (x4 := o96) h_o97 k2036 (by decide) hl.1 (Nat.le_of_ble_eq_true rfl) d_Mod_settle_368 (fun H locs w => ?_)
      obtain ⟨y98, e_y98, h⟩ := lt_some h
      refine lv_iinc (v := y98) (lv' := [(1, .int y98), (0, .ref (ad 59))]) E.x E.b d_Mod_settle_371 hl (k := 1) rfl (e_y98) (by decide) rfl (fun ls hl => ?_)
      refine lv_goto (tgt := 329) E.x E.b d_Mod_settle_374 (by decide) ?_
      exact hr_329 o97 y98 _ _ _ h w (lv_sub hl [1, 0] rfl)
def F_Mod_settle_324 (σ : Sg) (s1 : Int32) (s2 : Int32) : Option (Sg) := bd (F_Vwm_faces σ s1 s2) (fun o99 => L_Mod_settle_329 100000 o99 0)
set_option maxRecDepth 10000 in
set_option maxHeartbeats 4000000 in
theorem bt_Mod_settle_324 {p : Program} {l : Launch} {e : Env} {R : Room} {s : State} {m : MethodId} {args : Array Value} {below : List Frame} {meth : Method} {c : Code} {D : va_G} {τ : ClassId × ClassId × ClassId} {B : Nat} {A : Nat → Prop} {ad : Nat → Nat} (E : Cx p R s m args meth c prog_14_method_18_code 2 "DrawingMachineModel" 3 D τ B A) (hret : meth.sig.returnType = none) (o : Sg) (σ : Sg) (s1 : Int32) (s2 : Int32) (h : F_Mod_settle_324 σ s1 s2 = some o) {H : Heap} {locs : List Loc} {ls : Array Slot} (w : Wd s D A (wdM τ σ ad) H locs) (hl : lv_has ls 2 [(0, .ref (ad 59))]) : W p l e R s m args below meth c H locs 0 0 (QV below args s A D τ (wdM τ o ad)) (F0 m 324 ls [.int s2, .int s1, .ref (ad 62)]) := by
  obtain ⟨o99, h_o99, h⟩ := bd_some h
  refine clV_Vwm_faces E w (x0 := s1) (x1 := s2) h_o99 k2032 (by decide) hl.1 (Nat.le_of_ble_eq_true rfl) d_Mod_settle_324 (fun H locs w => ?_)
  refine lv_iconst (v := 0) E.x E.b d_Mod_settle_327 (by decide) ?_
  refine lv_istore_n (lv' := [(1, .int 0), (0, .ref (ad 59))]) E.x E.b d_Mod_settle_328 rfl hl (by decide) rfl (fun ls hl => ?_)
  exact lt_Mod_settle_329 E hret o 100000 o99 0 _ _ _ h w (lv_sub hl [1, 0] rfl)
def L_Mod_settle_69 : Nat → Sg → Int32 → Option (Sg)
  | 0, _, _ => none
  | n + 1, σ, v1 => if 2 ≤ v1 then (bd (F_Mod_kept σ 12 0 0) (fun o100 => bd (F_Mod_kept σ 12 0 1) (fun o101 => bd (F_Mod_kept σ 12 0 2) (fun o102 => bd (F_Mod_kept σ 12 0 3) (fun o103 => bd (F_Mod_kept σ 12 0 4) (fun o104 => bd (F_Mod_kept σ 12 0 5) (fun o105 => bd (F_Ptm_blend σ o100 o101 o102 o103 o104 o105) (fun o106 => bd (F_Mod_kept o106 13 0 0) (fun o107 => bd (F_Ptm_constant o106 o107) (fun o108 => bd (F_Mod_kept o108 14 0 0) (fun o109 => bd (F_Ptm_logic o108 o109) (fun o110 => bd (F_Mod_kept o110 15 0 0) (fun o111 => bd (F_Ptm_mask o110 o111) (fun o112 => bd (F_Mod_kept o112 2 0 0) (fun o113 => bd (F_Mod_kept o112 2 0 1) (fun o114 => bd (F_Mod_kept o112 2 0 2) (fun o115 => bd (F_Mod_kept o112 2 0 3) (fun o116 => bd (F_Mod_kept o112 2 0 4) (fun o117 => bd (F_Mod_kept o112 2 0 5) (fun o118 => bd (F_Vwm_view o112 o113 o114 o115 o116 o117 o118) (fun o119 => bd (F_Mod_kept o119 16 0 0) (fun o120 => bd (F_Mod_kept o119 16 0 1) (fun o121 => if o121 = 1 then (F_Mod_settle_324 o119 o120 1) else (F_Mod_settle_324 o119 o120 0)))))))))))))))))))))))) else (bd (F_Mod_kept σ 11 v1 1) (fun o122 => bd (F_Mod_kept σ 11 v1 2) (fun o123 => bd (F_Mod_kept σ 11 v1 3) (fun o124 => bd (F_Mod_kept σ 11 v1 4) (fun o125 => bd (F_Mod_kept σ 11 v1 5) (fun o126 => bd (F_Mod_kept σ 11 v1 6) (fun o127 => bd (F_Mod_kept σ 11 v1 7) (fun o128 => bd (F_Ptm_stencil σ v1 o122 o123 o124 o125 o126 o127 o128) (fun o129 => lt (v1 + 1) (fun y130 => L_Mod_settle_69 n o129 y130))))))))))
set_option maxRecDepth 10000 in
set_option maxHeartbeats 4000000 in
theorem lt_Mod_settle_69 {p : Program} {l : Launch} {e : Env} {R : Room} {s : State} {m : MethodId} {args : Array Value} {below : List Frame} {meth : Method} {c : Code} {D : va_G} {τ : ClassId × ClassId × ClassId} {B : Nat} {A : Nat → Prop} {ad : Nat → Nat} (E : Cx p R s m args meth c prog_14_method_18_code 2 "DrawingMachineModel" 3 D τ B A) (hret : meth.sig.returnType = none) (o : Sg) : ∀ (n : Nat) (σ : Sg) (v1 : Int32) (H : Heap) (locs : List Loc) (ls : Array Slot), L_Mod_settle_69 n σ v1 = some o → Wd s D A (wdM τ σ ad) H locs → lv_has ls 2 [(0, .ref (ad 59)), (1, .int v1)] → W p l e R s m args below meth c H locs 0 0 (QV below args s A D τ (wdM τ o ad)) (F0 m 69 ls []) := by
  intro n
  induction n with
  | zero =>
    intro σ v1 H locs ls h w hl
    cases h
  | succ n hr_69 =>
    intro σ v1 H locs ls h w hl
    refine lv_iload_n E.x E.b d_Mod_settle_69 rfl (lv_at hl 1 rfl) ?_
    refine lv_iconst (v := 2) E.x E.b d_Mod_settle_70 (by decide) ?_
    refine lv_icmp_ge (tgt := 146) E.x E.b d_Mod_settle_71 (by decide) (fun c => ?_) (fun c => ?_)
    ·
      replace h := ifT c h
      refine lv_aload_n E.x E.b d_Mod_settle_146 rfl (lv_at hl 0 rfl) ?_
      refine gM_Mod_tests E w k1774 d_Mod_settle_147 ?_
      refine lv_aload_n E.x E.b d_Mod_settle_150 rfl (lv_at hl 0 rfl) ?_
      refine lv_bipush (v := 12) E.x E.b d_Mod_settle_151 (by decide) ?_
      refine lv_iconst (v := 0) E.x E.b d_Mod_settle_153 (by decide) ?_
      refine lv_iconst (v := 0) E.x E.b d_Mod_settle_154 (by decide) ?_
      obtain ⟨o100, h_o100, h⟩ := bd_some h
      refine clV_Mod_kept E w (x0 := 12) (x1 := 0) (x2 := 0) h_o100 k1908 (by decide) hl.1 (Nat.le_of_ble_eq_true rfl) d_Mod_settle_155 (fun H locs w => ?_)
      refine lv_aload_n E.x E.b d_Mod_settle_158 rfl (lv_at hl 0 rfl) ?_
      refine lv_bipush (v := 12) E.x E.b d_Mod_settle_159 (by decide) ?_
      refine lv_iconst (v := 0) E.x E.b d_Mod_settle_161 (by decide) ?_
      refine lv_iconst (v := 1) E.x E.b d_Mod_settle_162 (by decide) ?_
      obtain ⟨o101, h_o101, h⟩ := bd_some h
      refine clV_Mod_kept E w (x0 := 12) (x1 := 0) (x2 := 1) h_o101 k1908 (by decide) hl.1 (Nat.le_of_ble_eq_true rfl) d_Mod_settle_163 (fun H locs w => ?_)
      refine lv_aload_n E.x E.b d_Mod_settle_166 rfl (lv_at hl 0 rfl) ?_
      refine lv_bipush (v := 12) E.x E.b d_Mod_settle_167 (by decide) ?_
      refine lv_iconst (v := 0) E.x E.b d_Mod_settle_169 (by decide) ?_
      refine lv_iconst (v := 2) E.x E.b d_Mod_settle_170 (by decide) ?_
      obtain ⟨o102, h_o102, h⟩ := bd_some h
      refine clV_Mod_kept E w (x0 := 12) (x1 := 0) (x2 := 2) h_o102 k1908 (by decide) hl.1 (Nat.le_of_ble_eq_true rfl) d_Mod_settle_171 (fun H locs w => ?_)
      refine lv_aload_n E.x E.b d_Mod_settle_174 rfl (lv_at hl 0 rfl) ?_
      refine lv_bipush (v := 12) E.x E.b d_Mod_settle_175 (by decide) ?_
      refine lv_iconst (v := 0) E.x E.b d_Mod_settle_177 (by decide) ?_
      refine lv_iconst (v := 3) E.x E.b d_Mod_settle_178 (by decide) ?_
      obtain ⟨o103, h_o103, h⟩ := bd_some h
      refine clV_Mod_kept E w (x0 := 12) (x1 := 0) (x2 := 3) h_o103 k1908 (by decide) hl.1 (Nat.le_of_ble_eq_true rfl) d_Mod_settle_179 (fun H locs w => ?_)
      refine lv_aload_n E.x E.b d_Mod_settle_182 rfl (lv_at hl 0 rfl) ?_
      refine lv_bipush (v := 12) E.x E.b d_Mod_settle_183 (by decide) ?_
      refine lv_iconst (v := 0) E.x E.b d_Mod_settle_185 (by decide) ?_
      refine lv_iconst (v := 4) E.x E.b d_Mod_settle_186 (by decide) ?_
      obtain ⟨o104, h_o104, h⟩ := bd_some h
      refine clV_Mod_kept E w (x0 := 12) (x1 := 0) (x2 := 4) h_o104 k1908 (by decide) hl.1 (Nat.le_of_ble_eq_true rfl) d_Mod_settle_187 (fun H locs w => ?_)
      refine lv_aload_n E.x E.b d_Mod_settle_190 rfl (lv_at hl 0 rfl) ?_
      refine lv_bipush (v := 12) E.x E.b d_Mod_settle_191 (by decide) ?_
      refine lv_iconst (v := 0) E.x E.b d_Mod_settle_193 (by decide) ?_
      refine lv_iconst (v := 5) E.x E.b d_Mod_settle_194 (by decide) ?_
      obtain ⟨o105, h_o105, h⟩ := bd_some h
      refine clV_Mod_kept E w (x0 := 12) (x1 := 0) (x2 := 5) h_o105 k1908 (by decide) hl.1 (Nat.le_of_ble_eq_true rfl) d_Mod_settle_195 (fun H locs w => ?_)
      obtain ⟨o106, h_o106, h⟩ := bd_some h
      refine clV_Ptm_blend E w (x0 := o100) (x1 := o101) (x2 := o102) (x3 := o103) (x4 := o104) (x5 := o105) h_o106 k2005 (by decide) hl.1 (Nat.le_of_ble_eq_true rfl) d_Mod_settle_198 (fun H locs w => ?_)
      refine lv_aload_n E.x E.b d_Mod_settle_201 rfl (lv_at hl 0 rfl) ?_
      refine gM_Mod_tests E w k1774 d_Mod_settle_202 ?_
      refine lv_aload_n E.x E.b d_Mod_settle_205 rfl (lv_at hl 0 rfl) ?_
      refine lv_bipush (v := 13) E.x E.b d_Mod_settle_206 (by decide) ?_
      refine lv_iconst (v := 0) E.x E.b d_Mod_settle_208 (by decide) ?_
      refine lv_iconst (v := 0) E.x E.b d_Mod_settle_209 (by decide) ?_
      obtain ⟨o107, h_o107, h⟩ := bd_some h
      refine clV_Mod_kept E w (x0 := 13) (x1 := 0) (x2 := 0) h_o107 k1908 (by decide) hl.1 (Nat.le_of_ble_eq_true rfl) d_Mod_settle_210 (fun H locs w => ?_)
      obtain ⟨o108, h_o108, h⟩ := bd_some h
      refine clV_Ptm_constant E w (x0 := o107) h_o108 k2009 (by decide) hl.1 (Nat.le_of_ble_eq_true rfl) d_Mod_settle_213 (fun H locs w => ?_)
      refine lv_aload_n E.x E.b d_Mod_settle_216 rfl (lv_at hl 0 rfl) ?_
      refine gM_Mod_tests E w k1774 d_Mod_settle_217 ?_
      refine lv_aload_n E.x E.b d_Mod_settle_220 rfl (lv_at hl 0 rfl) ?_
      refine lv_bipush (v := 14) E.x E.b d_Mod_settle_221 (by decide) ?_
      refine lv_iconst (v := 0) E.x E.b d_Mod_settle_223 (by decide) ?_
      refine lv_iconst (v := 0) E.x E.b d_Mod_settle_224 (by decide) ?_
      obtain ⟨o109, h_o109, h⟩ := bd_some h
      refine clV_Mod_kept E w (x0 := 14) (x1 := 0) (x2 := 0) h_o109 k1908 (by decide) hl.1 (Nat.le_of_ble_eq_true rfl) d_Mod_settle_225 (fun H locs w => ?_)
      obtain ⟨o110, h_o110, h⟩ := bd_some h
      refine clV_Ptm_logic E w (x0 := o109) h_o110 k2013 (by decide) hl.1 (Nat.le_of_ble_eq_true rfl) d_Mod_settle_228 (fun H locs w => ?_)
      refine lv_aload_n E.x E.b d_Mod_settle_231 rfl (lv_at hl 0 rfl) ?_
      refine gM_Mod_tests E w k1774 d_Mod_settle_232 ?_
      refine lv_aload_n E.x E.b d_Mod_settle_235 rfl (lv_at hl 0 rfl) ?_
      refine lv_bipush (v := 15) E.x E.b d_Mod_settle_236 (by decide) ?_
      refine lv_iconst (v := 0) E.x E.b d_Mod_settle_238 (by decide) ?_
      refine lv_iconst (v := 0) E.x E.b d_Mod_settle_239 (by decide) ?_
      obtain ⟨o111, h_o111, h⟩ := bd_some h
      refine clV_Mod_kept E w (x0 := 15) (x1 := 0) (x2 := 0) h_o111 k1908 (by decide) hl.1 (Nat.le_of_ble_eq_true rfl) d_Mod_settle_240 (fun H locs w => ?_)
      obtain ⟨o112, h_o112, h⟩ := bd_some h
      refine clV_Ptm_mask E w (x0 := o111) h_o112 k2017 (by decide) hl.1 (Nat.le_of_ble_eq_true rfl) d_Mod_settle_243 (fun H locs w => ?_)
      refine lv_aload_n E.x E.b d_Mod_settle_246 rfl (lv_at hl 0 rfl) ?_
      refine gM_Mod_vertices E w k1772 d_Mod_settle_247 ?_
      refine lv_aload_n E.x E.b d_Mod_settle_250 rfl (lv_at hl 0 rfl) ?_
      refine lv_iconst (v := 2) E.x E.b d_Mod_settle_251 (by decide) ?_
      refine lv_iconst (v := 0) E.x E.b d_Mod_settle_252 (by decide) ?_
      refine lv_iconst (v := 0) E.x E.b d_Mod_settle_253 (by decide) ?_
      obtain ⟨o113, h_o113, h⟩ := bd_some h
      refine clV_Mod_kept E w (x0 := 2) (x1 := 0) (x2 := 0) h_o113 k1908 (by decide) hl.1 (Nat.le_of_ble_eq_true rfl) d_Mod_settle_254 (fun H locs w => ?_)
      refine lv_aload_n E.x E.b d_Mod_settle_257 rfl (lv_at hl 0 rfl) ?_
      refine lv_iconst (v := 2) E.x E.b d_Mod_settle_258 (by decide) ?_
      refine lv_iconst (v := 0) E.x E.b d_Mod_settle_259 (by decide) ?_
      refine lv_iconst (v := 1) E.x E.b d_Mod_settle_260 (by decide) ?_
      obtain ⟨o114, h_o114, h⟩ := bd_some h
      refine clV_Mod_kept E w (x0 := 2) (x1 := 0) (x2 := 1) h_o114 k1908 (by decide) hl.1 (Nat.le_of_ble_eq_true rfl) d_Mod_settle_261 (fun H locs w => ?_)
      refine lv_aload_n E.x E.b d_Mod_settle_264 rfl (lv_at hl 0 rfl) ?_
      refine lv_iconst (v := 2) E.x E.b d_Mod_settle_265 (by decide) ?_
      refine lv_iconst (v := 0) E.x E.b d_Mod_settle_266 (by decide) ?_
      refine lv_iconst (v := 2) E.x E.b d_Mod_settle_267 (by decide) ?_
      obtain ⟨o115, h_o115, h⟩ := bd_some h
      refine clV_Mod_kept E w (x0 := 2) (x1 := 0) (x2 := 2) h_o115 k1908 (by decide) hl.1 (Nat.le_of_ble_eq_true rfl) d_Mod_settle_268 (fun H locs w => ?_)
      refine lv_aload_n E.x E.b d_Mod_settle_271 rfl (lv_at hl 0 rfl) ?_
      refine lv_iconst (v := 2) E.x E.b d_Mod_settle_272 (by decide) ?_
      refine lv_iconst (v := 0) E.x E.b d_Mod_settle_273 (by decide) ?_
      refine lv_iconst (v := 3) E.x E.b d_Mod_settle_274 (by decide) ?_
      obtain ⟨o116, h_o116, h⟩ := bd_some h
      refine clV_Mod_kept E w (x0 := 2) (x1 := 0) (x2 := 3) h_o116 k1908 (by decide) hl.1 (Nat.le_of_ble_eq_true rfl) d_Mod_settle_275 (fun H locs w => ?_)
      refine lv_aload_n E.x E.b d_Mod_settle_278 rfl (lv_at hl 0 rfl) ?_
      refine lv_iconst (v := 2) E.x E.b d_Mod_settle_279 (by decide) ?_
      refine lv_iconst (v := 0) E.x E.b d_Mod_settle_280 (by decide) ?_
      refine lv_iconst (v := 4) E.x E.b d_Mod_settle_281 (by decide) ?_
      obtain ⟨o117, h_o117, h⟩ := bd_some h
      refine clV_Mod_kept E w (x0 := 2) (x1 := 0) (x2 := 4) h_o117 k1908 (by decide) hl.1 (Nat.le_of_ble_eq_true rfl) d_Mod_settle_282 (fun H locs w => ?_)
      refine lv_aload_n E.x E.b d_Mod_settle_285 rfl (lv_at hl 0 rfl) ?_
      refine lv_iconst (v := 2) E.x E.b d_Mod_settle_286 (by decide) ?_
      refine lv_iconst (v := 0) E.x E.b d_Mod_settle_287 (by decide) ?_
      refine lv_iconst (v := 5) E.x E.b d_Mod_settle_288 (by decide) ?_
      obtain ⟨o118, h_o118, h⟩ := bd_some h
      refine clV_Mod_kept E w (x0 := 2) (x1 := 0) (x2 := 5) h_o118 k1908 (by decide) hl.1 (Nat.le_of_ble_eq_true rfl) d_Mod_settle_289 (fun H locs w => ?_)
      obtain ⟨o119, h_o119, h⟩ := bd_some h
      refine clV_Vwm_view E w (x0 := o113) (x1 := o114) (x2 := o115) (x3 := o116) (x4 := o117) (x5 := o118) h_o119 k2021 (by decide) hl.1 (Nat.le_of_ble_eq_true rfl) d_Mod_settle_292 (fun H locs w => ?_)
      refine lv_aload_n E.x E.b d_Mod_settle_295 rfl (lv_at hl 0 rfl) ?_
      refine gM_Mod_vertices E w k1772 d_Mod_settle_296 ?_
      refine lv_aload_n E.x E.b d_Mod_settle_299 rfl (lv_at hl 0 rfl) ?_
      refine lv_bipush (v := 16) E.x E.b d_Mod_settle_300 (by decide) ?_
      refine lv_iconst (v := 0) E.x E.b d_Mod_settle_302 (by decide) ?_
      refine lv_iconst (v := 0) E.x E.b d_Mod_settle_303 (by decide) ?_
      obtain ⟨o120, h_o120, h⟩ := bd_some h
      refine clV_Mod_kept E w (x0 := 16) (x1 := 0) (x2 := 0) h_o120 k1908 (by decide) hl.1 (Nat.le_of_ble_eq_true rfl) d_Mod_settle_304 (fun H locs w => ?_)
      refine lv_aload_n E.x E.b d_Mod_settle_307 rfl (lv_at hl 0 rfl) ?_
      refine lv_bipush (v := 16) E.x E.b d_Mod_settle_308 (by decide) ?_
      refine lv_iconst (v := 0) E.x E.b d_Mod_settle_310 (by decide) ?_
      refine lv_iconst (v := 1) E.x E.b d_Mod_settle_311 (by decide) ?_
      obtain ⟨o121, h_o121, h⟩ := bd_some h
      refine clV_Mod_kept E w (x0 := 16) (x1 := 0) (x2 := 1) h_o121 k1908 (by decide) hl.1 (Nat.le_of_ble_eq_true rfl) d_Mod_settle_312 (fun H locs w => ?_)
      refine lv_iconst (v := 1) E.x E.b d_Mod_settle_315 (by decide) ?_
      refine lv_icmp_ne (tgt := 323) E.x E.b d_Mod_settle_316 (by decide) (fun c => ?_) (fun c => ?_)
      ·
        replace h := ifF c h
        refine lv_iconst (v := 0) E.x E.b d_Mod_settle_323 (by decide) ?_
        exact bt_Mod_settle_324 E hret o o119 o120 0 h w (lv_sub hl [0] rfl)
      ·
        replace h := ifT c h
        refine lv_iconst (v := 1) E.x E.b d_Mod_settle_319 (by decide) ?_
        refine lv_goto (tgt := 324) E.x E.b d_Mod_settle_320 (by decide) ?_
        exact bt_Mod_settle_324 E hret o o119 o120 1 h w (lv_sub hl [0] rfl)
    ·
      replace h := ifF c h
      refine lv_aload_n E.x E.b d_Mod_settle_74 rfl (lv_at hl 0 rfl) ?_
      refine gM_Mod_tests E w k1774 d_Mod_settle_75 ?_
      refine lv_iload_n E.x E.b d_Mod_settle_78 rfl (lv_at hl 1 rfl) ?_
      refine lv_aload_n E.x E.b d_Mod_settle_79 rfl (lv_at hl 0 rfl) ?_
      refine lv_bipush (v := 11) E.x E.b d_Mod_settle_80 (by decide) ?_
      refine lv_iload_n E.x E.b d_Mod_settle_82 rfl (lv_at hl 1 rfl) ?_
      refine lv_iconst (v := 1) E.x E.b d_Mod_settle_83 (by decide) ?_
      obtain ⟨o122, h_o122, h⟩ := bd_some h
      refine clV_Mod_kept E w (x0 := 11) (x1 := v1) (x2 := 1) h_o122 k1908 (by decide) hl.1 (Nat.le_of_ble_eq_true rfl) d_Mod_settle_84 (fun H locs w => ?_)
      refine lv_aload_n E.x E.b d_Mod_settle_87 rfl (lv_at hl 0 rfl) ?_
      refine lv_bipush (v := 11) E.x E.b d_Mod_settle_88 (by decide) ?_
      refine lv_iload_n E.x E.b d_Mod_settle_90 rfl (lv_at hl 1 rfl) ?_
      refine lv_iconst (v := 2) E.x E.b d_Mod_settle_91 (by decide) ?_
      obtain ⟨o123, h_o123, h⟩ := bd_some h
      refine clV_Mod_kept E w (x0 := 11) (x1 := v1) (x2 := 2) h_o123 k1908 (by decide) hl.1 (Nat.le_of_ble_eq_true rfl) d_Mod_settle_92 (fun H locs w => ?_)
      refine lv_aload_n E.x E.b d_Mod_settle_95 rfl (lv_at hl 0 rfl) ?_
      refine lv_bipush (v := 11) E.x E.b d_Mod_settle_96 (by decide) ?_
      refine lv_iload_n E.x E.b d_Mod_settle_98 rfl (lv_at hl 1 rfl) ?_
      refine lv_iconst (v := 3) E.x E.b d_Mod_settle_99 (by decide) ?_
      obtain ⟨o124, h_o124, h⟩ := bd_some h
      refine clV_Mod_kept E w (x0 := 11) (x1 := v1) (x2 := 3) h_o124 k1908 (by decide) hl.1 (Nat.le_of_ble_eq_true rfl) d_Mod_settle_100 (fun H locs w => ?_)
      refine lv_aload_n E.x E.b d_Mod_settle_103 rfl (lv_at hl 0 rfl) ?_
      refine lv_bipush (v := 11) E.x E.b d_Mod_settle_104 (by decide) ?_
      refine lv_iload_n E.x E.b d_Mod_settle_106 rfl (lv_at hl 1 rfl) ?_
      refine lv_iconst (v := 4) E.x E.b d_Mod_settle_107 (by decide) ?_
      obtain ⟨o125, h_o125, h⟩ := bd_some h
      refine clV_Mod_kept E w (x0 := 11) (x1 := v1) (x2 := 4) h_o125 k1908 (by decide) hl.1 (Nat.le_of_ble_eq_true rfl) d_Mod_settle_108 (fun H locs w => ?_)
      refine lv_aload_n E.x E.b d_Mod_settle_111 rfl (lv_at hl 0 rfl) ?_
      refine lv_bipush (v := 11) E.x E.b d_Mod_settle_112 (by decide) ?_
      refine lv_iload_n E.x E.b d_Mod_settle_114 rfl (lv_at hl 1 rfl) ?_
      refine lv_iconst (v := 5) E.x E.b d_Mod_settle_115 (by decide) ?_
      obtain ⟨o126, h_o126, h⟩ := bd_some h
      refine clV_Mod_kept E w (x0 := 11) (x1 := v1) (x2 := 5) h_o126 k1908 (by decide) hl.1 (Nat.le_of_ble_eq_true rfl) d_Mod_settle_116 (fun H locs w => ?_)
      refine lv_aload_n E.x E.b d_Mod_settle_119 rfl (lv_at hl 0 rfl) ?_
      refine lv_bipush (v := 11) E.x E.b d_Mod_settle_120 (by decide) ?_
      refine lv_iload_n E.x E.b d_Mod_settle_122 rfl (lv_at hl 1 rfl) ?_
      refine lv_bipush (v := 6) E.x E.b d_Mod_settle_123 (by decide) ?_
      obtain ⟨o127, h_o127, h⟩ := bd_some h
      refine clV_Mod_kept E w (x0 := 11) (x1 := v1) (x2 := 6) h_o127 k1908 (by decide) hl.1 (Nat.le_of_ble_eq_true rfl) d_Mod_settle_125 (fun H locs w => ?_)
      refine lv_aload_n E.x E.b d_Mod_settle_128 rfl (lv_at hl 0 rfl) ?_
      refine lv_bipush (v := 11) E.x E.b d_Mod_settle_129 (by decide) ?_
      refine lv_iload_n E.x E.b d_Mod_settle_131 rfl (lv_at hl 1 rfl) ?_
      refine lv_bipush (v := 7) E.x E.b d_Mod_settle_132 (by decide) ?_
      obtain ⟨o128, h_o128, h⟩ := bd_some h
      refine clV_Mod_kept E w (x0 := 11) (x1 := v1) (x2 := 7) h_o128 k1908 (by decide) hl.1 (Nat.le_of_ble_eq_true rfl) d_Mod_settle_134 (fun H locs w => ?_)
      obtain ⟨o129, h_o129, h⟩ := bd_some h
      refine clV_Ptm_stencil E w (x0 := v1) (x1 := o122) (x2 := o123) (x3 := o124) (x4 := o125) (x5 := o126) (x6 := o127) (x7 := o128) h_o129 k2001 (by decide) hl.1 (Nat.le_of_ble_eq_true rfl) d_Mod_settle_137 (fun H locs w => ?_)
      obtain ⟨y130, e_y130, h⟩ := lt_some h
      refine lv_iinc (v := y130) (lv' := [(1, .int y130), (0, .ref (ad 59))]) E.x E.b d_Mod_settle_140 hl (k := 1) rfl (e_y130) (by decide) rfl (fun ls hl => ?_)
      refine lv_goto (tgt := 69) E.x E.b d_Mod_settle_143 (by decide) ?_
      exact hr_69 o129 y130 _ _ _ h w (lv_sub hl [1, 0] rfl)
def F_Mod_settle_64 (σ : Sg) (s1 : Int32) (s2 : Int32) : Option (Sg) := bd (F_Ptm_depth σ s1 s2) (fun o131 => L_Mod_settle_69 100000 o131 0)
set_option maxRecDepth 10000 in
set_option maxHeartbeats 4000000 in
theorem bt_Mod_settle_64 {p : Program} {l : Launch} {e : Env} {R : Room} {s : State} {m : MethodId} {args : Array Value} {below : List Frame} {meth : Method} {c : Code} {D : va_G} {τ : ClassId × ClassId × ClassId} {B : Nat} {A : Nat → Prop} {ad : Nat → Nat} (E : Cx p R s m args meth c prog_14_method_18_code 2 "DrawingMachineModel" 3 D τ B A) (hret : meth.sig.returnType = none) (o : Sg) (σ : Sg) (s1 : Int32) (s2 : Int32) (h : F_Mod_settle_64 σ s1 s2 = some o) {H : Heap} {locs : List Loc} {ls : Array Slot} (w : Wd s D A (wdM τ σ ad) H locs) (hl : lv_has ls 2 [(0, .ref (ad 59))]) : W p l e R s m args below meth c H locs 0 0 (QV below args s A D τ (wdM τ o ad)) (F0 m 64 ls [.int s2, .int s1, .ref (ad 64)]) := by
  obtain ⟨o131, h_o131, h⟩ := bd_some h
  refine clV_Ptm_depth E w (x0 := s1) (x1 := s2) h_o131 k1997 (by decide) hl.1 (Nat.le_of_ble_eq_true rfl) d_Mod_settle_64 (fun H locs w => ?_)
  refine lv_iconst (v := 0) E.x E.b d_Mod_settle_67 (by decide) ?_
  refine lv_istore_n (lv' := [(1, .int 0), (0, .ref (ad 59))]) E.x E.b d_Mod_settle_68 rfl hl (by decide) rfl (fun ls hl => ?_)
  exact lt_Mod_settle_69 E hret o 100000 o131 0 _ _ _ h w (lv_sub hl [1, 0] rfl)
def F_Mod_settle (σ : Sg) : Option (Sg) := bd (F_Mod_kept σ 3 0 0) (fun o132 => bd (F_Mod_kept σ 3 0 1) (fun o133 => bd (F_Mod_kept σ 3 0 2) (fun o134 => bd (F_Mod_kept σ 3 0 3) (fun o135 => bd (F_Ptm_scissors σ o132 o133 o134 o135) (fun o136 => bd (F_Mod_kept o136 10 0 0) (fun o137 => bd (F_Mod_kept o136 10 0 1) (fun o138 => if o138 = 1 then (F_Mod_settle_64 o136 o137 1) else (F_Mod_settle_64 o136 o137 0))))))))
set_option maxRecDepth 10000 in
set_option maxHeartbeats 4000000 in
theorem c_Mod_settle (l : Launch) (D : va_G) (τ : ClassId × ClassId × ClassId) (B : Nat) (σ : Sg) (ad : Nat → Nat) (o : Sg) (h : F_Mod_settle σ = some o) : MV l y_Mod_settle (Cond.code y_Mod_settle prog_14_method_18_code 2 none) 3 D τ B [.ref (ad 59)] (wdM τ σ ad) (wdM τ o ad) := by
  refine en_v (by decide) (Nat.le_of_ble_eq_true rfl) ?_
  intro p e R s m args below meth c H locs ls A E hret w hl
  have E : Cx p R s m args meth c prog_14_method_18_code 2 "DrawingMachineModel" 3 D τ B A := E
  have hl : lv_has ls 2 [(0, .ref (ad 59))] := hl
  refine lv_aload_n E.x E.b d_Mod_settle_0 rfl (lv_at hl 0 rfl) ?_
  refine gM_Mod_tests E w k1774 d_Mod_settle_1 ?_
  refine lv_aload_n E.x E.b d_Mod_settle_4 rfl (lv_at hl 0 rfl) ?_
  refine lv_iconst (v := 3) E.x E.b d_Mod_settle_5 (by decide) ?_
  refine lv_iconst (v := 0) E.x E.b d_Mod_settle_6 (by decide) ?_
  refine lv_iconst (v := 0) E.x E.b d_Mod_settle_7 (by decide) ?_
  obtain ⟨o132, h_o132, h⟩ := bd_some h
  refine clV_Mod_kept E w (x0 := 3) (x1 := 0) (x2 := 0) h_o132 k1908 (by decide) hl.1 (Nat.le_of_ble_eq_true rfl) d_Mod_settle_8 (fun H locs w => ?_)
  refine lv_aload_n E.x E.b d_Mod_settle_11 rfl (lv_at hl 0 rfl) ?_
  refine lv_iconst (v := 3) E.x E.b d_Mod_settle_12 (by decide) ?_
  refine lv_iconst (v := 0) E.x E.b d_Mod_settle_13 (by decide) ?_
  refine lv_iconst (v := 1) E.x E.b d_Mod_settle_14 (by decide) ?_
  obtain ⟨o133, h_o133, h⟩ := bd_some h
  refine clV_Mod_kept E w (x0 := 3) (x1 := 0) (x2 := 1) h_o133 k1908 (by decide) hl.1 (Nat.le_of_ble_eq_true rfl) d_Mod_settle_15 (fun H locs w => ?_)
  refine lv_aload_n E.x E.b d_Mod_settle_18 rfl (lv_at hl 0 rfl) ?_
  refine lv_iconst (v := 3) E.x E.b d_Mod_settle_19 (by decide) ?_
  refine lv_iconst (v := 0) E.x E.b d_Mod_settle_20 (by decide) ?_
  refine lv_iconst (v := 2) E.x E.b d_Mod_settle_21 (by decide) ?_
  obtain ⟨o134, h_o134, h⟩ := bd_some h
  refine clV_Mod_kept E w (x0 := 3) (x1 := 0) (x2 := 2) h_o134 k1908 (by decide) hl.1 (Nat.le_of_ble_eq_true rfl) d_Mod_settle_22 (fun H locs w => ?_)
  refine lv_aload_n E.x E.b d_Mod_settle_25 rfl (lv_at hl 0 rfl) ?_
  refine lv_iconst (v := 3) E.x E.b d_Mod_settle_26 (by decide) ?_
  refine lv_iconst (v := 0) E.x E.b d_Mod_settle_27 (by decide) ?_
  refine lv_iconst (v := 3) E.x E.b d_Mod_settle_28 (by decide) ?_
  obtain ⟨o135, h_o135, h⟩ := bd_some h
  refine clV_Mod_kept E w (x0 := 3) (x1 := 0) (x2 := 3) h_o135 k1908 (by decide) hl.1 (Nat.le_of_ble_eq_true rfl) d_Mod_settle_29 (fun H locs w => ?_)
  obtain ⟨o136, h_o136, h⟩ := bd_some h
  refine clV_Ptm_scissors E w (x0 := o132) (x1 := o133) (x2 := o134) (x3 := o135) h_o136 k1993 (by decide) hl.1 (Nat.le_of_ble_eq_true rfl) d_Mod_settle_32 (fun H locs w => ?_)
  refine lv_aload_n E.x E.b d_Mod_settle_35 rfl (lv_at hl 0 rfl) ?_
  refine gM_Mod_tests E w k1774 d_Mod_settle_36 ?_
  refine lv_aload_n E.x E.b d_Mod_settle_39 rfl (lv_at hl 0 rfl) ?_
  refine lv_bipush (v := 10) E.x E.b d_Mod_settle_40 (by decide) ?_
  refine lv_iconst (v := 0) E.x E.b d_Mod_settle_42 (by decide) ?_
  refine lv_iconst (v := 0) E.x E.b d_Mod_settle_43 (by decide) ?_
  obtain ⟨o137, h_o137, h⟩ := bd_some h
  refine clV_Mod_kept E w (x0 := 10) (x1 := 0) (x2 := 0) h_o137 k1908 (by decide) hl.1 (Nat.le_of_ble_eq_true rfl) d_Mod_settle_44 (fun H locs w => ?_)
  refine lv_aload_n E.x E.b d_Mod_settle_47 rfl (lv_at hl 0 rfl) ?_
  refine lv_bipush (v := 10) E.x E.b d_Mod_settle_48 (by decide) ?_
  refine lv_iconst (v := 0) E.x E.b d_Mod_settle_50 (by decide) ?_
  refine lv_iconst (v := 1) E.x E.b d_Mod_settle_51 (by decide) ?_
  obtain ⟨o138, h_o138, h⟩ := bd_some h
  refine clV_Mod_kept E w (x0 := 10) (x1 := 0) (x2 := 1) h_o138 k1908 (by decide) hl.1 (Nat.le_of_ble_eq_true rfl) d_Mod_settle_52 (fun H locs w => ?_)
  refine lv_iconst (v := 1) E.x E.b d_Mod_settle_55 (by decide) ?_
  refine lv_icmp_ne (tgt := 63) E.x E.b d_Mod_settle_56 (by decide) (fun c => ?_) (fun c => ?_)
  ·
    replace h := ifF c h
    refine lv_iconst (v := 0) E.x E.b d_Mod_settle_63 (by decide) ?_
    exact bt_Mod_settle_64 E hret o o136 o137 0 h w (lv_sub hl [0] rfl)
  ·
    replace h := ifT c h
    refine lv_iconst (v := 1) E.x E.b d_Mod_settle_59 (by decide) ?_
    refine lv_goto (tgt := 64) E.x E.b d_Mod_settle_60 (by decide) ?_
    exact bt_Mod_settle_64 E hret o o136 o137 1 h w (lv_sub hl [0] rfl)
theorem clV_Mod_settle {p : Program} {l : Launch} {e : Env} {R : Room} {s : State} {m : MethodId} {args : Array Value} {below : List Frame} {meth : Method} {c : Code} {H : Heap} {locs : List Loc} {Q : State → Prop} {cc : ByteArray} {nL pc lev : Nat} {own : String} {D : va_G} {τ : ClassId × ClassId × ClassId} {B : Nat} {A : Nat → Prop} {σ : Sg} {ad : Nat → Nat} {ls : Array Slot} {rest : List Value} (E : Cx p R s m args meth c cc nL own lev D τ B A) (w : Wd s D A (wdM τ σ ad) H locs) {o : Sg} (h : F_Mod_settle σ = some o) {index : Nat} (hlk : Cond.methodLink own index y_Mod_settle ∈ tw) (hlev : 3 < lev) (hsz : ls.size = nL) (hr : (rest.map fun v => v.category).sum ≤ 8) (hd : decode cc pc = .ok (.invokevirtual index, 3)) (kk : ∀ (H1 : Heap) (locs1 : List Loc), Wd s D A (wdM τ o ad) H1 locs1 → W p l e R s m args below meth c H1 locs1 0 0 Q (F0 m (pc + 3) ls (rest))) : W p l e R s m args below meth c H locs 0 0 Q (F0 m pc ls (.ref (ad 59) :: rest)) :=
  cr_v w E.C (va_runV (As := []) (rest := rest) E.fix (c_Mod_settle l D τ B σ ad o h H.size) (cwV 0 E.w (tw_pre (tw_good k1992) (l := [_, _, _, _]) (List.forall_mem_cons.mpr ⟨hlk, List.forall_mem_cons.mpr ⟨k1991, List.forall_mem_cons.mpr ⟨ks59, List.forall_mem_cons.mpr ⟨k14, fun _ h => absurd h List.not_mem_nil⟩⟩⟩⟩)) rfl rfl rfl (by decide +kernel) (E.rm hlev (by decide))) (wd_preV w E.C [] rcM_Mod rfl) rfl rfl hsz rfl (lv_room hr) hd ⟨Nat.zero_le _, Nat.zero_le _⟩) kk

theorem d_Mod_greatest_0 : decode prog_14_method_22_code 0 = .ok (.iload_n 0, 1) := by decide +kernel
theorem d_Mod_greatest_1 : decode prog_14_method_22_code 1 = .ok (.iload_n 1, 1) := by decide +kernel
theorem d_Mod_greatest_2 : decode prog_14_method_22_code 2 = .ok (.if_icmp .le 7, 3) := by decide +kernel
theorem d_Mod_greatest_5 : decode prog_14_method_22_code 5 = .ok (.iload_n 0, 1) := by decide +kernel
theorem d_Mod_greatest_6 : decode prog_14_method_22_code 6 = .ok (.goto 4, 3) := by decide +kernel
theorem d_Mod_greatest_9 : decode prog_14_method_22_code 9 = .ok (.iload_n 1, 1) := by decide +kernel
theorem d_Mod_greatest_10 : decode prog_14_method_22_code 10 = .ok (.ireturn, 1) := by decide +kernel
def F_Mod_greatest_10  (s0 : Int32) : Option (Int32) := some s0
set_option maxRecDepth 10000 in
set_option maxHeartbeats 4000000 in
theorem bt_Mod_greatest_10 {p : Program} {l : Launch} {e : Env} {R : Room} {s : State} {m : MethodId} {args : Array Value} {below : List Frame} {meth : Method} {c : Code} {D : va_G} {τ : ClassId × ClassId × ClassId} {B : Nat} {A : Nat → Prop} {ad : Nat → Nat} {σ0 : Sg} (E : Cx p R s m args meth c prog_14_method_22_code 2 "DrawingMachineModel" 0 D τ B A) (hret : meth.sig.returnType = (some .int)) (o : Int32) (s0 : Int32) (h : F_Mod_greatest_10 s0 = some o) {H : Heap} {locs : List Loc} {ls : Array Slot} (w : Wd s D A (wdM τ σ0 ad) H locs) (hl : lv_has ls 2 []) : W p l e R s m args below meth c H locs 0 0 (QI below args s A D τ (wdM τ σ0 ad) o) (F0 m 10 ls [.int s0]) := by
  obtain rfl := Option.some.inj h
  exact rt_i E w hret d_Mod_greatest_10
def F_Mod_greatest  (x0 : Int32) (x1 : Int32) : Option (Int32) := if x0 ≤ x1 then (F_Mod_greatest_10 x1) else (F_Mod_greatest_10 x0)
set_option maxRecDepth 10000 in
set_option maxHeartbeats 4000000 in
theorem c_Mod_greatest (l : Launch) (D : va_G) (τ : ClassId × ClassId × ClassId) (B : Nat) (σ0 : Sg) (ad : Nat → Nat) (x0 : Int32) (x1 : Int32) (o : Int32) (h : F_Mod_greatest x0 x1 = some o) : MI l y_Mod_greatest (Cond.code y_Mod_greatest prog_14_method_22_code 2 (some .int)) 0 D τ B [.int x0, .int x1] (wdM τ σ0 ad) (wdM τ σ0 ad) o := by
  refine en_i (by decide) (Nat.le_of_ble_eq_true rfl) ?_
  intro p e R s m args below meth c H locs ls A E hret w hl
  have E : Cx p R s m args meth c prog_14_method_22_code 2 "DrawingMachineModel" 0 D τ B A := E
  have hl : lv_has ls 2 [(0, .int x0), (1, .int x1)] := hl
  refine lv_iload_n E.x E.b d_Mod_greatest_0 rfl (lv_at hl 0 rfl) ?_
  refine lv_iload_n E.x E.b d_Mod_greatest_1 rfl (lv_at hl 1 rfl) ?_
  refine lv_icmp_le (tgt := 9) E.x E.b d_Mod_greatest_2 (by decide) (fun c => ?_) (fun c => ?_)
  ·
    replace h := ifT c h
    refine lv_iload_n E.x E.b d_Mod_greatest_9 rfl (lv_at hl 1 rfl) ?_
    exact bt_Mod_greatest_10 E hret o x1 h w (lv_sub hl [] rfl)
  ·
    replace h := ifF c h
    refine lv_iload_n E.x E.b d_Mod_greatest_5 rfl (lv_at hl 0 rfl) ?_
    refine lv_goto (tgt := 10) E.x E.b d_Mod_greatest_6 (by decide) ?_
    exact bt_Mod_greatest_10 E hret o x0 h w (lv_sub hl [] rfl)
theorem clS_Mod_greatest {p : Program} {l : Launch} {e : Env} {R : Room} {s : State} {m : MethodId} {args : Array Value} {below : List Frame} {meth : Method} {c : Code} {H : Heap} {locs : List Loc} {Q : State → Prop} {cc : ByteArray} {nL pc lev : Nat} {own : String} {D : va_G} {τ : ClassId × ClassId × ClassId} {B : Nat} {A : Nat → Prop} {σ : Sg} {ad : Nat → Nat} {ls : Array Slot} {rest : List Value} (E : Cx p R s m args meth c cc nL own lev D τ B A) (w : Wd s D A (wdM τ σ ad) H locs) {x0 : Int32} {x1 : Int32} {o : Int32} (h : F_Mod_greatest x0 x1 = some o) {index : Nat} (hlk : Cond.methodLink own index y_Mod_greatest ∈ tw) (hlev : 0 < lev) (hsz : ls.size = nL) (hr : (rest.map fun v => v.category).sum ≤ 8) (hd : decode cc pc = .ok (.invokestatic index, 3)) (kk : ∀ (H1 : Heap) (locs1 : List Loc), Wd s D A (wdM τ σ ad) H1 locs1 → W p l e R s m args below meth c H1 locs1 0 0 Q (F0 m (pc + 3) ls (.int o :: rest))) : W p l e R s m args below meth c H locs 0 0 Q (F0 m pc ls (.int x1 :: .int x0 :: rest)) :=
  cr_i w E.C (va_runS (As := [.int x0, .int x1]) (rest := rest) E.fix (c_Mod_greatest l D τ B σ ad x0 x1 o h H.size) (va_cwS 2 E.w (tw_pre (tw_good k2392) (l := [_, _, _]) (List.forall_mem_cons.mpr ⟨hlk, List.forall_mem_cons.mpr ⟨k2391, List.forall_mem_cons.mpr ⟨k14, fun _ h => absurd h List.not_mem_nil⟩⟩⟩)) rfl rfl rfl (by decide +kernel) (E.rm hlev (by decide))) (wd_pre w E.C [.int x0, .int x1]) rfl rfl hsz rfl (lv_room hr) hd ⟨Nat.zero_le _, Nat.zero_le _⟩) kk

theorem d_Mod_least_0 : decode prog_14_method_21_code 0 = .ok (.iload_n 0, 1) := by decide +kernel
theorem d_Mod_least_1 : decode prog_14_method_21_code 1 = .ok (.iload_n 1, 1) := by decide +kernel
theorem d_Mod_least_2 : decode prog_14_method_21_code 2 = .ok (.if_icmp .ge 7, 3) := by decide +kernel
theorem d_Mod_least_5 : decode prog_14_method_21_code 5 = .ok (.iload_n 0, 1) := by decide +kernel
theorem d_Mod_least_6 : decode prog_14_method_21_code 6 = .ok (.goto 4, 3) := by decide +kernel
theorem d_Mod_least_9 : decode prog_14_method_21_code 9 = .ok (.iload_n 1, 1) := by decide +kernel
theorem d_Mod_least_10 : decode prog_14_method_21_code 10 = .ok (.ireturn, 1) := by decide +kernel
def F_Mod_least_10  (s0 : Int32) : Option (Int32) := some s0
set_option maxRecDepth 10000 in
set_option maxHeartbeats 4000000 in
theorem bt_Mod_least_10 {p : Program} {l : Launch} {e : Env} {R : Room} {s : State} {m : MethodId} {args : Array Value} {below : List Frame} {meth : Method} {c : Code} {D : va_G} {τ : ClassId × ClassId × ClassId} {B : Nat} {A : Nat → Prop} {ad : Nat → Nat} {σ0 : Sg} (E : Cx p R s m args meth c prog_14_method_21_code 2 "DrawingMachineModel" 0 D τ B A) (hret : meth.sig.returnType = (some .int)) (o : Int32) (s0 : Int32) (h : F_Mod_least_10 s0 = some o) {H : Heap} {locs : List Loc} {ls : Array Slot} (w : Wd s D A (wdM τ σ0 ad) H locs) (hl : lv_has ls 2 []) : W p l e R s m args below meth c H locs 0 0 (QI below args s A D τ (wdM τ σ0 ad) o) (F0 m 10 ls [.int s0]) := by
  obtain rfl := Option.some.inj h
  exact rt_i E w hret d_Mod_least_10
def F_Mod_least  (x0 : Int32) (x1 : Int32) : Option (Int32) := if x1 ≤ x0 then (F_Mod_least_10 x1) else (F_Mod_least_10 x0)
set_option maxRecDepth 10000 in
set_option maxHeartbeats 4000000 in
theorem c_Mod_least (l : Launch) (D : va_G) (τ : ClassId × ClassId × ClassId) (B : Nat) (σ0 : Sg) (ad : Nat → Nat) (x0 : Int32) (x1 : Int32) (o : Int32) (h : F_Mod_least x0 x1 = some o) : MI l y_Mod_least (Cond.code y_Mod_least prog_14_method_21_code 2 (some .int)) 0 D τ B [.int x0, .int x1] (wdM τ σ0 ad) (wdM τ σ0 ad) o := by
  refine en_i (by decide) (Nat.le_of_ble_eq_true rfl) ?_
  intro p e R s m args below meth c H locs ls A E hret w hl
  have E : Cx p R s m args meth c prog_14_method_21_code 2 "DrawingMachineModel" 0 D τ B A := E
  have hl : lv_has ls 2 [(0, .int x0), (1, .int x1)] := hl
  refine lv_iload_n E.x E.b d_Mod_least_0 rfl (lv_at hl 0 rfl) ?_
  refine lv_iload_n E.x E.b d_Mod_least_1 rfl (lv_at hl 1 rfl) ?_
  refine lv_icmp_ge (tgt := 9) E.x E.b d_Mod_least_2 (by decide) (fun c => ?_) (fun c => ?_)
  ·
    replace h := ifT c h
    refine lv_iload_n E.x E.b d_Mod_least_9 rfl (lv_at hl 1 rfl) ?_
    exact bt_Mod_least_10 E hret o x1 h w (lv_sub hl [] rfl)
  ·
    replace h := ifF c h
    refine lv_iload_n E.x E.b d_Mod_least_5 rfl (lv_at hl 0 rfl) ?_
    refine lv_goto (tgt := 10) E.x E.b d_Mod_least_6 (by decide) ?_
    exact bt_Mod_least_10 E hret o x0 h w (lv_sub hl [] rfl)
theorem clS_Mod_least {p : Program} {l : Launch} {e : Env} {R : Room} {s : State} {m : MethodId} {args : Array Value} {below : List Frame} {meth : Method} {c : Code} {H : Heap} {locs : List Loc} {Q : State → Prop} {cc : ByteArray} {nL pc lev : Nat} {own : String} {D : va_G} {τ : ClassId × ClassId × ClassId} {B : Nat} {A : Nat → Prop} {σ : Sg} {ad : Nat → Nat} {ls : Array Slot} {rest : List Value} (E : Cx p R s m args meth c cc nL own lev D τ B A) (w : Wd s D A (wdM τ σ ad) H locs) {x0 : Int32} {x1 : Int32} {o : Int32} (h : F_Mod_least x0 x1 = some o) {index : Nat} (hlk : Cond.methodLink own index y_Mod_least ∈ tw) (hlev : 0 < lev) (hsz : ls.size = nL) (hr : (rest.map fun v => v.category).sum ≤ 8) (hd : decode cc pc = .ok (.invokestatic index, 3)) (kk : ∀ (H1 : Heap) (locs1 : List Loc), Wd s D A (wdM τ σ ad) H1 locs1 → W p l e R s m args below meth c H1 locs1 0 0 Q (F0 m (pc + 3) ls (.int o :: rest))) : W p l e R s m args below meth c H locs 0 0 Q (F0 m pc ls (.int x1 :: .int x0 :: rest)) :=
  cr_i w E.C (va_runS (As := [.int x0, .int x1]) (rest := rest) E.fix (c_Mod_least l D τ B σ ad x0 x1 o h H.size) (va_cwS 2 E.w (tw_pre (tw_good k2395) (l := [_, _, _]) (List.forall_mem_cons.mpr ⟨hlk, List.forall_mem_cons.mpr ⟨k2394, List.forall_mem_cons.mpr ⟨k14, fun _ h => absurd h List.not_mem_nil⟩⟩⟩)) rfl rfl rfl (by decide +kernel) (E.rm hlev (by decide))) (wd_pre w E.C [.int x0, .int x1]) rfl rfl hsz rfl (lv_room hr) hd ⟨Nat.zero_le _, Nat.zero_le _⟩) kk

theorem d_Mod_edge_0 : decode prog_14_method_23_code 0 = .ok (.iload_n 1, 1) := by decide +kernel
theorem d_Mod_edge_1 : decode prog_14_method_23_code 1 = .ok (.ifCond .eq 21, 3) := by decide +kernel
theorem d_Mod_edge_4 : decode prog_14_method_23_code 4 = .ok (.aload_n 0, 1) := by decide +kernel
theorem d_Mod_edge_5 : decode prog_14_method_23_code 5 = .ok (.iconst 0, 1) := by decide +kernel
theorem d_Mod_edge_6 : decode prog_14_method_23_code 6 = .ok (.iaload, 1) := by decide +kernel
theorem d_Mod_edge_7 : decode prog_14_method_23_code 7 = .ok (.aload_n 0, 1) := by decide +kernel
theorem d_Mod_edge_8 : decode prog_14_method_23_code 8 = .ok (.iconst 1, 1) := by decide +kernel
theorem d_Mod_edge_9 : decode prog_14_method_23_code 9 = .ok (.iaload, 1) := by decide +kernel
theorem d_Mod_edge_10 : decode prog_14_method_23_code 10 = .ok (.aload_n 0, 1) := by decide +kernel
theorem d_Mod_edge_11 : decode prog_14_method_23_code 11 = .ok (.iconst 2, 1) := by decide +kernel
theorem d_Mod_edge_12 : decode prog_14_method_23_code 12 = .ok (.iaload, 1) := by decide +kernel
theorem d_Mod_edge_13 : decode prog_14_method_23_code 13 = .ok (.invokestatic 292, 3) := by decide +kernel
theorem d_Mod_edge_16 : decode prog_14_method_23_code 16 = .ok (.invokestatic 292, 3) := by decide +kernel
theorem d_Mod_edge_19 : decode prog_14_method_23_code 19 = .ok (.goto 18, 3) := by decide +kernel
theorem d_Mod_edge_22 : decode prog_14_method_23_code 22 = .ok (.aload_n 0, 1) := by decide +kernel
theorem d_Mod_edge_23 : decode prog_14_method_23_code 23 = .ok (.iconst 0, 1) := by decide +kernel
theorem d_Mod_edge_24 : decode prog_14_method_23_code 24 = .ok (.iaload, 1) := by decide +kernel
theorem d_Mod_edge_25 : decode prog_14_method_23_code 25 = .ok (.aload_n 0, 1) := by decide +kernel
theorem d_Mod_edge_26 : decode prog_14_method_23_code 26 = .ok (.iconst 1, 1) := by decide +kernel
theorem d_Mod_edge_27 : decode prog_14_method_23_code 27 = .ok (.iaload, 1) := by decide +kernel
theorem d_Mod_edge_28 : decode prog_14_method_23_code 28 = .ok (.aload_n 0, 1) := by decide +kernel
theorem d_Mod_edge_29 : decode prog_14_method_23_code 29 = .ok (.iconst 2, 1) := by decide +kernel
theorem d_Mod_edge_30 : decode prog_14_method_23_code 30 = .ok (.iaload, 1) := by decide +kernel
theorem d_Mod_edge_31 : decode prog_14_method_23_code 31 = .ok (.invokestatic 295, 3) := by decide +kernel
theorem d_Mod_edge_34 : decode prog_14_method_23_code 34 = .ok (.invokestatic 295, 3) := by decide +kernel
theorem d_Mod_edge_37 : decode prog_14_method_23_code 37 = .ok (.istore_n 2, 1) := by decide +kernel
theorem d_Mod_edge_38 : decode prog_14_method_23_code 38 = .ok (.iload_n 2, 1) := by decide +kernel
theorem d_Mod_edge_39 : decode prog_14_method_23_code 39 = .ok (.iconst 4, 1) := by decide +kernel
theorem d_Mod_edge_40 : decode prog_14_method_23_code 40 = .ok (.ishr, 1) := by decide +kernel
theorem d_Mod_edge_41 : decode prog_14_method_23_code 41 = .ok (.ireturn, 1) := by decide +kernel
def F_Mod_edge_37 (σ : Sg) (s0 : Int32) : Option (Int32) := some (s0 >>> 4)
set_option maxRecDepth 10000 in
set_option maxHeartbeats 4000000 in
theorem bt_Mod_edge_37 {p : Program} {l : Launch} {e : Env} {R : Room} {s : State} {m : MethodId} {args : Array Value} {below : List Frame} {meth : Method} {c : Code} {D : va_G} {τ : ClassId × ClassId × ClassId} {B : Nat} {A : Nat → Prop} {ad : Nat → Nat} (E : Cx p R s m args meth c prog_14_method_23_code 3 "DrawingMachineModel" 1 D τ B A) (hret : meth.sig.returnType = (some .int)) (o : Int32) (σ : Sg) (s0 : Int32) (h : F_Mod_edge_37 σ s0 = some o) {H : Heap} {locs : List Loc} {ls : Array Slot} (w : Wd s D A (wdM τ σ ad) H locs) (hl : lv_has ls 3 []) : W p l e R s m args below meth c H locs 0 0 (QI below args s A D τ (wdM τ σ ad) o) (F0 m 37 ls [.int s0]) := by
  refine lv_istore_n (lv' := [(2, .int s0)]) E.x E.b d_Mod_edge_37 rfl hl (by decide) rfl (fun ls hl => ?_)
  refine lv_iload_n E.x E.b d_Mod_edge_38 rfl (lv_at hl 0 rfl) ?_
  refine lv_iconst (v := 4) E.x E.b d_Mod_edge_39 (by decide) ?_
  refine lv_ishr E.x E.b d_Mod_edge_40 ?_
  refine wi_e (v := s0 >>> 4) rfl ?_
  obtain rfl := Option.some.inj h
  exact rt_i E w hret d_Mod_edge_41
def F_Mod_edge (σ : Sg) (ar0 : Nat) (x1 : Int32) : Option (Int32) := ck (ar0 < 58) (if x1 = 0 then (ck (inb 0 (lenM σ ar0)) (ck (inb 1 (lenM σ ar0)) (ck (inb 2 (lenM σ ar0)) (bd (F_Mod_least (σ.2.2.1 ar0 1) (σ.2.2.1 ar0 2)) (fun o15 => bd (F_Mod_least (σ.2.2.1 ar0 0) o15) (fun o16 => F_Mod_edge_37 σ o16)))))) else (ck (inb 0 (lenM σ ar0)) (ck (inb 1 (lenM σ ar0)) (ck (inb 2 (lenM σ ar0)) (bd (F_Mod_greatest (σ.2.2.1 ar0 1) (σ.2.2.1 ar0 2)) (fun o20 => bd (F_Mod_greatest (σ.2.2.1 ar0 0) o20) (fun o21 => F_Mod_edge_37 σ o21)))))))
set_option maxRecDepth 10000 in
set_option maxHeartbeats 4000000 in
theorem c_Mod_edge (l : Launch) (D : va_G) (τ : ClassId × ClassId × ClassId) (B : Nat) (σ : Sg) (ad : Nat → Nat) (ar0 : Nat) (x1 : Int32) (o : Int32) (h : F_Mod_edge σ ar0 x1 = some o) : MI l y_Mod_edge (Cond.code y_Mod_edge prog_14_method_23_code 3 (some .int)) 1 D τ B [.ref (ad ar0), .int x1] (wdM τ σ ad) (wdM τ σ ad) o := by
  refine en_i (by decide) (Nat.le_of_ble_eq_true rfl) ?_
  intro p e R s m args below meth c H locs ls A E hret w hl
  have E : Cx p R s m args meth c prog_14_method_23_code 3 "DrawingMachineModel" 1 D τ B A := E
  have hl : lv_has ls 3 [(0, .ref (ad ar0)), (1, .int x1)] := hl
  obtain ⟨c11, h⟩ := ck_some h
  refine lv_iload_n E.x E.b d_Mod_edge_0 rfl (lv_at hl 1 rfl) ?_
  refine lv_if_eq (tgt := 22) E.x E.b d_Mod_edge_1 (by decide) (fun c => ?_) (fun c => ?_)
  ·
    replace h := ifT c h
    refine lv_aload_n E.x E.b d_Mod_edge_22 rfl (lv_at hl 0 rfl) ?_
    refine lv_iconst (v := 0) E.x E.b d_Mod_edge_23 (by decide) ?_
    obtain ⟨c12, h⟩ := ck_some h
    refine ialM E w (k := ar0) c11 c12 d_Mod_edge_24 ?_
    refine wi_e (v := σ.2.2.1 ar0 0) rfl ?_
    refine lv_aload_n E.x E.b d_Mod_edge_25 rfl (lv_at hl 0 rfl) ?_
    refine lv_iconst (v := 1) E.x E.b d_Mod_edge_26 (by decide) ?_
    obtain ⟨c13, h⟩ := ck_some h
    refine ialM E w (k := ar0) c11 c13 d_Mod_edge_27 ?_
    refine wi_e (v := σ.2.2.1 ar0 1) rfl ?_
    refine lv_aload_n E.x E.b d_Mod_edge_28 rfl (lv_at hl 0 rfl) ?_
    refine lv_iconst (v := 2) E.x E.b d_Mod_edge_29 (by decide) ?_
    obtain ⟨c14, h⟩ := ck_some h
    refine ialM E w (k := ar0) c11 c14 d_Mod_edge_30 ?_
    refine wi_e (v := σ.2.2.1 ar0 2) rfl ?_
    obtain ⟨o15, h_o15, h⟩ := bd_some h
    refine clS_Mod_least E w (x0 := (σ.2.2.1 ar0 1)) (x1 := (σ.2.2.1 ar0 2)) h_o15 k2393 (by decide) hl.1 (Nat.le_of_ble_eq_true rfl) d_Mod_edge_31 (fun H locs w => ?_)
    obtain ⟨o16, h_o16, h⟩ := bd_some h
    refine clS_Mod_least E w (x0 := (σ.2.2.1 ar0 0)) (x1 := o15) h_o16 k2393 (by decide) hl.1 (Nat.le_of_ble_eq_true rfl) d_Mod_edge_34 (fun H locs w => ?_)
    exact bt_Mod_edge_37 E hret o σ o16 h w (lv_sub hl [] rfl)
  ·
    replace h := ifF c h
    refine lv_aload_n E.x E.b d_Mod_edge_4 rfl (lv_at hl 0 rfl) ?_
    refine lv_iconst (v := 0) E.x E.b d_Mod_edge_5 (by decide) ?_
    obtain ⟨c17, h⟩ := ck_some h
    refine ialM E w (k := ar0) c11 c17 d_Mod_edge_6 ?_
    refine wi_e (v := σ.2.2.1 ar0 0) rfl ?_
    refine lv_aload_n E.x E.b d_Mod_edge_7 rfl (lv_at hl 0 rfl) ?_
    refine lv_iconst (v := 1) E.x E.b d_Mod_edge_8 (by decide) ?_
    obtain ⟨c18, h⟩ := ck_some h
    refine ialM E w (k := ar0) c11 c18 d_Mod_edge_9 ?_
    refine wi_e (v := σ.2.2.1 ar0 1) rfl ?_
    refine lv_aload_n E.x E.b d_Mod_edge_10 rfl (lv_at hl 0 rfl) ?_
    refine lv_iconst (v := 2) E.x E.b d_Mod_edge_11 (by decide) ?_
    obtain ⟨c19, h⟩ := ck_some h
    refine ialM E w (k := ar0) c11 c19 d_Mod_edge_12 ?_
    refine wi_e (v := σ.2.2.1 ar0 2) rfl ?_
    obtain ⟨o20, h_o20, h⟩ := bd_some h
    refine clS_Mod_greatest E w (x0 := (σ.2.2.1 ar0 1)) (x1 := (σ.2.2.1 ar0 2)) h_o20 k2390 (by decide) hl.1 (Nat.le_of_ble_eq_true rfl) d_Mod_edge_13 (fun H locs w => ?_)
    obtain ⟨o21, h_o21, h⟩ := bd_some h
    refine clS_Mod_greatest E w (x0 := (σ.2.2.1 ar0 0)) (x1 := o20) h_o21 k2390 (by decide) hl.1 (Nat.le_of_ble_eq_true rfl) d_Mod_edge_16 (fun H locs w => ?_)
    refine lv_goto (tgt := 37) E.x E.b d_Mod_edge_19 (by decide) ?_
    exact bt_Mod_edge_37 E hret o σ o21 h w (lv_sub hl [] rfl)
theorem clS_Mod_edge {p : Program} {l : Launch} {e : Env} {R : Room} {s : State} {m : MethodId} {args : Array Value} {below : List Frame} {meth : Method} {c : Code} {H : Heap} {locs : List Loc} {Q : State → Prop} {cc : ByteArray} {nL pc lev : Nat} {own : String} {D : va_G} {τ : ClassId × ClassId × ClassId} {B : Nat} {A : Nat → Prop} {σ : Sg} {ad : Nat → Nat} {ls : Array Slot} {rest : List Value} (E : Cx p R s m args meth c cc nL own lev D τ B A) (w : Wd s D A (wdM τ σ ad) H locs) {ar0 : Nat} {x1 : Int32} {o : Int32} (h : F_Mod_edge σ ar0 x1 = some o) {index : Nat} (hlk : Cond.methodLink own index y_Mod_edge ∈ tw) (hlev : 1 < lev) (hsz : ls.size = nL) (hr : (rest.map fun v => v.category).sum ≤ 8) (hd : decode cc pc = .ok (.invokestatic index, 3)) (kk : ∀ (H1 : Heap) (locs1 : List Loc), Wd s D A (wdM τ σ ad) H1 locs1 → W p l e R s m args below meth c H1 locs1 0 0 Q (F0 m (pc + 3) ls (.int o :: rest))) : W p l e R s m args below meth c H locs 0 0 Q (F0 m pc ls (.int x1 :: .ref (ad ar0) :: rest)) :=
  cr_i w E.C (va_runS (As := [.ref (ad ar0), .int x1]) (rest := rest) E.fix (c_Mod_edge l D τ B σ ad ar0 x1 o h H.size) (va_cwS 2 E.w (tw_pre (tw_good k2389) (l := [_, _, _]) (List.forall_mem_cons.mpr ⟨hlk, List.forall_mem_cons.mpr ⟨k2388, List.forall_mem_cons.mpr ⟨k14, fun _ h => absurd h List.not_mem_nil⟩⟩⟩)) rfl rfl rfl (by decide +kernel) (E.rm hlev (by decide))) (wd_pre w E.C [.ref (ad ar0), .int x1]) rfl rfl hsz rfl (lv_room hr) hd ⟨Nat.zero_le _, Nat.zero_le _⟩) kk

theorem d_Erm_room_0 : decode prog_16_method_6_code 0 = .ok (.aload_n 0, 1) := by decide +kernel
theorem d_Erm_room_1 : decode prog_16_method_6_code 1 = .ok (.getfield 7, 3) := by decide +kernel
theorem d_Erm_room_4 : decode prog_16_method_6_code 4 = .ok (.iload_n 2, 1) := by decide +kernel
theorem d_Erm_room_5 : decode prog_16_method_6_code 5 = .ok (.iaload, 1) := by decide +kernel
theorem d_Erm_room_6 : decode prog_16_method_6_code 6 = .ok (.aload_n 0, 1) := by decide +kernel
theorem d_Erm_room_7 : decode prog_16_method_6_code 7 = .ok (.getfield 7, 3) := by decide +kernel
theorem d_Erm_room_10 : decode prog_16_method_6_code 10 = .ok (.iload_n 1, 1) := by decide +kernel
theorem d_Erm_room_11 : decode prog_16_method_6_code 11 = .ok (.iaload, 1) := by decide +kernel
theorem d_Erm_room_12 : decode prog_16_method_6_code 12 = .ok (.isub, 1) := by decide +kernel
theorem d_Erm_room_13 : decode prog_16_method_6_code 13 = .ok (.i2l, 1) := by decide +kernel
theorem d_Erm_room_14 : decode prog_16_method_6_code 14 = .ok (.lstore 5, 2) := by decide +kernel
theorem d_Erm_room_16 : decode prog_16_method_6_code 16 = .ok (.aload_n 0, 1) := by decide +kernel
theorem d_Erm_room_17 : decode prog_16_method_6_code 17 = .ok (.getfield 13, 3) := by decide +kernel
theorem d_Erm_room_20 : decode prog_16_method_6_code 20 = .ok (.iload_n 2, 1) := by decide +kernel
theorem d_Erm_room_21 : decode prog_16_method_6_code 21 = .ok (.iaload, 1) := by decide +kernel
theorem d_Erm_room_22 : decode prog_16_method_6_code 22 = .ok (.aload_n 0, 1) := by decide +kernel
theorem d_Erm_room_23 : decode prog_16_method_6_code 23 = .ok (.getfield 13, 3) := by decide +kernel
theorem d_Erm_room_26 : decode prog_16_method_6_code 26 = .ok (.iload_n 1, 1) := by decide +kernel
theorem d_Erm_room_27 : decode prog_16_method_6_code 27 = .ok (.iaload, 1) := by decide +kernel
theorem d_Erm_room_28 : decode prog_16_method_6_code 28 = .ok (.isub, 1) := by decide +kernel
theorem d_Erm_room_29 : decode prog_16_method_6_code 29 = .ok (.i2l, 1) := by decide +kernel
theorem d_Erm_room_30 : decode prog_16_method_6_code 30 = .ok (.lstore 7, 2) := by decide +kernel
theorem d_Erm_room_32 : decode prog_16_method_6_code 32 = .ok (.lload 5, 2) := by decide +kernel
theorem d_Erm_room_34 : decode prog_16_method_6_code 34 = .ok (.iload 4, 2) := by decide +kernel
theorem d_Erm_room_36 : decode prog_16_method_6_code 36 = .ok (.aload_n 0, 1) := by decide +kernel
theorem d_Erm_room_37 : decode prog_16_method_6_code 37 = .ok (.getfield 13, 3) := by decide +kernel
theorem d_Erm_room_40 : decode prog_16_method_6_code 40 = .ok (.iload_n 1, 1) := by decide +kernel
theorem d_Erm_room_41 : decode prog_16_method_6_code 41 = .ok (.iaload, 1) := by decide +kernel
theorem d_Erm_room_42 : decode prog_16_method_6_code 42 = .ok (.isub, 1) := by decide +kernel
theorem d_Erm_room_43 : decode prog_16_method_6_code 43 = .ok (.i2l, 1) := by decide +kernel
theorem d_Erm_room_44 : decode prog_16_method_6_code 44 = .ok (.lmul, 1) := by decide +kernel
theorem d_Erm_room_45 : decode prog_16_method_6_code 45 = .ok (.lload 7, 2) := by decide +kernel
theorem d_Erm_room_47 : decode prog_16_method_6_code 47 = .ok (.iload_n 3, 1) := by decide +kernel
theorem d_Erm_room_48 : decode prog_16_method_6_code 48 = .ok (.aload_n 0, 1) := by decide +kernel
theorem d_Erm_room_49 : decode prog_16_method_6_code 49 = .ok (.getfield 7, 3) := by decide +kernel
theorem d_Erm_room_52 : decode prog_16_method_6_code 52 = .ok (.iload_n 1, 1) := by decide +kernel
theorem d_Erm_room_53 : decode prog_16_method_6_code 53 = .ok (.iaload, 1) := by decide +kernel
theorem d_Erm_room_54 : decode prog_16_method_6_code 54 = .ok (.isub, 1) := by decide +kernel
theorem d_Erm_room_55 : decode prog_16_method_6_code 55 = .ok (.i2l, 1) := by decide +kernel
theorem d_Erm_room_56 : decode prog_16_method_6_code 56 = .ok (.lmul, 1) := by decide +kernel
theorem d_Erm_room_57 : decode prog_16_method_6_code 57 = .ok (.lsub, 1) := by decide +kernel
theorem d_Erm_room_58 : decode prog_16_method_6_code 58 = .ok (.lreturn, 1) := by decide +kernel
def F_Erm_room (σ : Sg) (x0 : Int32) (x1 : Int32) (x2 : Int32) (x3 : Int32) : Option (Int64) := ck (inb x1 3) (ck (inb x0 3) (lt (((σ.2.2.1 40 x1.toNatClampNeg) - (σ.2.2.1 40 x0.toNatClampNeg)).toInt64) (fun y11 => ck (inb x1 3) (ck (inb x0 3) (lt (((σ.2.2.1 41 x1.toNatClampNeg) - (σ.2.2.1 41 x0.toNatClampNeg)).toInt64) (fun y14 => ck (inb x0 3) (ck (inb x0 3) (some ((y11 * ((x3 - (σ.2.2.1 41 x0.toNatClampNeg)).toInt64)) - (y14 * ((x2 - (σ.2.2.1 40 x0.toNatClampNeg)).toInt64)))))))))))
set_option maxRecDepth 10000 in
set_option maxHeartbeats 4000000 in
theorem c_Erm_room (l : Launch) (D : va_G) (τ : ClassId × ClassId × ClassId) (B : Nat) (σ : Sg) (ad : Nat → Nat) (x0 : Int32) (x1 : Int32) (x2 : Int32) (x3 : Int32) (o : Int64) (h : F_Erm_room σ x0 x1 x2 x3 = some o) : ML l y_Erm_room (Cond.code y_Erm_room prog_16_method_6_code 9 (some .long)) 0 D τ B [.ref (ad 63), .int x0, .int x1, .int x2, .int x3] (wdM τ σ ad) (wdM τ σ ad) o := by
  refine en_l (by decide) (Nat.le_of_ble_eq_true rfl) ?_
  intro p e R s m args below meth c H locs ls A E hret w hl
  have E : Cx p R s m args meth c prog_16_method_6_code 9 "DrawingMachineModel$EdgeRasterModel" 0 D τ B A := E
  have hl : lv_has ls 9 [(0, .ref (ad 63)), (1, .int x0), (2, .int x1), (3, .int x2), (4, .int x3)] := hl
  refine lv_aload_n E.x E.b d_Erm_room_0 rfl (lv_at hl 0 rfl) ?_
  refine gM_Erm_cornerX E w k1668 d_Erm_room_1 ?_
  refine lv_iload_n E.x E.b d_Erm_room_4 rfl (lv_at hl 2 rfl) ?_
  obtain ⟨c9, h⟩ := ck_some h
  refine ialM E w (k := 40) (by decide) c9 d_Erm_room_5 ?_
  refine lv_aload_n E.x E.b d_Erm_room_6 rfl (lv_at hl 0 rfl) ?_
  refine gM_Erm_cornerX E w k1668 d_Erm_room_7 ?_
  refine lv_iload_n E.x E.b d_Erm_room_10 rfl (lv_at hl 1 rfl) ?_
  obtain ⟨c10, h⟩ := ck_some h
  refine ialM E w (k := 40) (by decide) c10 d_Erm_room_11 ?_
  refine lv_isub E.x E.b d_Erm_room_12 ?_
  refine lv_i2l (v := ((σ.2.2.1 40 x1.toNatClampNeg) - (σ.2.2.1 40 x0.toNatClampNeg)).toInt64) E.x E.b d_Erm_room_13 rfl ?_
  obtain ⟨y11, e_y11, h⟩ := lt_some h
  refine wl_e (v := y11) e_y11 ?_
  refine lv_lstore (lv' := [(5, .long y11), (0, .ref (ad 63)), (1, .int x0), (2, .int x1), (3, .int x2), (4, .int x3)]) E.x E.b d_Erm_room_14 hl (by decide) rfl (fun ls hl => ?_)
  refine lv_aload_n E.x E.b d_Erm_room_16 rfl (lv_at hl 1 rfl) ?_
  refine gM_Erm_cornerY E w k1670 d_Erm_room_17 ?_
  refine lv_iload_n E.x E.b d_Erm_room_20 rfl (lv_at hl 3 rfl) ?_
  obtain ⟨c12, h⟩ := ck_some h
  refine ialM E w (k := 41) (by decide) c12 d_Erm_room_21 ?_
  refine lv_aload_n E.x E.b d_Erm_room_22 rfl (lv_at hl 1 rfl) ?_
  refine gM_Erm_cornerY E w k1670 d_Erm_room_23 ?_
  refine lv_iload_n E.x E.b d_Erm_room_26 rfl (lv_at hl 2 rfl) ?_
  obtain ⟨c13, h⟩ := ck_some h
  refine ialM E w (k := 41) (by decide) c13 d_Erm_room_27 ?_
  refine lv_isub E.x E.b d_Erm_room_28 ?_
  refine lv_i2l (v := ((σ.2.2.1 41 x1.toNatClampNeg) - (σ.2.2.1 41 x0.toNatClampNeg)).toInt64) E.x E.b d_Erm_room_29 rfl ?_
  obtain ⟨y14, e_y14, h⟩ := lt_some h
  refine wl_e (v := y14) e_y14 ?_
  refine lv_lstore (lv' := [(7, .long y14), (5, .long y11), (0, .ref (ad 63)), (1, .int x0), (2, .int x1), (3, .int x2), (4, .int x3)]) E.x E.b d_Erm_room_30 hl (by decide) rfl (fun ls hl => ?_)
  refine lv_lload E.x E.b d_Erm_room_32 (lv_at hl 1 rfl) ?_
  refine lv_iload E.x E.b d_Erm_room_34 (lv_at hl 6 rfl) ?_
  refine lv_aload_n E.x E.b d_Erm_room_36 rfl (lv_at hl 2 rfl) ?_
  refine gM_Erm_cornerY E w k1670 d_Erm_room_37 ?_
  refine lv_iload_n E.x E.b d_Erm_room_40 rfl (lv_at hl 3 rfl) ?_
  obtain ⟨c15, h⟩ := ck_some h
  refine ialM E w (k := 41) (by decide) c15 d_Erm_room_41 ?_
  refine lv_isub E.x E.b d_Erm_room_42 ?_
  refine lv_i2l (v := (x3 - (σ.2.2.1 41 x0.toNatClampNeg)).toInt64) E.x E.b d_Erm_room_43 rfl ?_
  refine lv_lmul E.x E.b d_Erm_room_44 ?_
  refine lv_lload E.x E.b d_Erm_room_45 (lv_at hl 0 rfl) ?_
  refine lv_iload_n E.x E.b d_Erm_room_47 rfl (lv_at hl 5 rfl) ?_
  refine lv_aload_n E.x E.b d_Erm_room_48 rfl (lv_at hl 2 rfl) ?_
  refine gM_Erm_cornerX E w k1668 d_Erm_room_49 ?_
  refine lv_iload_n E.x E.b d_Erm_room_52 rfl (lv_at hl 3 rfl) ?_
  obtain ⟨c16, h⟩ := ck_some h
  refine ialM E w (k := 40) (by decide) c16 d_Erm_room_53 ?_
  refine lv_isub E.x E.b d_Erm_room_54 ?_
  refine lv_i2l (v := (x2 - (σ.2.2.1 40 x0.toNatClampNeg)).toInt64) E.x E.b d_Erm_room_55 rfl ?_
  refine lv_lmul E.x E.b d_Erm_room_56 ?_
  refine lv_lsub E.x E.b d_Erm_room_57 ?_
  obtain rfl := Option.some.inj h
  exact rt_l E w hret d_Erm_room_58
theorem clV_Erm_room {p : Program} {l : Launch} {e : Env} {R : Room} {s : State} {m : MethodId} {args : Array Value} {below : List Frame} {meth : Method} {c : Code} {H : Heap} {locs : List Loc} {Q : State → Prop} {cc : ByteArray} {nL pc lev : Nat} {own : String} {D : va_G} {τ : ClassId × ClassId × ClassId} {B : Nat} {A : Nat → Prop} {σ : Sg} {ad : Nat → Nat} {ls : Array Slot} {rest : List Value} (E : Cx p R s m args meth c cc nL own lev D τ B A) (w : Wd s D A (wdM τ σ ad) H locs) {x0 : Int32} {x1 : Int32} {x2 : Int32} {x3 : Int32} {o : Int64} (h : F_Erm_room σ x0 x1 x2 x3 = some o) {index : Nat} (hlk : Cond.methodLink own index y_Erm_room ∈ tw) (hlev : 0 < lev) (hsz : ls.size = nL) (hr : (rest.map fun v => v.category).sum ≤ 8) (hd : decode cc pc = .ok (.invokevirtual index, 3)) (kk : ∀ (H1 : Heap) (locs1 : List Loc), Wd s D A (wdM τ σ ad) H1 locs1 → W p l e R s m args below meth c H1 locs1 0 0 Q (F0 m (pc + 3) ls (.long o :: rest))) : W p l e R s m args below meth c H locs 0 0 Q (F0 m pc ls (.int x3 :: .int x2 :: .int x1 :: .int x0 :: .ref (ad 63) :: rest)) :=
  cr_l w E.C (va_runV (As := [.int x0, .int x1, .int x2, .int x3]) (rest := rest) E.fix (c_Erm_room l D τ B σ ad x0 x1 x2 x3 o h H.size) (cwV 4 E.w (tw_pre (tw_good k2407) (l := [_, _, _, _]) (List.forall_mem_cons.mpr ⟨hlk, List.forall_mem_cons.mpr ⟨k2406, List.forall_mem_cons.mpr ⟨ks103, List.forall_mem_cons.mpr ⟨k19, fun _ h => absurd h List.not_mem_nil⟩⟩⟩⟩)) rfl rfl rfl (by decide +kernel) (E.rm hlev (by decide))) (wd_preV w E.C [.int x0, .int x1, .int x2, .int x3] rcM_Erm rfl) rfl rfl hsz rfl (lv_room hr) hd ⟨Nat.zero_le _, Nat.zero_le _⟩) kk

theorem d_Erm_whole_0 : decode prog_16_method_7_code 0 = .ok (.aload_n 0, 1) := by decide +kernel
theorem d_Erm_whole_1 : decode prog_16_method_7_code 1 = .ok (.iconst 0, 1) := by decide +kernel
theorem d_Erm_whole_2 : decode prog_16_method_7_code 2 = .ok (.iconst 1, 1) := by decide +kernel
theorem d_Erm_whole_3 : decode prog_16_method_7_code 3 = .ok (.aload_n 0, 1) := by decide +kernel
theorem d_Erm_whole_4 : decode prog_16_method_7_code 4 = .ok (.getfield 7, 3) := by decide +kernel
theorem d_Erm_whole_7 : decode prog_16_method_7_code 7 = .ok (.iconst 2, 1) := by decide +kernel
theorem d_Erm_whole_8 : decode prog_16_method_7_code 8 = .ok (.iaload, 1) := by decide +kernel
theorem d_Erm_whole_9 : decode prog_16_method_7_code 9 = .ok (.aload_n 0, 1) := by decide +kernel
theorem d_Erm_whole_10 : decode prog_16_method_7_code 10 = .ok (.getfield 13, 3) := by decide +kernel
theorem d_Erm_whole_13 : decode prog_16_method_7_code 13 = .ok (.iconst 2, 1) := by decide +kernel
theorem d_Erm_whole_14 : decode prog_16_method_7_code 14 = .ok (.iaload, 1) := by decide +kernel
theorem d_Erm_whole_15 : decode prog_16_method_7_code 15 = .ok (.invokevirtual 39, 3) := by decide +kernel
theorem d_Erm_whole_18 : decode prog_16_method_7_code 18 = .ok (.lreturn, 1) := by decide +kernel
def F_Erm_whole (σ : Sg) : Option (Int64) := bd (F_Erm_room σ 0 1 (σ.2.2.1 40 2) (σ.2.2.1 41 2)) (fun o2 => some o2)
set_option maxRecDepth 10000 in
set_option maxHeartbeats 4000000 in
theorem c_Erm_whole (l : Launch) (D : va_G) (τ : ClassId × ClassId × ClassId) (B : Nat) (σ : Sg) (ad : Nat → Nat) (o : Int64) (h : F_Erm_whole σ = some o) : ML l y_Erm_whole (Cond.code y_Erm_whole prog_16_method_7_code 1 (some .long)) 1 D τ B [.ref (ad 63)] (wdM τ σ ad) (wdM τ σ ad) o := by
  refine en_l (by decide) (Nat.le_of_ble_eq_true rfl) ?_
  intro p e R s m args below meth c H locs ls A E hret w hl
  have E : Cx p R s m args meth c prog_16_method_7_code 1 "DrawingMachineModel$EdgeRasterModel" 1 D τ B A := E
  have hl : lv_has ls 1 [(0, .ref (ad 63))] := hl
  refine lv_aload_n E.x E.b d_Erm_whole_0 rfl (lv_at hl 0 rfl) ?_
  refine lv_iconst (v := 0) E.x E.b d_Erm_whole_1 (by decide) ?_
  refine lv_iconst (v := 1) E.x E.b d_Erm_whole_2 (by decide) ?_
  refine lv_aload_n E.x E.b d_Erm_whole_3 rfl (lv_at hl 0 rfl) ?_
  refine gM_Erm_cornerX E w k1668 d_Erm_whole_4 ?_
  refine lv_iconst (v := 2) E.x E.b d_Erm_whole_7 (by decide) ?_
  refine ialM E w (k := 40) (by decide) (show inb 2 3 by decide) d_Erm_whole_8 ?_
  refine wi_e (v := σ.2.2.1 40 2) rfl ?_
  refine lv_aload_n E.x E.b d_Erm_whole_9 rfl (lv_at hl 0 rfl) ?_
  refine gM_Erm_cornerY E w k1670 d_Erm_whole_10 ?_
  refine lv_iconst (v := 2) E.x E.b d_Erm_whole_13 (by decide) ?_
  refine ialM E w (k := 41) (by decide) (show inb 2 3 by decide) d_Erm_whole_14 ?_
  refine wi_e (v := σ.2.2.1 41 2) rfl ?_
  obtain ⟨o2, h_o2, h⟩ := bd_some h
  refine clV_Erm_room E w (x0 := 0) (x1 := 1) (x2 := (σ.2.2.1 40 2)) (x3 := (σ.2.2.1 41 2)) h_o2 k2404 (by decide) hl.1 (Nat.le_of_ble_eq_true rfl) d_Erm_whole_15 (fun H locs w => ?_)
  obtain rfl := Option.some.inj h
  exact rt_l E w hret d_Erm_whole_18
theorem clV_Erm_whole {p : Program} {l : Launch} {e : Env} {R : Room} {s : State} {m : MethodId} {args : Array Value} {below : List Frame} {meth : Method} {c : Code} {H : Heap} {locs : List Loc} {Q : State → Prop} {cc : ByteArray} {nL pc lev : Nat} {own : String} {D : va_G} {τ : ClassId × ClassId × ClassId} {B : Nat} {A : Nat → Prop} {σ : Sg} {ad : Nat → Nat} {ls : Array Slot} {rest : List Value} (E : Cx p R s m args meth c cc nL own lev D τ B A) (w : Wd s D A (wdM τ σ ad) H locs) {o : Int64} (h : F_Erm_whole σ = some o) {index : Nat} (hlk : Cond.methodLink own index y_Erm_whole ∈ tw) (hlev : 1 < lev) (hsz : ls.size = nL) (hr : (rest.map fun v => v.category).sum ≤ 8) (hd : decode cc pc = .ok (.invokevirtual index, 3)) (kk : ∀ (H1 : Heap) (locs1 : List Loc), Wd s D A (wdM τ σ ad) H1 locs1 → W p l e R s m args below meth c H1 locs1 0 0 Q (F0 m (pc + 3) ls (.long o :: rest))) : W p l e R s m args below meth c H locs 0 0 Q (F0 m pc ls (.ref (ad 63) :: rest)) :=
  cr_l w E.C (va_runV (As := []) (rest := rest) E.fix (c_Erm_whole l D τ B σ ad o h H.size) (cwV 0 E.w (tw_pre (tw_good k2403) (l := [_, _, _, _]) (List.forall_mem_cons.mpr ⟨hlk, List.forall_mem_cons.mpr ⟨k2402, List.forall_mem_cons.mpr ⟨ks102, List.forall_mem_cons.mpr ⟨k19, fun _ h => absurd h List.not_mem_nil⟩⟩⟩⟩)) rfl rfl rfl (by decide +kernel) (E.rm hlev (by decide))) (wd_preV w E.C [] rcM_Erm rfl) rfl rfl hsz rfl (lv_room hr) hd ⟨Nat.zero_le _, Nat.zero_le _⟩) kk
theorem clVN_Erm_whole {p : Program} {l : Launch} {e : Env} {R : Room} {s : State} {m : MethodId} {args : Array Value} {below : List Frame} {meth : Method} {c : Code} {H : Heap} {locs : List Loc} {Q : State → Prop} {cc : ByteArray} {nL pc lev : Nat} {own : String} {D : va_G} {τ : ClassId × ClassId × ClassId} {B : Nat} {A : Nat → Prop} {σ : Sg} {ad : Nat → Nat} {ls : Array Slot} {rest : List Value} (E : Cx p R s m args meth c cc nL own lev D τ B A) (w : Wd s D A (wdM τ σ ad) H locs) {o : Int64} (h : F_Erm_whole σ = some o) {index : Nat} {host : String} (hlk : Cond.methodLinkNest own index y_Erm_whole host ∈ nw) (hlev : 1 < lev) (hsz : ls.size = nL) (hr : (rest.map fun v => v.category).sum ≤ 8) (hd : decode cc pc = .ok (.invokevirtual index, 3)) (kk : ∀ (H1 : Heap) (locs1 : List Loc), Wd s D A (wdM τ σ ad) H1 locs1 → W p l e R s m args below meth c H1 locs1 0 0 Q (F0 m (pc + 3) ls (.long o :: rest))) : W p l e R s m args below meth c H locs 0 0 Q (F0 m pc ls (.ref (ad 63) :: rest)) :=
  cr_l w E.C (va_runVN (As := []) (rest := rest) E.fix (c_Erm_whole l D τ B σ ad o h H.size) ⟨va_cnB 0 E.w (tw_good k2403) rfl rfl rfl (E.C.2.1.1 _ hlk) (E.w _ k19) (by decide +kernel) (E.rm hlev (by decide)), E.w _ k2402, E.w _ ks102⟩ (wd_preV w E.C [] rcM_Erm rfl) rfl rfl hsz rfl (lv_room hr) hd ⟨Nat.zero_le _, Nat.zero_le _⟩) kk

theorem d_Erm_from_0 : decode prog_16_method_8_code 0 = .ok (.aload_n 0, 1) := by decide +kernel
theorem d_Erm_from_1 : decode prog_16_method_8_code 1 = .ok (.invokevirtual 43, 3) := by decide +kernel
theorem d_Erm_from_4 : decode prog_16_method_8_code 4 = .ok (.lconst 0, 1) := by decide +kernel
theorem d_Erm_from_5 : decode prog_16_method_8_code 5 = .ok (.lcmp, 1) := by decide +kernel
theorem d_Erm_from_6 : decode prog_16_method_8_code 6 = .ok (.ifCond .ge 11, 3) := by decide +kernel
theorem d_Erm_from_9 : decode prog_16_method_8_code 9 = .ok (.iload_n 1, 1) := by decide +kernel
theorem d_Erm_from_10 : decode prog_16_method_8_code 10 = .ok (.iconst 2, 1) := by decide +kernel
theorem d_Erm_from_11 : decode prog_16_method_8_code 11 = .ok (.iadd, 1) := by decide +kernel
theorem d_Erm_from_12 : decode prog_16_method_8_code 12 = .ok (.iconst 3, 1) := by decide +kernel
theorem d_Erm_from_13 : decode prog_16_method_8_code 13 = .ok (.irem, 1) := by decide +kernel
theorem d_Erm_from_14 : decode prog_16_method_8_code 14 = .ok (.goto 8, 3) := by decide +kernel
theorem d_Erm_from_17 : decode prog_16_method_8_code 17 = .ok (.iload_n 1, 1) := by decide +kernel
theorem d_Erm_from_18 : decode prog_16_method_8_code 18 = .ok (.iconst 1, 1) := by decide +kernel
theorem d_Erm_from_19 : decode prog_16_method_8_code 19 = .ok (.iadd, 1) := by decide +kernel
theorem d_Erm_from_20 : decode prog_16_method_8_code 20 = .ok (.iconst 3, 1) := by decide +kernel
theorem d_Erm_from_21 : decode prog_16_method_8_code 21 = .ok (.irem, 1) := by decide +kernel
theorem d_Erm_from_22 : decode prog_16_method_8_code 22 = .ok (.ireturn, 1) := by decide +kernel
def F_Erm_from_22 (σ : Sg) (s0 : Int32) : Option (Int32) := some s0
set_option maxRecDepth 10000 in
set_option maxHeartbeats 4000000 in
theorem bt_Erm_from_22 {p : Program} {l : Launch} {e : Env} {R : Room} {s : State} {m : MethodId} {args : Array Value} {below : List Frame} {meth : Method} {c : Code} {D : va_G} {τ : ClassId × ClassId × ClassId} {B : Nat} {A : Nat → Prop} {ad : Nat → Nat} (E : Cx p R s m args meth c prog_16_method_8_code 2 "DrawingMachineModel$EdgeRasterModel" 2 D τ B A) (hret : meth.sig.returnType = (some .int)) (o : Int32) (σ : Sg) (s0 : Int32) (h : F_Erm_from_22 σ s0 = some o) {H : Heap} {locs : List Loc} {ls : Array Slot} (w : Wd s D A (wdM τ σ ad) H locs) (hl : lv_has ls 2 []) : W p l e R s m args below meth c H locs 0 0 (QI below args s A D τ (wdM τ σ ad) o) (F0 m 22 ls [.int s0]) := by
  obtain rfl := Option.some.inj h
  exact rt_i E w hret d_Erm_from_22
def F_Erm_from (σ : Sg) (x0 : Int32) : Option (Int32) := bd (F_Erm_whole σ) (fun o2 => if 0 ≤ o2 then (F_Erm_from_22 σ (irem (x0 + 1) 3)) else (F_Erm_from_22 σ (irem (x0 + 2) 3)))
set_option maxRecDepth 10000 in
set_option maxHeartbeats 4000000 in
theorem c_Erm_from (l : Launch) (D : va_G) (τ : ClassId × ClassId × ClassId) (B : Nat) (σ : Sg) (ad : Nat → Nat) (x0 : Int32) (o : Int32) (h : F_Erm_from σ x0 = some o) : MI l y_Erm_from (Cond.code y_Erm_from prog_16_method_8_code 2 (some .int)) 2 D τ B [.ref (ad 63), .int x0] (wdM τ σ ad) (wdM τ σ ad) o := by
  refine en_i (by decide) (Nat.le_of_ble_eq_true rfl) ?_
  intro p e R s m args below meth c H locs ls A E hret w hl
  have E : Cx p R s m args meth c prog_16_method_8_code 2 "DrawingMachineModel$EdgeRasterModel" 2 D τ B A := E
  have hl : lv_has ls 2 [(0, .ref (ad 63)), (1, .int x0)] := hl
  refine lv_aload_n E.x E.b d_Erm_from_0 rfl (lv_at hl 0 rfl) ?_
  obtain ⟨o2, h_o2, h⟩ := bd_some h
  refine clV_Erm_whole E w h_o2 k2400 (by decide) hl.1 (Nat.le_of_ble_eq_true rfl) d_Erm_from_1 (fun H locs w => ?_)
  refine lv_lconst (v := 0) E.x E.b d_Erm_from_4 (by decide) ?_
  refine W.lcmp E.x E.b d_Erm_from_5 ?_
  refine lv_if_ge (tgt := 17) E.x E.b d_Erm_from_6 (by decide) (fun c => ?_) (fun c => ?_)
  ·
    replace h := ifT (lgc_ge.mp c) h
    refine lv_iload_n E.x E.b d_Erm_from_17 rfl (lv_at hl 1 rfl) ?_
    refine lv_iconst (v := 1) E.x E.b d_Erm_from_18 (by decide) ?_
    refine lv_iadd E.x E.b d_Erm_from_19 ?_
    refine lv_iconst (v := 3) E.x E.b d_Erm_from_20 (by decide) ?_
    refine lv_irem E.x E.b d_Erm_from_21 (by decide) ?_
    refine wi_e (v := irem (x0 + 1) 3) rfl ?_
    exact bt_Erm_from_22 E hret o σ (irem (x0 + 1) 3) h w (lv_sub hl [] rfl)
  ·
    replace h := ifF (fun h9 => c (lgc_ge.mpr h9)) h
    refine lv_iload_n E.x E.b d_Erm_from_9 rfl (lv_at hl 1 rfl) ?_
    refine lv_iconst (v := 2) E.x E.b d_Erm_from_10 (by decide) ?_
    refine lv_iadd E.x E.b d_Erm_from_11 ?_
    refine lv_iconst (v := 3) E.x E.b d_Erm_from_12 (by decide) ?_
    refine lv_irem E.x E.b d_Erm_from_13 (by decide) ?_
    refine wi_e (v := irem (x0 + 2) 3) rfl ?_
    refine lv_goto (tgt := 22) E.x E.b d_Erm_from_14 (by decide) ?_
    exact bt_Erm_from_22 E hret o σ (irem (x0 + 2) 3) h w (lv_sub hl [] rfl)
theorem clV_Erm_from {p : Program} {l : Launch} {e : Env} {R : Room} {s : State} {m : MethodId} {args : Array Value} {below : List Frame} {meth : Method} {c : Code} {H : Heap} {locs : List Loc} {Q : State → Prop} {cc : ByteArray} {nL pc lev : Nat} {own : String} {D : va_G} {τ : ClassId × ClassId × ClassId} {B : Nat} {A : Nat → Prop} {σ : Sg} {ad : Nat → Nat} {ls : Array Slot} {rest : List Value} (E : Cx p R s m args meth c cc nL own lev D τ B A) (w : Wd s D A (wdM τ σ ad) H locs) {x0 : Int32} {o : Int32} (h : F_Erm_from σ x0 = some o) {index : Nat} (hlk : Cond.methodLink own index y_Erm_from ∈ tw) (hlev : 2 < lev) (hsz : ls.size = nL) (hr : (rest.map fun v => v.category).sum ≤ 8) (hd : decode cc pc = .ok (.invokevirtual index, 3)) (kk : ∀ (H1 : Heap) (locs1 : List Loc), Wd s D A (wdM τ σ ad) H1 locs1 → W p l e R s m args below meth c H1 locs1 0 0 Q (F0 m (pc + 3) ls (.int o :: rest))) : W p l e R s m args below meth c H locs 0 0 Q (F0 m pc ls (.int x0 :: .ref (ad 63) :: rest)) :=
  cr_i w E.C (va_runV (As := [.int x0]) (rest := rest) E.fix (c_Erm_from l D τ B σ ad x0 o h H.size) (cwV 1 E.w (tw_pre (tw_good k2415) (l := [_, _, _, _]) (List.forall_mem_cons.mpr ⟨hlk, List.forall_mem_cons.mpr ⟨k2414, List.forall_mem_cons.mpr ⟨ks105, List.forall_mem_cons.mpr ⟨k19, fun _ h => absurd h List.not_mem_nil⟩⟩⟩⟩)) rfl rfl rfl (by decide +kernel) (E.rm hlev (by decide))) (wd_preV w E.C [.int x0] rcM_Erm rfl) rfl rfl hsz rfl (lv_room hr) hd ⟨Nat.zero_le _, Nat.zero_le _⟩) kk

theorem d_Erm_to_0 : decode prog_16_method_9_code 0 = .ok (.aload_n 0, 1) := by decide +kernel
theorem d_Erm_to_1 : decode prog_16_method_9_code 1 = .ok (.invokevirtual 43, 3) := by decide +kernel
theorem d_Erm_to_4 : decode prog_16_method_9_code 4 = .ok (.lconst 0, 1) := by decide +kernel
theorem d_Erm_to_5 : decode prog_16_method_9_code 5 = .ok (.lcmp, 1) := by decide +kernel
theorem d_Erm_to_6 : decode prog_16_method_9_code 6 = .ok (.ifCond .ge 11, 3) := by decide +kernel
theorem d_Erm_to_9 : decode prog_16_method_9_code 9 = .ok (.iload_n 1, 1) := by decide +kernel
theorem d_Erm_to_10 : decode prog_16_method_9_code 10 = .ok (.iconst 1, 1) := by decide +kernel
theorem d_Erm_to_11 : decode prog_16_method_9_code 11 = .ok (.iadd, 1) := by decide +kernel
theorem d_Erm_to_12 : decode prog_16_method_9_code 12 = .ok (.iconst 3, 1) := by decide +kernel
theorem d_Erm_to_13 : decode prog_16_method_9_code 13 = .ok (.irem, 1) := by decide +kernel
theorem d_Erm_to_14 : decode prog_16_method_9_code 14 = .ok (.goto 8, 3) := by decide +kernel
theorem d_Erm_to_17 : decode prog_16_method_9_code 17 = .ok (.iload_n 1, 1) := by decide +kernel
theorem d_Erm_to_18 : decode prog_16_method_9_code 18 = .ok (.iconst 2, 1) := by decide +kernel
theorem d_Erm_to_19 : decode prog_16_method_9_code 19 = .ok (.iadd, 1) := by decide +kernel
theorem d_Erm_to_20 : decode prog_16_method_9_code 20 = .ok (.iconst 3, 1) := by decide +kernel
theorem d_Erm_to_21 : decode prog_16_method_9_code 21 = .ok (.irem, 1) := by decide +kernel
theorem d_Erm_to_22 : decode prog_16_method_9_code 22 = .ok (.ireturn, 1) := by decide +kernel
def F_Erm_to_22 (σ : Sg) (s0 : Int32) : Option (Int32) := some s0
set_option maxRecDepth 10000 in
set_option maxHeartbeats 4000000 in
theorem bt_Erm_to_22 {p : Program} {l : Launch} {e : Env} {R : Room} {s : State} {m : MethodId} {args : Array Value} {below : List Frame} {meth : Method} {c : Code} {D : va_G} {τ : ClassId × ClassId × ClassId} {B : Nat} {A : Nat → Prop} {ad : Nat → Nat} (E : Cx p R s m args meth c prog_16_method_9_code 2 "DrawingMachineModel$EdgeRasterModel" 2 D τ B A) (hret : meth.sig.returnType = (some .int)) (o : Int32) (σ : Sg) (s0 : Int32) (h : F_Erm_to_22 σ s0 = some o) {H : Heap} {locs : List Loc} {ls : Array Slot} (w : Wd s D A (wdM τ σ ad) H locs) (hl : lv_has ls 2 []) : W p l e R s m args below meth c H locs 0 0 (QI below args s A D τ (wdM τ σ ad) o) (F0 m 22 ls [.int s0]) := by
  obtain rfl := Option.some.inj h
  exact rt_i E w hret d_Erm_to_22
def F_Erm_to (σ : Sg) (x0 : Int32) : Option (Int32) := bd (F_Erm_whole σ) (fun o2 => if 0 ≤ o2 then (F_Erm_to_22 σ (irem (x0 + 2) 3)) else (F_Erm_to_22 σ (irem (x0 + 1) 3)))
set_option maxRecDepth 10000 in
set_option maxHeartbeats 4000000 in
theorem c_Erm_to (l : Launch) (D : va_G) (τ : ClassId × ClassId × ClassId) (B : Nat) (σ : Sg) (ad : Nat → Nat) (x0 : Int32) (o : Int32) (h : F_Erm_to σ x0 = some o) : MI l y_Erm_to (Cond.code y_Erm_to prog_16_method_9_code 2 (some .int)) 2 D τ B [.ref (ad 63), .int x0] (wdM τ σ ad) (wdM τ σ ad) o := by
  refine en_i (by decide) (Nat.le_of_ble_eq_true rfl) ?_
  intro p e R s m args below meth c H locs ls A E hret w hl
  have E : Cx p R s m args meth c prog_16_method_9_code 2 "DrawingMachineModel$EdgeRasterModel" 2 D τ B A := E
  have hl : lv_has ls 2 [(0, .ref (ad 63)), (1, .int x0)] := hl
  refine lv_aload_n E.x E.b d_Erm_to_0 rfl (lv_at hl 0 rfl) ?_
  obtain ⟨o2, h_o2, h⟩ := bd_some h
  refine clV_Erm_whole E w h_o2 k2400 (by decide) hl.1 (Nat.le_of_ble_eq_true rfl) d_Erm_to_1 (fun H locs w => ?_)
  refine lv_lconst (v := 0) E.x E.b d_Erm_to_4 (by decide) ?_
  refine W.lcmp E.x E.b d_Erm_to_5 ?_
  refine lv_if_ge (tgt := 17) E.x E.b d_Erm_to_6 (by decide) (fun c => ?_) (fun c => ?_)
  ·
    replace h := ifT (lgc_ge.mp c) h
    refine lv_iload_n E.x E.b d_Erm_to_17 rfl (lv_at hl 1 rfl) ?_
    refine lv_iconst (v := 2) E.x E.b d_Erm_to_18 (by decide) ?_
    refine lv_iadd E.x E.b d_Erm_to_19 ?_
    refine lv_iconst (v := 3) E.x E.b d_Erm_to_20 (by decide) ?_
    refine lv_irem E.x E.b d_Erm_to_21 (by decide) ?_
    refine wi_e (v := irem (x0 + 2) 3) rfl ?_
    exact bt_Erm_to_22 E hret o σ (irem (x0 + 2) 3) h w (lv_sub hl [] rfl)
  ·
    replace h := ifF (fun h9 => c (lgc_ge.mpr h9)) h
    refine lv_iload_n E.x E.b d_Erm_to_9 rfl (lv_at hl 1 rfl) ?_
    refine lv_iconst (v := 1) E.x E.b d_Erm_to_10 (by decide) ?_
    refine lv_iadd E.x E.b d_Erm_to_11 ?_
    refine lv_iconst (v := 3) E.x E.b d_Erm_to_12 (by decide) ?_
    refine lv_irem E.x E.b d_Erm_to_13 (by decide) ?_
    refine wi_e (v := irem (x0 + 1) 3) rfl ?_
    refine lv_goto (tgt := 22) E.x E.b d_Erm_to_14 (by decide) ?_
    exact bt_Erm_to_22 E hret o σ (irem (x0 + 1) 3) h w (lv_sub hl [] rfl)
theorem clV_Erm_to {p : Program} {l : Launch} {e : Env} {R : Room} {s : State} {m : MethodId} {args : Array Value} {below : List Frame} {meth : Method} {c : Code} {H : Heap} {locs : List Loc} {Q : State → Prop} {cc : ByteArray} {nL pc lev : Nat} {own : String} {D : va_G} {τ : ClassId × ClassId × ClassId} {B : Nat} {A : Nat → Prop} {σ : Sg} {ad : Nat → Nat} {ls : Array Slot} {rest : List Value} (E : Cx p R s m args meth c cc nL own lev D τ B A) (w : Wd s D A (wdM τ σ ad) H locs) {x0 : Int32} {o : Int32} (h : F_Erm_to σ x0 = some o) {index : Nat} (hlk : Cond.methodLink own index y_Erm_to ∈ tw) (hlev : 2 < lev) (hsz : ls.size = nL) (hr : (rest.map fun v => v.category).sum ≤ 8) (hd : decode cc pc = .ok (.invokevirtual index, 3)) (kk : ∀ (H1 : Heap) (locs1 : List Loc), Wd s D A (wdM τ σ ad) H1 locs1 → W p l e R s m args below meth c H1 locs1 0 0 Q (F0 m (pc + 3) ls (.int o :: rest))) : W p l e R s m args below meth c H locs 0 0 Q (F0 m pc ls (.int x0 :: .ref (ad 63) :: rest)) :=
  cr_i w E.C (va_runV (As := [.int x0]) (rest := rest) E.fix (c_Erm_to l D τ B σ ad x0 o h H.size) (cwV 1 E.w (tw_pre (tw_good k2419) (l := [_, _, _, _]) (List.forall_mem_cons.mpr ⟨hlk, List.forall_mem_cons.mpr ⟨k2418, List.forall_mem_cons.mpr ⟨ks106, List.forall_mem_cons.mpr ⟨k19, fun _ h => absurd h List.not_mem_nil⟩⟩⟩⟩)) rfl rfl rfl (by decide +kernel) (E.rm hlev (by decide))) (wd_preV w E.C [.int x0] rcM_Erm rfl) rfl rfl hsz rfl (lv_room hr) hd ⟨Nat.zero_le _, Nat.zero_le _⟩) kk

theorem d_Erm_weightOf_0 : decode prog_16_method_10_code 0 = .ok (.aload_n 0, 1) := by decide +kernel
theorem d_Erm_weightOf_1 : decode prog_16_method_10_code 1 = .ok (.aload_n 0, 1) := by decide +kernel
theorem d_Erm_weightOf_2 : decode prog_16_method_10_code 2 = .ok (.iload_n 1, 1) := by decide +kernel
theorem d_Erm_weightOf_3 : decode prog_16_method_10_code 3 = .ok (.invokevirtual 47, 3) := by decide +kernel
theorem d_Erm_weightOf_6 : decode prog_16_method_10_code 6 = .ok (.aload_n 0, 1) := by decide +kernel
theorem d_Erm_weightOf_7 : decode prog_16_method_10_code 7 = .ok (.iload_n 1, 1) := by decide +kernel
theorem d_Erm_weightOf_8 : decode prog_16_method_10_code 8 = .ok (.invokevirtual 51, 3) := by decide +kernel
theorem d_Erm_weightOf_11 : decode prog_16_method_10_code 11 = .ok (.bipush 16, 2) := by decide +kernel
theorem d_Erm_weightOf_13 : decode prog_16_method_10_code 13 = .ok (.iload_n 2, 1) := by decide +kernel
theorem d_Erm_weightOf_14 : decode prog_16_method_10_code 14 = .ok (.imul, 1) := by decide +kernel
theorem d_Erm_weightOf_15 : decode prog_16_method_10_code 15 = .ok (.bipush 8, 2) := by decide +kernel
theorem d_Erm_weightOf_17 : decode prog_16_method_10_code 17 = .ok (.iadd, 1) := by decide +kernel
theorem d_Erm_weightOf_18 : decode prog_16_method_10_code 18 = .ok (.bipush 16, 2) := by decide +kernel
theorem d_Erm_weightOf_20 : decode prog_16_method_10_code 20 = .ok (.iload_n 3, 1) := by decide +kernel
theorem d_Erm_weightOf_21 : decode prog_16_method_10_code 21 = .ok (.imul, 1) := by decide +kernel
theorem d_Erm_weightOf_22 : decode prog_16_method_10_code 22 = .ok (.bipush 8, 2) := by decide +kernel
theorem d_Erm_weightOf_24 : decode prog_16_method_10_code 24 = .ok (.iadd, 1) := by decide +kernel
theorem d_Erm_weightOf_25 : decode prog_16_method_10_code 25 = .ok (.invokevirtual 39, 3) := by decide +kernel
theorem d_Erm_weightOf_28 : decode prog_16_method_10_code 28 = .ok (.lreturn, 1) := by decide +kernel
def F_Erm_weightOf (σ : Sg) (x0 : Int32) (x1 : Int32) (x2 : Int32) : Option (Int64) := bd (F_Erm_from σ x0) (fun o4 => bd (F_Erm_to σ x0) (fun o5 => bd (F_Erm_room σ o4 o5 ((16 * x1) + 8) ((16 * x2) + 8)) (fun o6 => some o6)))
set_option maxRecDepth 10000 in
set_option maxHeartbeats 4000000 in
theorem c_Erm_weightOf (l : Launch) (D : va_G) (τ : ClassId × ClassId × ClassId) (B : Nat) (σ : Sg) (ad : Nat → Nat) (x0 : Int32) (x1 : Int32) (x2 : Int32) (o : Int64) (h : F_Erm_weightOf σ x0 x1 x2 = some o) : ML l y_Erm_weightOf (Cond.code y_Erm_weightOf prog_16_method_10_code 4 (some .long)) 3 D τ B [.ref (ad 63), .int x0, .int x1, .int x2] (wdM τ σ ad) (wdM τ σ ad) o := by
  refine en_l (by decide) (Nat.le_of_ble_eq_true rfl) ?_
  intro p e R s m args below meth c H locs ls A E hret w hl
  have E : Cx p R s m args meth c prog_16_method_10_code 4 "DrawingMachineModel$EdgeRasterModel" 3 D τ B A := E
  have hl : lv_has ls 4 [(0, .ref (ad 63)), (1, .int x0), (2, .int x1), (3, .int x2)] := hl
  refine lv_aload_n E.x E.b d_Erm_weightOf_0 rfl (lv_at hl 0 rfl) ?_
  refine lv_aload_n E.x E.b d_Erm_weightOf_1 rfl (lv_at hl 0 rfl) ?_
  refine lv_iload_n E.x E.b d_Erm_weightOf_2 rfl (lv_at hl 1 rfl) ?_
  obtain ⟨o4, h_o4, h⟩ := bd_some h
  refine clV_Erm_from E w (x0 := x0) h_o4 k2412 (by decide) hl.1 (Nat.le_of_ble_eq_true rfl) d_Erm_weightOf_3 (fun H locs w => ?_)
  refine lv_aload_n E.x E.b d_Erm_weightOf_6 rfl (lv_at hl 0 rfl) ?_
  refine lv_iload_n E.x E.b d_Erm_weightOf_7 rfl (lv_at hl 1 rfl) ?_
  obtain ⟨o5, h_o5, h⟩ := bd_some h
  refine clV_Erm_to E w (x0 := x0) h_o5 k2416 (by decide) hl.1 (Nat.le_of_ble_eq_true rfl) d_Erm_weightOf_8 (fun H locs w => ?_)
  refine lv_bipush (v := 16) E.x E.b d_Erm_weightOf_11 (by decide) ?_
  refine lv_iload_n E.x E.b d_Erm_weightOf_13 rfl (lv_at hl 2 rfl) ?_
  refine lv_imul E.x E.b d_Erm_weightOf_14 ?_
  refine lv_bipush (v := 8) E.x E.b d_Erm_weightOf_15 (by decide) ?_
  refine lv_iadd E.x E.b d_Erm_weightOf_17 ?_
  refine lv_bipush (v := 16) E.x E.b d_Erm_weightOf_18 (by decide) ?_
  refine lv_iload_n E.x E.b d_Erm_weightOf_20 rfl (lv_at hl 3 rfl) ?_
  refine lv_imul E.x E.b d_Erm_weightOf_21 ?_
  refine lv_bipush (v := 8) E.x E.b d_Erm_weightOf_22 (by decide) ?_
  refine lv_iadd E.x E.b d_Erm_weightOf_24 ?_
  obtain ⟨o6, h_o6, h⟩ := bd_some h
  refine clV_Erm_room E w (x0 := o4) (x1 := o5) (x2 := ((16 * x1) + 8)) (x3 := ((16 * x2) + 8)) h_o6 k2404 (by decide) hl.1 (Nat.le_of_ble_eq_true rfl) d_Erm_weightOf_25 (fun H locs w => ?_)
  obtain rfl := Option.some.inj h
  exact rt_l E w hret d_Erm_weightOf_28
theorem clV_Erm_weightOf {p : Program} {l : Launch} {e : Env} {R : Room} {s : State} {m : MethodId} {args : Array Value} {below : List Frame} {meth : Method} {c : Code} {H : Heap} {locs : List Loc} {Q : State → Prop} {cc : ByteArray} {nL pc lev : Nat} {own : String} {D : va_G} {τ : ClassId × ClassId × ClassId} {B : Nat} {A : Nat → Prop} {σ : Sg} {ad : Nat → Nat} {ls : Array Slot} {rest : List Value} (E : Cx p R s m args meth c cc nL own lev D τ B A) (w : Wd s D A (wdM τ σ ad) H locs) {x0 : Int32} {x1 : Int32} {x2 : Int32} {o : Int64} (h : F_Erm_weightOf σ x0 x1 x2 = some o) {index : Nat} (hlk : Cond.methodLink own index y_Erm_weightOf ∈ tw) (hlev : 3 < lev) (hsz : ls.size = nL) (hr : (rest.map fun v => v.category).sum ≤ 8) (hd : decode cc pc = .ok (.invokevirtual index, 3)) (kk : ∀ (H1 : Heap) (locs1 : List Loc), Wd s D A (wdM τ σ ad) H1 locs1 → W p l e R s m args below meth c H1 locs1 0 0 Q (F0 m (pc + 3) ls (.long o :: rest))) : W p l e R s m args below meth c H locs 0 0 Q (F0 m pc ls (.int x2 :: .int x1 :: .int x0 :: .ref (ad 63) :: rest)) :=
  cr_l w E.C (va_runV (As := [.int x0, .int x1, .int x2]) (rest := rest) E.fix (c_Erm_weightOf l D τ B σ ad x0 x1 x2 o h H.size) (cwV 3 E.w (tw_pre (tw_good k2411) (l := [_, _, _, _]) (List.forall_mem_cons.mpr ⟨hlk, List.forall_mem_cons.mpr ⟨k2410, List.forall_mem_cons.mpr ⟨ks104, List.forall_mem_cons.mpr ⟨k19, fun _ h => absurd h List.not_mem_nil⟩⟩⟩⟩)) rfl rfl rfl (by decide +kernel) (E.rm hlev (by decide))) (wd_preV w E.C [.int x0, .int x1, .int x2] rcM_Erm rfl) rfl rfl hsz rfl (lv_room hr) hd ⟨Nat.zero_le _, Nat.zero_le _⟩) kk
theorem clVN_Erm_weightOf {p : Program} {l : Launch} {e : Env} {R : Room} {s : State} {m : MethodId} {args : Array Value} {below : List Frame} {meth : Method} {c : Code} {H : Heap} {locs : List Loc} {Q : State → Prop} {cc : ByteArray} {nL pc lev : Nat} {own : String} {D : va_G} {τ : ClassId × ClassId × ClassId} {B : Nat} {A : Nat → Prop} {σ : Sg} {ad : Nat → Nat} {ls : Array Slot} {rest : List Value} (E : Cx p R s m args meth c cc nL own lev D τ B A) (w : Wd s D A (wdM τ σ ad) H locs) {x0 : Int32} {x1 : Int32} {x2 : Int32} {o : Int64} (h : F_Erm_weightOf σ x0 x1 x2 = some o) {index : Nat} {host : String} (hlk : Cond.methodLinkNest own index y_Erm_weightOf host ∈ nw) (hlev : 3 < lev) (hsz : ls.size = nL) (hr : (rest.map fun v => v.category).sum ≤ 8) (hd : decode cc pc = .ok (.invokevirtual index, 3)) (kk : ∀ (H1 : Heap) (locs1 : List Loc), Wd s D A (wdM τ σ ad) H1 locs1 → W p l e R s m args below meth c H1 locs1 0 0 Q (F0 m (pc + 3) ls (.long o :: rest))) : W p l e R s m args below meth c H locs 0 0 Q (F0 m pc ls (.int x2 :: .int x1 :: .int x0 :: .ref (ad 63) :: rest)) :=
  cr_l w E.C (va_runVN (As := [.int x0, .int x1, .int x2]) (rest := rest) E.fix (c_Erm_weightOf l D τ B σ ad x0 x1 x2 o h H.size) ⟨va_cnB 3 E.w (tw_good k2411) rfl rfl rfl (E.C.2.1.1 _ hlk) (E.w _ k19) (by decide +kernel) (E.rm hlev (by decide)), E.w _ k2410, E.w _ ks104⟩ (wd_preV w E.C [.int x0, .int x1, .int x2] rcM_Erm rfl) rfl rfl hsz rfl (lv_room hr) hd ⟨Nat.zero_le _, Nat.zero_le _⟩) kk

theorem d_Mod_share_0 : decode prog_14_method_25_code 0 = .ok (.lconst 0, 1) := by decide +kernel
theorem d_Mod_share_1 : decode prog_14_method_25_code 1 = .ok (.lstore_n 3, 1) := by decide +kernel
theorem d_Mod_share_2 : decode prog_14_method_25_code 2 = .ok (.iconst 0, 1) := by decide +kernel
theorem d_Mod_share_3 : decode prog_14_method_25_code 3 = .ok (.istore 5, 2) := by decide +kernel
theorem d_Mod_share_5 : decode prog_14_method_25_code 5 = .ok (.iconst 0, 1) := by decide +kernel
theorem d_Mod_share_6 : decode prog_14_method_25_code 6 = .ok (.istore 6, 2) := by decide +kernel
theorem d_Mod_share_8 : decode prog_14_method_25_code 8 = .ok (.iload 6, 2) := by decide +kernel
theorem d_Mod_share_10 : decode prog_14_method_25_code 10 = .ok (.iconst 3, 1) := by decide +kernel
theorem d_Mod_share_11 : decode prog_14_method_25_code 11 = .ok (.if_icmp .ge 83, 3) := by decide +kernel
theorem d_Mod_share_14 : decode prog_14_method_25_code 14 = .ok (.aload_n 0, 1) := by decide +kernel
theorem d_Mod_share_15 : decode prog_14_method_25_code 15 = .ok (.getfield 58, 3) := by decide +kernel
theorem d_Mod_share_18 : decode prog_14_method_25_code 18 = .ok (.iload 6, 2) := by decide +kernel
theorem d_Mod_share_20 : decode prog_14_method_25_code 20 = .ok (.iload_n 1, 1) := by decide +kernel
theorem d_Mod_share_21 : decode prog_14_method_25_code 21 = .ok (.iload_n 2, 1) := by decide +kernel
theorem d_Mod_share_22 : decode prog_14_method_25_code 22 = .ok (.invokevirtual 323, 3) := by decide +kernel
theorem d_Mod_share_25 : decode prog_14_method_25_code 25 = .ok (.lstore 7, 2) := by decide +kernel
theorem d_Mod_share_27 : decode prog_14_method_25_code 27 = .ok (.lload_n 3, 1) := by decide +kernel
theorem d_Mod_share_28 : decode prog_14_method_25_code 28 = .ok (.lload 7, 2) := by decide +kernel
theorem d_Mod_share_30 : decode prog_14_method_25_code 30 = .ok (.aload_n 0, 1) := by decide +kernel
theorem d_Mod_share_31 : decode prog_14_method_25_code 31 = .ok (.getfield 58, 3) := by decide +kernel
theorem d_Mod_share_34 : decode prog_14_method_25_code 34 = .ok (.getfield 327, 3) := by decide +kernel
theorem d_Mod_share_37 : decode prog_14_method_25_code 37 = .ok (.iload 6, 2) := by decide +kernel
theorem d_Mod_share_39 : decode prog_14_method_25_code 39 = .ok (.iaload, 1) := by decide +kernel
theorem d_Mod_share_40 : decode prog_14_method_25_code 40 = .ok (.i2l, 1) := by decide +kernel
theorem d_Mod_share_41 : decode prog_14_method_25_code 41 = .ok (.lmul, 1) := by decide +kernel
theorem d_Mod_share_42 : decode prog_14_method_25_code 42 = .ok (.ladd, 1) := by decide +kernel
theorem d_Mod_share_43 : decode prog_14_method_25_code 43 = .ok (.lstore_n 3, 1) := by decide +kernel
theorem d_Mod_share_44 : decode prog_14_method_25_code 44 = .ok (.aload_n 0, 1) := by decide +kernel
theorem d_Mod_share_45 : decode prog_14_method_25_code 45 = .ok (.getfield 81, 3) := by decide +kernel
theorem d_Mod_share_48 : decode prog_14_method_25_code 48 = .ok (.iload 6, 2) := by decide +kernel
theorem d_Mod_share_50 : decode prog_14_method_25_code 50 = .ok (.lload 7, 2) := by decide +kernel
theorem d_Mod_share_52 : decode prog_14_method_25_code 52 = .ok (.aload_n 0, 1) := by decide +kernel
theorem d_Mod_share_53 : decode prog_14_method_25_code 53 = .ok (.getfield 58, 3) := by decide +kernel
theorem d_Mod_share_56 : decode prog_14_method_25_code 56 = .ok (.getfield 330, 3) := by decide +kernel
theorem d_Mod_share_59 : decode prog_14_method_25_code 59 = .ok (.iload 6, 2) := by decide +kernel
theorem d_Mod_share_61 : decode prog_14_method_25_code 61 = .ok (.iaload, 1) := by decide +kernel
theorem d_Mod_share_62 : decode prog_14_method_25_code 62 = .ok (.i2l, 1) := by decide +kernel
theorem d_Mod_share_63 : decode prog_14_method_25_code 63 = .ok (.lmul, 1) := by decide +kernel
theorem d_Mod_share_64 : decode prog_14_method_25_code 64 = .ok (.lastore, 1) := by decide +kernel
theorem d_Mod_share_65 : decode prog_14_method_25_code 65 = .ok (.aload_n 0, 1) := by decide +kernel
theorem d_Mod_share_66 : decode prog_14_method_25_code 66 = .ok (.getfield 81, 3) := by decide +kernel
theorem d_Mod_share_69 : decode prog_14_method_25_code 69 = .ok (.iload 6, 2) := by decide +kernel
theorem d_Mod_share_71 : decode prog_14_method_25_code 71 = .ok (.laload, 1) := by decide +kernel
theorem d_Mod_share_72 : decode prog_14_method_25_code 72 = .ok (.iload 5, 2) := by decide +kernel
theorem d_Mod_share_74 : decode prog_14_method_25_code 74 = .ok (.lshr, 1) := by decide +kernel
theorem d_Mod_share_75 : decode prog_14_method_25_code 75 = .ok (.ldc2_w 333, 3) := by decide +kernel
theorem d_Mod_share_78 : decode prog_14_method_25_code 78 = .ok (.lcmp, 1) := by decide +kernel
theorem d_Mod_share_79 : decode prog_14_method_25_code 79 = .ok (.ifCond .lt 9, 3) := by decide +kernel
theorem d_Mod_share_82 : decode prog_14_method_25_code 82 = .ok (.iinc 5 1, 3) := by decide +kernel
theorem d_Mod_share_85 : decode prog_14_method_25_code 85 = .ok (.goto (-20), 3) := by decide +kernel
theorem d_Mod_share_88 : decode prog_14_method_25_code 88 = .ok (.iinc 6 1, 3) := by decide +kernel
theorem d_Mod_share_91 : decode prog_14_method_25_code 91 = .ok (.goto (-83), 3) := by decide +kernel
theorem d_Mod_share_94 : decode prog_14_method_25_code 94 = .ok (.iconst 0, 1) := by decide +kernel
theorem d_Mod_share_95 : decode prog_14_method_25_code 95 = .ok (.istore 6, 2) := by decide +kernel
theorem d_Mod_share_97 : decode prog_14_method_25_code 97 = .ok (.iload 6, 2) := by decide +kernel
theorem d_Mod_share_99 : decode prog_14_method_25_code 99 = .ok (.iconst 3, 1) := by decide +kernel
theorem d_Mod_share_100 : decode prog_14_method_25_code 100 = .ok (.if_icmp .ge 26, 3) := by decide +kernel
theorem d_Mod_share_103 : decode prog_14_method_25_code 103 = .ok (.aload_n 0, 1) := by decide +kernel
theorem d_Mod_share_104 : decode prog_14_method_25_code 104 = .ok (.getfield 81, 3) := by decide +kernel
theorem d_Mod_share_107 : decode prog_14_method_25_code 107 = .ok (.iload 6, 2) := by decide +kernel
theorem d_Mod_share_109 : decode prog_14_method_25_code 109 = .ok (.aload_n 0, 1) := by decide +kernel
theorem d_Mod_share_110 : decode prog_14_method_25_code 110 = .ok (.getfield 81, 3) := by decide +kernel
theorem d_Mod_share_113 : decode prog_14_method_25_code 113 = .ok (.iload 6, 2) := by decide +kernel
theorem d_Mod_share_115 : decode prog_14_method_25_code 115 = .ok (.laload, 1) := by decide +kernel
theorem d_Mod_share_116 : decode prog_14_method_25_code 116 = .ok (.iload 5, 2) := by decide +kernel
theorem d_Mod_share_118 : decode prog_14_method_25_code 118 = .ok (.lshr, 1) := by decide +kernel
theorem d_Mod_share_119 : decode prog_14_method_25_code 119 = .ok (.lastore, 1) := by decide +kernel
theorem d_Mod_share_120 : decode prog_14_method_25_code 120 = .ok (.iinc 6 1, 3) := by decide +kernel
theorem d_Mod_share_123 : decode prog_14_method_25_code 123 = .ok (.goto (-26), 3) := by decide +kernel
theorem d_Mod_share_126 : decode prog_14_method_25_code 126 = .ok (.aload_n 0, 1) := by decide +kernel
theorem d_Mod_share_127 : decode prog_14_method_25_code 127 = .ok (.getfield 58, 3) := by decide +kernel
theorem d_Mod_share_130 : decode prog_14_method_25_code 130 = .ok (.invokevirtual 335, 3) := by decide +kernel
theorem d_Mod_share_133 : decode prog_14_method_25_code 133 = .ok (.lstore 6, 2) := by decide +kernel
theorem d_Mod_share_135 : decode prog_14_method_25_code 135 = .ok (.lload_n 3, 1) := by decide +kernel
theorem d_Mod_share_136 : decode prog_14_method_25_code 136 = .ok (.lload 6, 2) := by decide +kernel
theorem d_Mod_share_138 : decode prog_14_method_25_code 138 = .ok (.lconst 0, 1) := by decide +kernel
theorem d_Mod_share_139 : decode prog_14_method_25_code 139 = .ok (.lcmp, 1) := by decide +kernel
theorem d_Mod_share_140 : decode prog_14_method_25_code 140 = .ok (.ifCond .ge 9, 3) := by decide +kernel
theorem d_Mod_share_143 : decode prog_14_method_25_code 143 = .ok (.lload 6, 2) := by decide +kernel
theorem d_Mod_share_145 : decode prog_14_method_25_code 145 = .ok (.lneg, 1) := by decide +kernel
theorem d_Mod_share_146 : decode prog_14_method_25_code 146 = .ok (.goto 5, 3) := by decide +kernel
theorem d_Mod_share_149 : decode prog_14_method_25_code 149 = .ok (.lload 6, 2) := by decide +kernel
theorem d_Mod_share_151 : decode prog_14_method_25_code 151 = .ok (.ldiv, 1) := by decide +kernel
theorem d_Mod_share_152 : decode prog_14_method_25_code 152 = .ok (.l2i, 1) := by decide +kernel
theorem d_Mod_share_153 : decode prog_14_method_25_code 153 = .ok (.ireturn, 1) := by decide +kernel
def F_Mod_share_151 (σ : Sg) (s0 : Int64) (s1 : Int64) : Option (Sg × Int32) := ck (¬ s1 = 0) (some (σ, (s0 / s1).toInt32))
set_option maxRecDepth 10000 in
set_option maxHeartbeats 4000000 in
theorem bt_Mod_share_151 {p : Program} {l : Launch} {e : Env} {R : Room} {s : State} {m : MethodId} {args : Array Value} {below : List Frame} {meth : Method} {c : Code} {D : va_G} {τ : ClassId × ClassId × ClassId} {B : Nat} {A : Nat → Prop} {ad : Nat → Nat} (E : Cx p R s m args meth c prog_14_method_25_code 9 "DrawingMachineModel" 4 D τ B A) (hret : meth.sig.returnType = (some .int)) (o : Sg × Int32) (σ : Sg) (s0 : Int64) (s1 : Int64) (h : F_Mod_share_151 σ s0 s1 = some o) {H : Heap} {locs : List Loc} {ls : Array Slot} (w : Wd s D A (wdM τ σ ad) H locs) (hl : lv_has ls 9 []) : W p l e R s m args below meth c H locs 0 0 (QI below args s A D τ (wdM τ o.1 ad) o.2) (F0 m 151 ls [.long s1, .long s0]) := by
  obtain ⟨c16, h⟩ := ck_some h
  refine lv_ldiv E.x E.b d_Mod_share_151 c16 ?_
  refine lv_l2i (v := (s0 / s1).toInt32) E.x E.b d_Mod_share_152 rfl ?_
  obtain rfl := Option.some.inj h
  exact rt_i E w hret d_Mod_share_153
def L_Mod_share_97 : Nat → Sg → Int64 → Int32 → Int32 → Option (Sg × Int32)
  | 0, _, _, _, _ => none
  | n + 1, σ, v3, v5, v6 => if 3 ≤ v6 then (bd (F_Erm_whole σ) (fun o17 => if 0 ≤ o17 then (F_Mod_share_151 σ v3 o17) else (F_Mod_share_151 σ v3 (-o17)))) else (ck (inb v6 3) (ck (inb v6 3) (lt (sB σ 0 (vp_updL (σ.2.2.2.1 0) v6.toNatClampNeg (lshr (σ.2.2.2.1 0 v6.toNatClampNeg) v5))) (fun σ20 => lt (v6 + 1) (fun y21 => L_Mod_share_97 n σ20 v3 v5 y21)))))
set_option maxRecDepth 10000 in
set_option maxHeartbeats 4000000 in
theorem lt_Mod_share_97 {p : Program} {l : Launch} {e : Env} {R : Room} {s : State} {m : MethodId} {args : Array Value} {below : List Frame} {meth : Method} {c : Code} {D : va_G} {τ : ClassId × ClassId × ClassId} {B : Nat} {A : Nat → Prop} {ad : Nat → Nat} (E : Cx p R s m args meth c prog_14_method_25_code 9 "DrawingMachineModel" 4 D τ B A) (hret : meth.sig.returnType = (some .int)) (o : Sg × Int32) : ∀ (n : Nat) (σ : Sg) (v3 : Int64) (v5 : Int32) (v6 : Int32) (H : Heap) (locs : List Loc) (ls : Array Slot), L_Mod_share_97 n σ v3 v5 v6 = some o → Wd s D A (wdM τ σ ad) H locs → lv_has ls 9 [(0, .ref (ad 59)), (3, .long v3), (5, .int v5), (6, .int v6)] → W p l e R s m args below meth c H locs 0 0 (QI below args s A D τ (wdM τ o.1 ad) o.2) (F0 m 97 ls []) := by
  intro n
  induction n with
  | zero =>
    intro σ v3 v5 v6 H locs ls h w hl
    cases h
  | succ n hr_97 =>
    intro σ v3 v5 v6 H locs ls h w hl
    refine lv_iload E.x E.b d_Mod_share_97 (lv_at hl 3 rfl) ?_
    refine lv_iconst (v := 3) E.x E.b d_Mod_share_99 (by decide) ?_
    refine lv_icmp_ge (tgt := 126) E.x E.b d_Mod_share_100 (by decide) (fun c => ?_) (fun c => ?_)
    ·
      replace h := ifT c h
      refine lv_aload_n E.x E.b d_Mod_share_126 rfl (lv_at hl 0 rfl) ?_
      refine gM_Mod_raster E w k1773 d_Mod_share_127 ?_
      obtain ⟨o17, h_o17, h⟩ := bd_some h
      refine clVN_Erm_whole E w h_o17 n2430 (by decide) hl.1 (Nat.le_of_ble_eq_true rfl) d_Mod_share_130 (fun H locs w => ?_)
      refine lv_lstore (lv' := [(6, .long o17), (0, .ref (ad 59)), (3, .long v3), (5, .int v5)]) E.x E.b d_Mod_share_133 hl (by decide) rfl (fun ls hl => ?_)
      refine lv_lload_n E.x E.b d_Mod_share_135 rfl (lv_at hl 2 rfl) ?_
      refine lv_lload E.x E.b d_Mod_share_136 (lv_at hl 0 rfl) ?_
      refine lv_lconst (v := 0) E.x E.b d_Mod_share_138 (by decide) ?_
      refine W.lcmp E.x E.b d_Mod_share_139 ?_
      refine lv_if_ge (tgt := 149) E.x E.b d_Mod_share_140 (by decide) (fun c => ?_) (fun c => ?_)
      ·
        replace h := ifT (lgc_ge.mp c) h
        refine lv_lload E.x E.b d_Mod_share_149 (lv_at hl 0 rfl) ?_
        exact bt_Mod_share_151 E hret o σ v3 o17 h w (lv_sub hl [] rfl)
      ·
        replace h := ifF (fun h9 => c (lgc_ge.mpr h9)) h
        refine lv_lload E.x E.b d_Mod_share_143 (lv_at hl 0 rfl) ?_
        refine lv_lneg E.x E.b d_Mod_share_145 ?_
        refine lv_goto (tgt := 151) E.x E.b d_Mod_share_146 (by decide) ?_
        exact bt_Mod_share_151 E hret o σ v3 (-o17) h w (lv_sub hl [] rfl)
    ·
      replace h := ifF c h
      refine lv_aload_n E.x E.b d_Mod_share_103 rfl (lv_at hl 0 rfl) ?_
      refine gM_Mod_shares E w k1783 d_Mod_share_104 ?_
      refine lv_iload E.x E.b d_Mod_share_107 (lv_at hl 3 rfl) ?_
      refine lv_aload_n E.x E.b d_Mod_share_109 rfl (lv_at hl 0 rfl) ?_
      refine gM_Mod_shares E w k1783 d_Mod_share_110 ?_
      refine lv_iload E.x E.b d_Mod_share_113 (lv_at hl 3 rfl) ?_
      obtain ⟨c18, h⟩ := ck_some h
      refine lalM_0 E w c18 d_Mod_share_115 ?_
      refine lv_iload E.x E.b d_Mod_share_116 (lv_at hl 2 rfl) ?_
      refine lv_lshr (v := lshr (σ.2.2.2.1 0 v6.toNatClampNeg) v5) E.x E.b d_Mod_share_118 rfl ?_
      obtain ⟨c19, h⟩ := ck_some h
      obtain ⟨σ20, e_σ20, h⟩ := lt_some h
      refine lasM_0 E w c19 e_σ20 d_Mod_share_119 (fun H locs w => ?_)
      obtain ⟨y21, e_y21, h⟩ := lt_some h
      refine lv_iinc (v := y21) (lv' := [(6, .int y21), (0, .ref (ad 59)), (3, .long v3), (5, .int v5)]) E.x E.b d_Mod_share_120 hl (k := 3) rfl (e_y21) (by decide) rfl (fun ls hl => ?_)
      refine lv_goto (tgt := 97) E.x E.b d_Mod_share_123 (by decide) ?_
      exact hr_97 σ20 v3 v5 y21 _ _ _ h w (lv_sub hl [1, 2, 3, 0] rfl)
def L_Mod_share_65 (rc_8 : Sg → Int32 → Int32 → Int64 → Int32 → Int32 → Option (Sg × Int32)) : Nat → Sg → Int32 → Int32 → Int64 → Int32 → Int32 → Option (Sg × Int32)
  | 0, _, _, _, _, _, _ => none
  | n + 1, σ, v1, v2, v3, v5, v6 => ck (inb v6 3) (if (lshr (σ.2.2.2.1 0 v6.toNatClampNeg) v5) < 536870912 then (lt (v6 + 1) (fun y23 => rc_8 σ v1 v2 v3 v5 y23)) else (lt (v5 + 1) (fun y24 => L_Mod_share_65 rc_8 n σ v1 v2 v3 y24 v6)))
set_option maxRecDepth 10000 in
set_option maxHeartbeats 4000000 in
theorem lt_Mod_share_65 {p : Program} {l : Launch} {e : Env} {R : Room} {s : State} {m : MethodId} {args : Array Value} {below : List Frame} {meth : Method} {c : Code} {D : va_G} {τ : ClassId × ClassId × ClassId} {B : Nat} {A : Nat → Prop} {ad : Nat → Nat} (E : Cx p R s m args meth c prog_14_method_25_code 9 "DrawingMachineModel" 4 D τ B A) (hret : meth.sig.returnType = (some .int)) (o : Sg × Int32) (rc_8 : Sg → Int32 → Int32 → Int64 → Int32 → Int32 → Option (Sg × Int32)) (hr_8 : ∀ (σ : Sg) (v1 : Int32) (v2 : Int32) (v3 : Int64) (v5 : Int32) (v6 : Int32) (H : Heap) (locs : List Loc) (ls : Array Slot), rc_8 σ v1 v2 v3 v5 v6 = some o → Wd s D A (wdM τ σ ad) H locs → lv_has ls 9 [(0, .ref (ad 59)), (1, .int v1), (2, .int v2), (3, .long v3), (5, .int v5), (6, .int v6)] → W p l e R s m args below meth c H locs 0 0 (QI below args s A D τ (wdM τ o.1 ad) o.2) (F0 m 8 ls [])) : ∀ (n : Nat) (σ : Sg) (v1 : Int32) (v2 : Int32) (v3 : Int64) (v5 : Int32) (v6 : Int32) (H : Heap) (locs : List Loc) (ls : Array Slot), L_Mod_share_65 rc_8 n σ v1 v2 v3 v5 v6 = some o → Wd s D A (wdM τ σ ad) H locs → lv_has ls 9 [(0, .ref (ad 59)), (1, .int v1), (2, .int v2), (3, .long v3), (5, .int v5), (6, .int v6)] → W p l e R s m args below meth c H locs 0 0 (QI below args s A D τ (wdM τ o.1 ad) o.2) (F0 m 65 ls []) := by
  intro n
  induction n with
  | zero =>
    intro σ v1 v2 v3 v5 v6 H locs ls h w hl
    cases h
  | succ n hr_65 =>
    intro σ v1 v2 v3 v5 v6 H locs ls h w hl
    refine lv_aload_n E.x E.b d_Mod_share_65 rfl (lv_at hl 0 rfl) ?_
    refine gM_Mod_shares E w k1783 d_Mod_share_66 ?_
    refine lv_iload E.x E.b d_Mod_share_69 (lv_at hl 5 rfl) ?_
    obtain ⟨c22, h⟩ := ck_some h
    refine lalM_0 E w c22 d_Mod_share_71 ?_
    refine lv_iload E.x E.b d_Mod_share_72 (lv_at hl 4 rfl) ?_
    refine lv_lshr (v := lshr (σ.2.2.2.1 0 v6.toNatClampNeg) v5) E.x E.b d_Mod_share_74 rfl ?_
    refine lv_ldc2 (v := 536870912) E.x E.b E.o (E.w _ k2429) d_Mod_share_75 ?_
    refine W.lcmp E.x E.b d_Mod_share_78 ?_
    refine lv_if_lt (tgt := 88) E.x E.b d_Mod_share_79 (by decide) (fun c => ?_) (fun c => ?_)
    ·
      replace h := ifT (lgc_lt.mp c) h
      obtain ⟨y23, e_y23, h⟩ := lt_some h
      refine lv_iinc (v := y23) (lv' := [(6, .int y23), (0, .ref (ad 59)), (1, .int v1), (2, .int v2), (3, .long v3), (5, .int v5)]) E.x E.b d_Mod_share_88 hl (k := 5) rfl (e_y23) (by decide) rfl (fun ls hl => ?_)
      refine lv_goto (tgt := 8) E.x E.b d_Mod_share_91 (by decide) ?_
      exact hr_8 σ v1 v2 v3 v5 y23 _ _ _ h w (lv_sub hl [1, 2, 3, 4, 5, 0] rfl)
    ·
      replace h := ifF (fun h9 => c (lgc_lt.mpr h9)) h
      obtain ⟨y24, e_y24, h⟩ := lt_some h
      refine lv_iinc (v := y24) (lv' := [(5, .int y24), (0, .ref (ad 59)), (1, .int v1), (2, .int v2), (3, .long v3), (6, .int v6)]) E.x E.b d_Mod_share_82 hl (k := 4) rfl (e_y24) (by decide) rfl (fun ls hl => ?_)
      refine lv_goto (tgt := 65) E.x E.b d_Mod_share_85 (by decide) ?_
      exact hr_65 σ v1 v2 v3 y24 v6 _ _ _ h w (lv_sub hl [1, 2, 3, 4, 0, 5] rfl)
def L_Mod_share_8 : Nat → Sg → Int32 → Int32 → Int64 → Int32 → Int32 → Option (Sg × Int32)
  | 0, _, _, _, _, _, _ => none
  | n + 1, σ, v1, v2, v3, v5, v6 => if 3 ≤ v6 then (L_Mod_share_97 100000 σ v3 v5 0) else (bd (F_Erm_weightOf σ v6 v1 v2) (fun o25 => ck (inb v6 3) (lt (v3 + (o25 * ((σ.2.2.1 42 v6.toNatClampNeg).toInt64))) (fun y27 => ck (inb v6 3) (ck (inb v6 3) (lt (sB σ 0 (vp_updL (σ.2.2.2.1 0) v6.toNatClampNeg (o25 * ((σ.2.2.1 43 v6.toNatClampNeg).toInt64)))) (fun σ30 => L_Mod_share_65 (L_Mod_share_8 n) 100000 σ30 v1 v2 y27 v5 v6)))))))
set_option maxRecDepth 10000 in
set_option maxHeartbeats 4000000 in
theorem lt_Mod_share_8 {p : Program} {l : Launch} {e : Env} {R : Room} {s : State} {m : MethodId} {args : Array Value} {below : List Frame} {meth : Method} {c : Code} {D : va_G} {τ : ClassId × ClassId × ClassId} {B : Nat} {A : Nat → Prop} {ad : Nat → Nat} (E : Cx p R s m args meth c prog_14_method_25_code 9 "DrawingMachineModel" 4 D τ B A) (hret : meth.sig.returnType = (some .int)) (o : Sg × Int32) : ∀ (n : Nat) (σ : Sg) (v1 : Int32) (v2 : Int32) (v3 : Int64) (v5 : Int32) (v6 : Int32) (H : Heap) (locs : List Loc) (ls : Array Slot), L_Mod_share_8 n σ v1 v2 v3 v5 v6 = some o → Wd s D A (wdM τ σ ad) H locs → lv_has ls 9 [(0, .ref (ad 59)), (1, .int v1), (2, .int v2), (3, .long v3), (5, .int v5), (6, .int v6)] → W p l e R s m args below meth c H locs 0 0 (QI below args s A D τ (wdM τ o.1 ad) o.2) (F0 m 8 ls []) := by
  intro n
  induction n with
  | zero =>
    intro σ v1 v2 v3 v5 v6 H locs ls h w hl
    cases h
  | succ n hr_8 =>
    intro σ v1 v2 v3 v5 v6 H locs ls h w hl
    refine lv_iload E.x E.b d_Mod_share_8 (lv_at hl 5 rfl) ?_
    refine lv_iconst (v := 3) E.x E.b d_Mod_share_10 (by decide) ?_
    refine lv_icmp_ge (tgt := 94) E.x E.b d_Mod_share_11 (by decide) (fun c => ?_) (fun c => ?_)
    ·
      replace h := ifT c h
      refine lv_iconst (v := 0) E.x E.b d_Mod_share_94 (by decide) ?_
      refine lv_istore (lv' := [(6, .int 0), (0, .ref (ad 59)), (1, .int v1), (2, .int v2), (3, .long v3), (5, .int v5)]) E.x E.b d_Mod_share_95 hl (by decide) rfl (fun ls hl => ?_)
      exact lt_Mod_share_97 E hret o 100000 σ v3 v5 0 _ _ _ h w (lv_sub hl [1, 4, 5, 0] rfl)
    ·
      replace h := ifF c h
      refine lv_aload_n E.x E.b d_Mod_share_14 rfl (lv_at hl 0 rfl) ?_
      refine gM_Mod_raster E w k1773 d_Mod_share_15 ?_
      refine lv_iload E.x E.b d_Mod_share_18 (lv_at hl 5 rfl) ?_
      refine lv_iload_n E.x E.b d_Mod_share_20 rfl (lv_at hl 1 rfl) ?_
      refine lv_iload_n E.x E.b d_Mod_share_21 rfl (lv_at hl 2 rfl) ?_
      obtain ⟨o25, h_o25, h⟩ := bd_some h
      refine clVN_Erm_weightOf E w (x0 := v6) (x1 := v1) (x2 := v2) h_o25 n2428 (by decide) hl.1 (Nat.le_of_ble_eq_true rfl) d_Mod_share_22 (fun H locs w => ?_)
      refine lv_lstore (lv' := [(7, .long o25), (0, .ref (ad 59)), (1, .int v1), (2, .int v2), (3, .long v3), (5, .int v5), (6, .int v6)]) E.x E.b d_Mod_share_25 hl (by decide) rfl (fun ls hl => ?_)
      refine lv_lload_n E.x E.b d_Mod_share_27 rfl (lv_at hl 4 rfl) ?_
      refine lv_lload E.x E.b d_Mod_share_28 (lv_at hl 0 rfl) ?_
      refine lv_aload_n E.x E.b d_Mod_share_30 rfl (lv_at hl 1 rfl) ?_
      refine gM_Mod_raster E w k1773 d_Mod_share_31 ?_
      refine gNM_Erm_depths E w n1673 d_Mod_share_34 ?_
      refine lv_iload E.x E.b d_Mod_share_37 (lv_at hl 6 rfl) ?_
      obtain ⟨c26, h⟩ := ck_some h
      refine ialM E w (k := 42) (by decide) c26 d_Mod_share_39 ?_
      refine lv_i2l (v := (σ.2.2.1 42 v6.toNatClampNeg).toInt64) E.x E.b d_Mod_share_40 rfl ?_
      refine lv_lmul E.x E.b d_Mod_share_41 ?_
      refine lv_ladd E.x E.b d_Mod_share_42 ?_
      obtain ⟨y27, e_y27, h⟩ := lt_some h
      refine wl_e (v := y27) e_y27 ?_
      refine lv_lstore_n (lv' := [(3, .long y27), (7, .long o25), (0, .ref (ad 59)), (1, .int v1), (2, .int v2), (5, .int v5), (6, .int v6)]) E.x E.b d_Mod_share_43 rfl hl (by decide) rfl (fun ls hl => ?_)
      refine lv_aload_n E.x E.b d_Mod_share_44 rfl (lv_at hl 2 rfl) ?_
      refine gM_Mod_shares E w k1783 d_Mod_share_45 ?_
      refine lv_iload E.x E.b d_Mod_share_48 (lv_at hl 6 rfl) ?_
      refine lv_lload E.x E.b d_Mod_share_50 (lv_at hl 1 rfl) ?_
      refine lv_aload_n E.x E.b d_Mod_share_52 rfl (lv_at hl 2 rfl) ?_
      refine gM_Mod_raster E w k1773 d_Mod_share_53 ?_
      refine gNM_Erm_nearness E w n1675 d_Mod_share_56 ?_
      refine lv_iload E.x E.b d_Mod_share_59 (lv_at hl 6 rfl) ?_
      obtain ⟨c28, h⟩ := ck_some h
      refine ialM E w (k := 43) (by decide) c28 d_Mod_share_61 ?_
      refine lv_i2l (v := (σ.2.2.1 43 v6.toNatClampNeg).toInt64) E.x E.b d_Mod_share_62 rfl ?_
      refine lv_lmul E.x E.b d_Mod_share_63 ?_
      obtain ⟨c29, h⟩ := ck_some h
      obtain ⟨σ30, e_σ30, h⟩ := lt_some h
      refine lasM_0 E w c29 e_σ30 d_Mod_share_64 (fun H locs w => ?_)
      exact lt_Mod_share_65 E hret o (L_Mod_share_8 n) hr_8 100000 σ30 v1 v2 y27 v5 v6 _ _ _ h w (lv_sub hl [2, 3, 4, 0, 5, 6] rfl)
def F_Mod_share (σ : Sg) (x0 : Int32) (x1 : Int32) : Option (Sg × Int32) := L_Mod_share_8 100000 σ x0 x1 0 0 0
set_option maxRecDepth 10000 in
set_option maxHeartbeats 4000000 in
theorem c_Mod_share (l : Launch) (D : va_G) (τ : ClassId × ClassId × ClassId) (B : Nat) (σ : Sg) (ad : Nat → Nat) (x0 : Int32) (x1 : Int32) (o : Sg × Int32) (h : F_Mod_share σ x0 x1 = some o) : MI l y_Mod_share (Cond.code y_Mod_share prog_14_method_25_code 9 (some .int)) 4 D τ B [.ref (ad 59), .int x0, .int x1] (wdM τ σ ad) (wdM τ o.1 ad) o.2 := by
  refine en_i (by decide) (Nat.le_of_ble_eq_true rfl) ?_
  intro p e R s m args below meth c H locs ls A E hret w hl
  have E : Cx p R s m args meth c prog_14_method_25_code 9 "DrawingMachineModel" 4 D τ B A := E
  have hl : lv_has ls 9 [(0, .ref (ad 59)), (1, .int x0), (2, .int x1)] := hl
  refine lv_lconst (v := 0) E.x E.b d_Mod_share_0 (by decide) ?_
  refine lv_lstore_n (lv' := [(3, .long 0), (0, .ref (ad 59)), (1, .int x0), (2, .int x1)]) E.x E.b d_Mod_share_1 rfl hl (by decide) rfl (fun ls hl => ?_)
  refine lv_iconst (v := 0) E.x E.b d_Mod_share_2 (by decide) ?_
  refine lv_istore (lv' := [(5, .int 0), (3, .long 0), (0, .ref (ad 59)), (1, .int x0), (2, .int x1)]) E.x E.b d_Mod_share_3 hl (by decide) rfl (fun ls hl => ?_)
  refine lv_iconst (v := 0) E.x E.b d_Mod_share_5 (by decide) ?_
  refine lv_istore (lv' := [(6, .int 0), (5, .int 0), (3, .long 0), (0, .ref (ad 59)), (1, .int x0), (2, .int x1)]) E.x E.b d_Mod_share_6 hl (by decide) rfl (fun ls hl => ?_)
  exact lt_Mod_share_8 E hret o 100000 σ x0 x1 0 0 0 _ _ _ h w (lv_sub hl [3, 4, 5, 2, 1, 0] rfl)
theorem clV_Mod_share {p : Program} {l : Launch} {e : Env} {R : Room} {s : State} {m : MethodId} {args : Array Value} {below : List Frame} {meth : Method} {c : Code} {H : Heap} {locs : List Loc} {Q : State → Prop} {cc : ByteArray} {nL pc lev : Nat} {own : String} {D : va_G} {τ : ClassId × ClassId × ClassId} {B : Nat} {A : Nat → Prop} {σ : Sg} {ad : Nat → Nat} {ls : Array Slot} {rest : List Value} (E : Cx p R s m args meth c cc nL own lev D τ B A) (w : Wd s D A (wdM τ σ ad) H locs) {x0 : Int32} {x1 : Int32} {o : Sg × Int32} (h : F_Mod_share σ x0 x1 = some o) {index : Nat} (hlk : Cond.methodLink own index y_Mod_share ∈ tw) (hlev : 4 < lev) (hsz : ls.size = nL) (hr : (rest.map fun v => v.category).sum ≤ 8) (hd : decode cc pc = .ok (.invokevirtual index, 3)) (kk : ∀ (H1 : Heap) (locs1 : List Loc), Wd s D A (wdM τ o.1 ad) H1 locs1 → W p l e R s m args below meth c H1 locs1 0 0 Q (F0 m (pc + 3) ls (.int o.2 :: rest))) : W p l e R s m args below meth c H locs 0 0 Q (F0 m pc ls (.int x1 :: .int x0 :: .ref (ad 59) :: rest)) :=
  cr_i w E.C (va_runV (As := [.int x0, .int x1]) (rest := rest) E.fix (c_Mod_share l D τ B σ ad x0 x1 o h H.size) (cwV 2 E.w (tw_pre (tw_good k2427) (l := [_, _, _, _]) (List.forall_mem_cons.mpr ⟨hlk, List.forall_mem_cons.mpr ⟨k2426, List.forall_mem_cons.mpr ⟨ks108, List.forall_mem_cons.mpr ⟨k14, fun _ h => absurd h List.not_mem_nil⟩⟩⟩⟩)) rfl rfl rfl (by decide +kernel) (E.rm hlev (by decide))) (wd_preV w E.C [.int x0, .int x1] rcM_Mod rfl) rfl rfl hsz rfl (lv_room hr) hd ⟨Nat.zero_le _, Nat.zero_le _⟩) kk
