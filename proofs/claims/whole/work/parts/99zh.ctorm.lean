/-! ===== the constructor of the model (written by gen4.py) ===== -/
abbrev M_R_init : MR := (⟨"BracketRoomModel", "<init>", "()V"⟩, prog_14_method_1_code, 2, none)
theorem ci_R_init : CI M_R_init 0 := ⟨tk6 195 rfl rfl, rfl, tk6 194 rfl rfl, tk1 15 rfl rfl, by decide, rfl, by decide, by decide, by decide +kernel⟩
theorem dR_init_0 : decode prog_14_method_1_code 0 = .ok (.aload_n 0, 1) := by decide +kernel
theorem dR_init_1 : decode prog_14_method_1_code 1 = .ok (.invokespecial 1, 3) := by decide +kernel
theorem dR_init_4 : decode prog_14_method_1_code 4 = .ok (.aload_n 0, 1) := by decide +kernel
theorem dR_init_5 : decode prog_14_method_1_code 5 = .ok (.lconst 1, 1) := by decide +kernel
theorem dR_init_6 : decode prog_14_method_1_code 6 = .ok (.putfield 7, 3) := by decide +kernel
theorem dR_init_9 : decode prog_14_method_1_code 9 = .ok (.aload_n 0, 1) := by decide +kernel
theorem dR_init_10 : decode prog_14_method_1_code 10 = .ok (.iconst 4, 1) := by decide +kernel
theorem dR_init_11 : decode prog_14_method_1_code 11 = .ok (.newarray .int, 2) := by decide +kernel
theorem dR_init_13 : decode prog_14_method_1_code 13 = .ok (.putfield 13, 3) := by decide +kernel
theorem dR_init_16 : decode prog_14_method_1_code 16 = .ok (.aload_n 0, 1) := by decide +kernel
theorem dR_init_17 : decode prog_14_method_1_code 17 = .ok (.iconst 4, 1) := by decide +kernel
theorem dR_init_18 : decode prog_14_method_1_code 18 = .ok (.newarray .int, 2) := by decide +kernel
theorem dR_init_20 : decode prog_14_method_1_code 20 = .ok (.putfield 17, 3) := by decide +kernel
theorem dR_init_23 : decode prog_14_method_1_code 23 = .ok (.aload_n 0, 1) := by decide +kernel
theorem dR_init_24 : decode prog_14_method_1_code 24 = .ok (.sipush 240, 3) := by decide +kernel
theorem dR_init_27 : decode prog_14_method_1_code 27 = .ok (.newarray .long, 2) := by decide +kernel
theorem dR_init_29 : decode prog_14_method_1_code 29 = .ok (.putfield 20, 3) := by decide +kernel
theorem dR_init_32 : decode prog_14_method_1_code 32 = .ok (.aload_n 0, 1) := by decide +kernel
theorem dR_init_33 : decode prog_14_method_1_code 33 = .ok (.sipush 600, 3) := by decide +kernel
theorem dR_init_36 : decode prog_14_method_1_code 36 = .ok (.newarray .byte, 2) := by decide +kernel
theorem dR_init_38 : decode prog_14_method_1_code 38 = .ok (.putfield 24, 3) := by decide +kernel
theorem dR_init_41 : decode prog_14_method_1_code 41 = .ok (.aload_n 0, 1) := by decide +kernel
theorem dR_init_42 : decode prog_14_method_1_code 42 = .ok (.iconst (-1), 1) := by decide +kernel
theorem dR_init_43 : decode prog_14_method_1_code 43 = .ok (.putfield 28, 3) := by decide +kernel
theorem dR_init_46 : decode prog_14_method_1_code 46 = .ok (.aload_n 0, 1) := by decide +kernel
theorem dR_init_47 : decode prog_14_method_1_code 47 = .ok (.iconst (-1), 1) := by decide +kernel
theorem dR_init_48 : decode prog_14_method_1_code 48 = .ok (.putfield 32, 3) := by decide +kernel
theorem dR_init_51 : decode prog_14_method_1_code 51 = .ok (.aload_n 0, 1) := by decide +kernel
theorem dR_init_52 : decode prog_14_method_1_code 52 = .ok (.sipush 3440, 3) := by decide +kernel
theorem dR_init_55 : decode prog_14_method_1_code 55 = .ok (.newarray .int, 2) := by decide +kernel
theorem dR_init_57 : decode prog_14_method_1_code 57 = .ok (.putfield 35, 3) := by decide +kernel
theorem dR_init_60 : decode prog_14_method_1_code 60 = .ok (.aload_n 0, 1) := by decide +kernel
theorem dR_init_61 : decode prog_14_method_1_code 61 = .ok (.bipush 127, 2) := by decide +kernel
theorem dR_init_63 : decode prog_14_method_1_code 63 = .ok (.newarray .int, 2) := by decide +kernel
theorem dR_init_65 : decode prog_14_method_1_code 65 = .ok (.putfield 38, 3) := by decide +kernel
theorem dR_init_68 : decode prog_14_method_1_code 68 = .ok (.aload_n 0, 1) := by decide +kernel
theorem dR_init_69 : decode prog_14_method_1_code 69 = .ok (.bipush 127, 2) := by decide +kernel
theorem dR_init_71 : decode prog_14_method_1_code 71 = .ok (.newarray .int, 2) := by decide +kernel
theorem dR_init_73 : decode prog_14_method_1_code 73 = .ok (.putfield 41, 3) := by decide +kernel
theorem dR_init_76 : decode prog_14_method_1_code 76 = .ok (.aload_n 0, 1) := by decide +kernel
theorem dR_init_77 : decode prog_14_method_1_code 77 = .ok (.sipush 300, 3) := by decide +kernel
theorem dR_init_80 : decode prog_14_method_1_code 80 = .ok (.newarray .int, 2) := by decide +kernel
theorem dR_init_82 : decode prog_14_method_1_code 82 = .ok (.putfield 44, 3) := by decide +kernel
theorem dR_init_85 : decode prog_14_method_1_code 85 = .ok (.aload_n 0, 1) := by decide +kernel
theorem dR_init_86 : decode prog_14_method_1_code 86 = .ok (.bipush 25, 2) := by decide +kernel
theorem dR_init_88 : decode prog_14_method_1_code 88 = .ok (.newarray .int, 2) := by decide +kernel
theorem dR_init_90 : decode prog_14_method_1_code 90 = .ok (.putfield 47, 3) := by decide +kernel
theorem dR_init_93 : decode prog_14_method_1_code 93 = .ok (.aload_n 0, 1) := by decide +kernel
theorem dR_init_94 : decode prog_14_method_1_code 94 = .ok (.bipush 25, 2) := by decide +kernel
theorem dR_init_96 : decode prog_14_method_1_code 96 = .ok (.newarray .int, 2) := by decide +kernel
theorem dR_init_98 : decode prog_14_method_1_code 98 = .ok (.putfield 50, 3) := by decide +kernel
theorem dR_init_101 : decode prog_14_method_1_code 101 = .ok (.aload_n 0, 1) := by decide +kernel
theorem dR_init_102 : decode prog_14_method_1_code 102 = .ok (.bipush 25, 2) := by decide +kernel
theorem dR_init_104 : decode prog_14_method_1_code 104 = .ok (.newarray .int, 2) := by decide +kernel
theorem dR_init_106 : decode prog_14_method_1_code 106 = .ok (.putfield 53, 3) := by decide +kernel
theorem dR_init_109 : decode prog_14_method_1_code 109 = .ok (.aload_n 0, 1) := by decide +kernel
theorem dR_init_110 : decode prog_14_method_1_code 110 = .ok (.bipush 25, 2) := by decide +kernel
theorem dR_init_112 : decode prog_14_method_1_code 112 = .ok (.newarray .int, 2) := by decide +kernel
theorem dR_init_114 : decode prog_14_method_1_code 114 = .ok (.putfield 56, 3) := by decide +kernel
theorem dR_init_117 : decode prog_14_method_1_code 117 = .ok (.aload_n 0, 1) := by decide +kernel
theorem dR_init_118 : decode prog_14_method_1_code 118 = .ok (.bipush 25, 2) := by decide +kernel
theorem dR_init_120 : decode prog_14_method_1_code 120 = .ok (.newarray .int, 2) := by decide +kernel
theorem dR_init_122 : decode prog_14_method_1_code 122 = .ok (.putfield 59, 3) := by decide +kernel
theorem dR_init_125 : decode prog_14_method_1_code 125 = .ok (.aload_n 0, 1) := by decide +kernel
theorem dR_init_126 : decode prog_14_method_1_code 126 = .ok (.iconst 5, 1) := by decide +kernel
theorem dR_init_127 : decode prog_14_method_1_code 127 = .ok (.newarray .int, 2) := by decide +kernel
theorem dR_init_129 : decode prog_14_method_1_code 129 = .ok (.putfield 62, 3) := by decide +kernel
theorem dR_init_132 : decode prog_14_method_1_code 132 = .ok (.aload_n 0, 1) := by decide +kernel
theorem dR_init_133 : decode prog_14_method_1_code 133 = .ok (.iconst 5, 1) := by decide +kernel
theorem dR_init_134 : decode prog_14_method_1_code 134 = .ok (.newarray .int, 2) := by decide +kernel
theorem dR_init_136 : decode prog_14_method_1_code 136 = .ok (.putfield 65, 3) := by decide +kernel
theorem dR_init_139 : decode prog_14_method_1_code 139 = .ok (.aload_n 0, 1) := by decide +kernel
theorem dR_init_140 : decode prog_14_method_1_code 140 = .ok (.iconst 5, 1) := by decide +kernel
theorem dR_init_141 : decode prog_14_method_1_code 141 = .ok (.newarray .int, 2) := by decide +kernel
theorem dR_init_143 : decode prog_14_method_1_code 143 = .ok (.putfield 68, 3) := by decide +kernel
theorem dR_init_146 : decode prog_14_method_1_code 146 = .ok (.aload_n 0, 1) := by decide +kernel
theorem dR_init_147 : decode prog_14_method_1_code 147 = .ok (.iconst 5, 1) := by decide +kernel
theorem dR_init_148 : decode prog_14_method_1_code 148 = .ok (.newarray .int, 2) := by decide +kernel
theorem dR_init_150 : decode prog_14_method_1_code 150 = .ok (.putfield 71, 3) := by decide +kernel
theorem dR_init_153 : decode prog_14_method_1_code 153 = .ok (.aload_n 0, 1) := by decide +kernel
theorem dR_init_154 : decode prog_14_method_1_code 154 = .ok (.sipush 1800, 3) := by decide +kernel
theorem dR_init_157 : decode prog_14_method_1_code 157 = .ok (.newarray .int, 2) := by decide +kernel
theorem dR_init_159 : decode prog_14_method_1_code 159 = .ok (.putfield 74, 3) := by decide +kernel
theorem dR_init_162 : decode prog_14_method_1_code 162 = .ok (.aload_n 0, 1) := by decide +kernel
theorem dR_init_163 : decode prog_14_method_1_code 163 = .ok (.bipush 30, 2) := by decide +kernel
theorem dR_init_165 : decode prog_14_method_1_code 165 = .ok (.newarray .int, 2) := by decide +kernel
theorem dR_init_167 : decode prog_14_method_1_code 167 = .ok (.putfield 77, 3) := by decide +kernel
theorem dR_init_170 : decode prog_14_method_1_code 170 = .ok (.aload_n 0, 1) := by decide +kernel
theorem dR_init_171 : decode prog_14_method_1_code 171 = .ok (.bipush 25, 2) := by decide +kernel
theorem dR_init_173 : decode prog_14_method_1_code 173 = .ok (.newarray .int, 2) := by decide +kernel
theorem dR_init_175 : decode prog_14_method_1_code 175 = .ok (.putfield 80, 3) := by decide +kernel
theorem dR_init_178 : decode prog_14_method_1_code 178 = .ok (.aload_n 0, 1) := by decide +kernel
theorem dR_init_179 : decode prog_14_method_1_code 179 = .ok (.bipush 125, 2) := by decide +kernel
theorem dR_init_181 : decode prog_14_method_1_code 181 = .ok (.newarray .int, 2) := by decide +kernel
theorem dR_init_183 : decode prog_14_method_1_code 183 = .ok (.putfield 83, 3) := by decide +kernel
theorem dR_init_186 : decode prog_14_method_1_code 186 = .ok (.aload_n 0, 1) := by decide +kernel
theorem dR_init_187 : decode prog_14_method_1_code 187 = .ok (.bipush 6, 2) := by decide +kernel
theorem dR_init_189 : decode prog_14_method_1_code 189 = .ok (.newarray .int, 2) := by decide +kernel
theorem dR_init_191 : decode prog_14_method_1_code 191 = .ok (.putfield 86, 3) := by decide +kernel
theorem dR_init_194 : decode prog_14_method_1_code 194 = .ok (.aload_n 0, 1) := by decide +kernel
theorem dR_init_195 : decode prog_14_method_1_code 195 = .ok (.iconst (-1), 1) := by decide +kernel
theorem dR_init_196 : decode prog_14_method_1_code 196 = .ok (.putfield 89, 3) := by decide +kernel
theorem dR_init_199 : decode prog_14_method_1_code 199 = .ok (.aload_n 0, 1) := by decide +kernel
theorem dR_init_200 : decode prog_14_method_1_code 200 = .ok (.iconst 2, 1) := by decide +kernel
theorem dR_init_201 : decode prog_14_method_1_code 201 = .ok (.newarray .int, 2) := by decide +kernel
theorem dR_init_203 : decode prog_14_method_1_code 203 = .ok (.putfield 92, 3) := by decide +kernel
theorem dR_init_206 : decode prog_14_method_1_code 206 = .ok (.aload_n 0, 1) := by decide +kernel
theorem dR_init_207 : decode prog_14_method_1_code 207 = .ok (.iconst 5, 1) := by decide +kernel
theorem dR_init_208 : decode prog_14_method_1_code 208 = .ok (.newarray .int, 2) := by decide +kernel
theorem dR_init_210 : decode prog_14_method_1_code 210 = .ok (.putfield 95, 3) := by decide +kernel
theorem dR_init_213 : decode prog_14_method_1_code 213 = .ok (.aload_n 0, 1) := by decide +kernel
theorem dR_init_214 : decode prog_14_method_1_code 214 = .ok (.iconst 5, 1) := by decide +kernel
theorem dR_init_215 : decode prog_14_method_1_code 215 = .ok (.newarray .int, 2) := by decide +kernel
theorem dR_init_217 : decode prog_14_method_1_code 217 = .ok (.putfield 98, 3) := by decide +kernel
theorem dR_init_220 : decode prog_14_method_1_code 220 = .ok (.aload_n 0, 1) := by decide +kernel
theorem dR_init_221 : decode prog_14_method_1_code 221 = .ok (.iconst 5, 1) := by decide +kernel
theorem dR_init_222 : decode prog_14_method_1_code 222 = .ok (.newarray .int, 2) := by decide +kernel
theorem dR_init_224 : decode prog_14_method_1_code 224 = .ok (.putfield 101, 3) := by decide +kernel
theorem dR_init_227 : decode prog_14_method_1_code 227 = .ok (.aload_n 0, 1) := by decide +kernel
theorem dR_init_228 : decode prog_14_method_1_code 228 = .ok (.bipush 25, 2) := by decide +kernel
theorem dR_init_230 : decode prog_14_method_1_code 230 = .ok (.newarray .int, 2) := by decide +kernel
theorem dR_init_232 : decode prog_14_method_1_code 232 = .ok (.putfield 104, 3) := by decide +kernel
theorem dR_init_235 : decode prog_14_method_1_code 235 = .ok (.aload_n 0, 1) := by decide +kernel
theorem dR_init_236 : decode prog_14_method_1_code 236 = .ok (.bipush 25, 2) := by decide +kernel
theorem dR_init_238 : decode prog_14_method_1_code 238 = .ok (.newarray .int, 2) := by decide +kernel
theorem dR_init_240 : decode prog_14_method_1_code 240 = .ok (.putfield 107, 3) := by decide +kernel
theorem dR_init_243 : decode prog_14_method_1_code 243 = .ok (.aload_n 0, 1) := by decide +kernel
theorem dR_init_244 : decode prog_14_method_1_code 244 = .ok (.bipush 25, 2) := by decide +kernel
theorem dR_init_246 : decode prog_14_method_1_code 246 = .ok (.newarray .int, 2) := by decide +kernel
theorem dR_init_248 : decode prog_14_method_1_code 248 = .ok (.putfield 110, 3) := by decide +kernel
theorem dR_init_251 : decode prog_14_method_1_code 251 = .ok (.aload_n 0, 1) := by decide +kernel
theorem dR_init_252 : decode prog_14_method_1_code 252 = .ok (.bipush 25, 2) := by decide +kernel
theorem dR_init_254 : decode prog_14_method_1_code 254 = .ok (.newarray .int, 2) := by decide +kernel
theorem dR_init_256 : decode prog_14_method_1_code 256 = .ok (.putfield 113, 3) := by decide +kernel
theorem dR_init_259 : decode prog_14_method_1_code 259 = .ok (.aload_n 0, 1) := by decide +kernel
theorem dR_init_260 : decode prog_14_method_1_code 260 = .ok (.bipush 25, 2) := by decide +kernel
theorem dR_init_262 : decode prog_14_method_1_code 262 = .ok (.newarray .int, 2) := by decide +kernel
theorem dR_init_264 : decode prog_14_method_1_code 264 = .ok (.putfield 116, 3) := by decide +kernel
theorem dR_init_267 : decode prog_14_method_1_code 267 = .ok (.aload_n 0, 1) := by decide +kernel
theorem dR_init_268 : decode prog_14_method_1_code 268 = .ok (.bipush 25, 2) := by decide +kernel
theorem dR_init_270 : decode prog_14_method_1_code 270 = .ok (.newarray .int, 2) := by decide +kernel
theorem dR_init_272 : decode prog_14_method_1_code 272 = .ok (.putfield 119, 3) := by decide +kernel
theorem dR_init_275 : decode prog_14_method_1_code 275 = .ok (.aload_n 0, 1) := by decide +kernel
theorem dR_init_276 : decode prog_14_method_1_code 276 = .ok (.bipush 25, 2) := by decide +kernel
theorem dR_init_278 : decode prog_14_method_1_code 278 = .ok (.newarray .int, 2) := by decide +kernel
theorem dR_init_280 : decode prog_14_method_1_code 280 = .ok (.putfield 122, 3) := by decide +kernel
theorem dR_init_283 : decode prog_14_method_1_code 283 = .ok (.aload_n 0, 1) := by decide +kernel
theorem dR_init_284 : decode prog_14_method_1_code 284 = .ok (.sipush 512, 3) := by decide +kernel
theorem dR_init_287 : decode prog_14_method_1_code 287 = .ok (.newarray .boolean, 2) := by decide +kernel
theorem dR_init_289 : decode prog_14_method_1_code 289 = .ok (.putfield 125, 3) := by decide +kernel
theorem dR_init_292 : decode prog_14_method_1_code 292 = .ok (.aload_n 0, 1) := by decide +kernel
theorem dR_init_293 : decode prog_14_method_1_code 293 = .ok (.bipush 127, 2) := by decide +kernel
theorem dR_init_295 : decode prog_14_method_1_code 295 = .ok (.newarray .int, 2) := by decide +kernel
theorem dR_init_297 : decode prog_14_method_1_code 297 = .ok (.putfield 129, 3) := by decide +kernel
theorem dR_init_300 : decode prog_14_method_1_code 300 = .ok (.iconst 0, 1) := by decide +kernel
theorem dR_init_301 : decode prog_14_method_1_code 301 = .ok (.istore_n 1, 1) := by decide +kernel
theorem dR_init_302 : decode prog_14_method_1_code 302 = .ok (.iload_n 1, 1) := by decide +kernel
theorem dR_init_303 : decode prog_14_method_1_code 303 = .ok (.iconst 4, 1) := by decide +kernel
theorem dR_init_304 : decode prog_14_method_1_code 304 = .ok (.if_icmp .ge 16, 3) := by decide +kernel
theorem dR_init_307 : decode prog_14_method_1_code 307 = .ok (.aload_n 0, 1) := by decide +kernel
theorem dR_init_308 : decode prog_14_method_1_code 308 = .ok (.getfield 17, 3) := by decide +kernel
theorem dR_init_311 : decode prog_14_method_1_code 311 = .ok (.iload_n 1, 1) := by decide +kernel
theorem dR_init_312 : decode prog_14_method_1_code 312 = .ok (.iconst (-1), 1) := by decide +kernel
theorem dR_init_313 : decode prog_14_method_1_code 313 = .ok (.iastore, 1) := by decide +kernel
theorem dR_init_314 : decode prog_14_method_1_code 314 = .ok (.iinc 1 1, 3) := by decide +kernel
theorem dR_init_317 : decode prog_14_method_1_code 317 = .ok (.goto (-15), 3) := by decide +kernel
theorem dR_init_320 : decode prog_14_method_1_code 320 = .ok (.aload_n 0, 1) := by decide +kernel
theorem dR_init_321 : decode prog_14_method_1_code 321 = .ok (.getfield 35, 3) := by decide +kernel
theorem dR_init_324 : decode prog_14_method_1_code 324 = .ok (.iconst 0, 1) := by decide +kernel
theorem dR_init_325 : decode prog_14_method_1_code 325 = .ok (.iconst 2, 1) := by decide +kernel
theorem dR_init_326 : decode prog_14_method_1_code 326 = .ok (.iastore, 1) := by decide +kernel
theorem dR_init_327 : decode prog_14_method_1_code 327 = .ok (.aload_n 0, 1) := by decide +kernel
theorem dR_init_328 : decode prog_14_method_1_code 328 = .ok (.getfield 35, 3) := by decide +kernel
theorem dR_init_331 : decode prog_14_method_1_code 331 = .ok (.iconst 1, 1) := by decide +kernel
theorem dR_init_332 : decode prog_14_method_1_code 332 = .ok (.iconst 1, 1) := by decide +kernel
theorem dR_init_333 : decode prog_14_method_1_code 333 = .ok (.iastore, 1) := by decide +kernel
theorem dR_init_334 : decode prog_14_method_1_code 334 = .ok (.return_, 1) := by decide +kernel
theorem gw_R_7 : FW "BracketRoomModel" 7 12 3 := ⟨_, _, _, rfl, by decide, rfl, tk6 200 rfl rfl⟩
theorem gw_R_13 : FW "BracketRoomModel" 13 12 4 := ⟨_, _, _, rfl, by decide, rfl, tk6 201 rfl rfl⟩
theorem gw_R_17 : FW "BracketRoomModel" 17 12 5 := ⟨_, _, _, rfl, by decide, rfl, tk6 202 rfl rfl⟩
theorem gw_R_20 : FW "BracketRoomModel" 20 12 6 := ⟨_, _, _, rfl, by decide, rfl, tk6 203 rfl rfl⟩
theorem gw_R_24 : FW "BracketRoomModel" 24 12 7 := ⟨_, _, _, rfl, by decide, rfl, tk6 204 rfl rfl⟩
theorem gw_R_28 : FW "BracketRoomModel" 28 12 10 := ⟨_, _, _, rfl, by decide, rfl, tk6 207 rfl rfl⟩
theorem gw_R_32 : FW "BracketRoomModel" 32 12 11 := ⟨_, _, _, rfl, by decide, rfl, tk6 208 rfl rfl⟩
theorem gw_R_35 : FW "BracketRoomModel" 35 12 19 := ⟨_, _, _, rfl, by decide, rfl, tk6 216 rfl rfl⟩
theorem gw_R_38 : FW "BracketRoomModel" 38 12 20 := ⟨_, _, _, rfl, by decide, rfl, tk6 217 rfl rfl⟩
theorem gw_R_41 : FW "BracketRoomModel" 41 12 21 := ⟨_, _, _, rfl, by decide, rfl, tk6 218 rfl rfl⟩
theorem gw_R_44 : FW "BracketRoomModel" 44 12 22 := ⟨_, _, _, rfl, by decide, rfl, tk6 219 rfl rfl⟩
theorem gw_R_47 : FW "BracketRoomModel" 47 12 28 := ⟨_, _, _, rfl, by decide, rfl, tk6 225 rfl rfl⟩
theorem gw_R_50 : FW "BracketRoomModel" 50 12 29 := ⟨_, _, _, rfl, by decide, rfl, tk6 226 rfl rfl⟩
theorem gw_R_53 : FW "BracketRoomModel" 53 12 30 := ⟨_, _, _, rfl, by decide, rfl, tk6 227 rfl rfl⟩
theorem gw_R_56 : FW "BracketRoomModel" 56 12 31 := ⟨_, _, _, rfl, by decide, rfl, tk6 228 rfl rfl⟩
theorem gw_R_59 : FW "BracketRoomModel" 59 12 32 := ⟨_, _, _, rfl, by decide, rfl, tk6 229 rfl rfl⟩
theorem gw_R_62 : FW "BracketRoomModel" 62 12 33 := ⟨_, _, _, rfl, by decide, rfl, tk6 230 rfl rfl⟩
theorem gw_R_65 : FW "BracketRoomModel" 65 12 34 := ⟨_, _, _, rfl, by decide, rfl, tk6 231 rfl rfl⟩
theorem gw_R_68 : FW "BracketRoomModel" 68 12 35 := ⟨_, _, _, rfl, by decide, rfl, tk6 232 rfl rfl⟩
theorem gw_R_71 : FW "BracketRoomModel" 71 12 36 := ⟨_, _, _, rfl, by decide, rfl, tk6 233 rfl rfl⟩
theorem gw_R_74 : FW "BracketRoomModel" 74 12 37 := ⟨_, _, _, rfl, by decide, rfl, tk6 234 rfl rfl⟩
theorem gw_R_77 : FW "BracketRoomModel" 77 12 38 := ⟨_, _, _, rfl, by decide, rfl, tk6 235 rfl rfl⟩
theorem gw_R_80 : FW "BracketRoomModel" 80 12 40 := ⟨_, _, _, rfl, by decide, rfl, tk6 237 rfl rfl⟩
theorem gw_R_83 : FW "BracketRoomModel" 83 12 41 := ⟨_, _, _, rfl, by decide, rfl, tk6 238 rfl rfl⟩
theorem gw_R_86 : FW "BracketRoomModel" 86 12 42 := ⟨_, _, _, rfl, by decide, rfl, tk6 239 rfl rfl⟩
theorem gw_R_89 : FW "BracketRoomModel" 89 12 44 := ⟨_, _, _, rfl, by decide, rfl, tk7 1 rfl rfl⟩
theorem gw_R_92 : FW "BracketRoomModel" 92 12 48 := ⟨_, _, _, rfl, by decide, rfl, tk7 5 rfl rfl⟩
theorem gw_R_95 : FW "BracketRoomModel" 95 12 54 := ⟨_, _, _, rfl, by decide, rfl, tk7 11 rfl rfl⟩
theorem gw_R_98 : FW "BracketRoomModel" 98 12 55 := ⟨_, _, _, rfl, by decide, rfl, tk7 12 rfl rfl⟩
theorem gw_R_101 : FW "BracketRoomModel" 101 12 56 := ⟨_, _, _, rfl, by decide, rfl, tk7 13 rfl rfl⟩
theorem gw_R_104 : FW "BracketRoomModel" 104 12 57 := ⟨_, _, _, rfl, by decide, rfl, tk7 14 rfl rfl⟩
theorem gw_R_107 : FW "BracketRoomModel" 107 12 58 := ⟨_, _, _, rfl, by decide, rfl, tk7 15 rfl rfl⟩
theorem gw_R_110 : FW "BracketRoomModel" 110 12 61 := ⟨_, _, _, rfl, by decide, rfl, tk7 18 rfl rfl⟩
theorem gw_R_113 : FW "BracketRoomModel" 113 12 62 := ⟨_, _, _, rfl, by decide, rfl, tk7 19 rfl rfl⟩
theorem gw_R_116 : FW "BracketRoomModel" 116 12 63 := ⟨_, _, _, rfl, by decide, rfl, tk7 20 rfl rfl⟩
theorem gw_R_119 : FW "BracketRoomModel" 119 12 66 := ⟨_, _, _, rfl, by decide, rfl, tk7 23 rfl rfl⟩
theorem gw_R_122 : FW "BracketRoomModel" 122 12 67 := ⟨_, _, _, rfl, by decide, rfl, tk7 24 rfl rfl⟩
theorem gw_R_125 : FW "BracketRoomModel" 125 12 68 := ⟨_, _, _, rfl, by decide, rfl, tk7 25 rfl rfl⟩
theorem gw_R_129 : FW "BracketRoomModel" 129 12 69 := ⟨_, _, _, rfl, by decide, rfl, tk7 26 rfl rfl⟩
theorem n_Model {d a : Nat} {σ : SG} {Q : SG → Prop} (ha : a = 161) (hk : kds a [(12, 71), (100, 4), (100, 4), (101, 240), (102, 600), (100, 3440), (100, 127), (100, 127), (100, 300), (100, 25), (100, 25), (100, 25), (100, 25), (100, 25), (100, 5), (100, 5), (100, 5), (100, 5), (100, 1800), (100, 30), (100, 25), (100, 125), (100, 6), (100, 2), (100, 5), (100, 5), (100, 5), (100, 25), (100, 25), (100, 25), (100, 25), (100, 25), (100, 25), (100, 25), (103, 512), (100, 127)]) (h : Q (pat σ a (a + 36))) : TN (d + 1) (a + 1) (a + 36) M_R_init [vA a] (bl σ a) Q := by
  have hlt := hk.lt 35 rfl (by decide)
  refine TN_intro (ls := [vA (a : Int), vU]) rfl (Nat.le_of_ble_eq_true rfl) rfl ?_
  refine LN_aload_n dR_init_0 rfl (by omega) ?_
  refine LN_objInit (tk6 196 rfl rfl) (by omega) (Nat.le_of_ble_eq_true rfl) dR_init_1 ?_
  refine LN_aload_n dR_init_4 rfl (by omega) ?_
  refine LN_lconst (x := 1) dR_init_5 rfl ⟨by decide, by decide⟩ ?_
  refine LN_putf gw_R_7 rfl rfl (t := 1) rfl (fun _ => ⟨rfl, rfl⟩) (ob_k (hk.at 0 rfl)) (by omega) dR_init_6 ?_
  refine LN_aload_n dR_init_9 rfl (by omega) ?_
  refine LN_iconst dR_init_10 ⟨by decide, by decide⟩ ?_
  refine LN_newA (t := 100) (N := 4) (by decide) rfl (hk.at 1 rfl) rfl (by decide) (by omega) dR_init_11 ?_
  refine LN_putf gw_R_13 rfl rfl (t := 2) rfl fit_ra (ob_k (hk.at 0 rfl)) (by omega) dR_init_13 ?_
  refine LN_aload_n dR_init_16 rfl (by omega) ?_
  refine LN_iconst dR_init_17 ⟨by decide, by decide⟩ ?_
  refine LN_newA (t := 100) (N := 4) (by decide) rfl (hk.at 2 rfl) rfl (by decide) (by omega) dR_init_18 ?_
  refine LN_putf gw_R_17 rfl rfl (t := 2) rfl fit_ra (ob_k (hk.at 0 rfl)) (by omega) dR_init_20 ?_
  refine LN_aload_n dR_init_23 rfl (by omega) ?_
  refine LN_sipush dR_init_24 (by decide) ⟨by decide, by decide⟩ ?_
  refine LN_newA (t := 101) (N := 240) (by decide) rfl (hk.at 3 rfl) rfl (by decide) (by omega) dR_init_27 ?_
  refine LN_putf gw_R_20 rfl rfl (t := 2) rfl fit_ra (ob_k (hk.at 0 rfl)) (by omega) dR_init_29 ?_
  refine LN_aload_n dR_init_32 rfl (by omega) ?_
  refine LN_sipush dR_init_33 (by decide) ⟨by decide, by decide⟩ ?_
  refine LN_newA (t := 102) (N := 600) (by decide) rfl (hk.at 4 rfl) rfl (by decide) (by omega) dR_init_36 ?_
  refine LN_putf gw_R_24 rfl rfl (t := 2) rfl fit_ra (ob_k (hk.at 0 rfl)) (by omega) dR_init_38 ?_
  refine LN_aload_n dR_init_41 rfl (by omega) ?_
  refine LN_iconst dR_init_42 ⟨by decide, by decide⟩ ?_
  refine LN_putf gw_R_28 rfl rfl (t := 0) rfl (fun _ => ⟨rfl, rfl⟩) (ob_k (hk.at 0 rfl)) (by omega) dR_init_43 ?_
  refine LN_aload_n dR_init_46 rfl (by omega) ?_
  refine LN_iconst dR_init_47 ⟨by decide, by decide⟩ ?_
  refine LN_putf gw_R_32 rfl rfl (t := 0) rfl (fun _ => ⟨rfl, rfl⟩) (ob_k (hk.at 0 rfl)) (by omega) dR_init_48 ?_
  refine LN_aload_n dR_init_51 rfl (by omega) ?_
  refine LN_sipush dR_init_52 (by decide) ⟨by decide, by decide⟩ ?_
  refine LN_newA (t := 100) (N := 3440) (by decide) rfl (hk.at 5 rfl) rfl (by decide) (by omega) dR_init_55 ?_
  refine LN_putf gw_R_35 rfl rfl (t := 2) rfl fit_ra (ob_k (hk.at 0 rfl)) (by omega) dR_init_57 ?_
  refine LN_aload_n dR_init_60 rfl (by omega) ?_
  refine LN_bipush dR_init_61 (by decide) ⟨by decide, by decide⟩ ?_
  refine LN_newA (t := 100) (N := 127) (by decide) rfl (hk.at 6 rfl) rfl (by decide) (by omega) dR_init_63 ?_
  refine LN_putf gw_R_38 rfl rfl (t := 2) rfl fit_ra (ob_k (hk.at 0 rfl)) (by omega) dR_init_65 ?_
  refine LN_aload_n dR_init_68 rfl (by omega) ?_
  refine LN_bipush dR_init_69 (by decide) ⟨by decide, by decide⟩ ?_
  refine LN_newA (t := 100) (N := 127) (by decide) rfl (hk.at 7 rfl) rfl (by decide) (by omega) dR_init_71 ?_
  refine LN_putf gw_R_41 rfl rfl (t := 2) rfl fit_ra (ob_k (hk.at 0 rfl)) (by omega) dR_init_73 ?_
  refine LN_aload_n dR_init_76 rfl (by omega) ?_
  refine LN_sipush dR_init_77 (by decide) ⟨by decide, by decide⟩ ?_
  refine LN_newA (t := 100) (N := 300) (by decide) rfl (hk.at 8 rfl) rfl (by decide) (by omega) dR_init_80 ?_
  refine LN_putf gw_R_44 rfl rfl (t := 2) rfl fit_ra (ob_k (hk.at 0 rfl)) (by omega) dR_init_82 ?_
  refine LN_aload_n dR_init_85 rfl (by omega) ?_
  refine LN_bipush dR_init_86 (by decide) ⟨by decide, by decide⟩ ?_
  refine LN_newA (t := 100) (N := 25) (by decide) rfl (hk.at 9 rfl) rfl (by decide) (by omega) dR_init_88 ?_
  refine LN_putf gw_R_47 rfl rfl (t := 2) rfl fit_ra (ob_k (hk.at 0 rfl)) (by omega) dR_init_90 ?_
  refine LN_aload_n dR_init_93 rfl (by omega) ?_
  refine LN_bipush dR_init_94 (by decide) ⟨by decide, by decide⟩ ?_
  refine LN_newA (t := 100) (N := 25) (by decide) rfl (hk.at 10 rfl) rfl (by decide) (by omega) dR_init_96 ?_
  refine LN_putf gw_R_50 rfl rfl (t := 2) rfl fit_ra (ob_k (hk.at 0 rfl)) (by omega) dR_init_98 ?_
  refine LN_aload_n dR_init_101 rfl (by omega) ?_
  refine LN_bipush dR_init_102 (by decide) ⟨by decide, by decide⟩ ?_
  refine LN_newA (t := 100) (N := 25) (by decide) rfl (hk.at 11 rfl) rfl (by decide) (by omega) dR_init_104 ?_
  refine LN_putf gw_R_53 rfl rfl (t := 2) rfl fit_ra (ob_k (hk.at 0 rfl)) (by omega) dR_init_106 ?_
  refine LN_aload_n dR_init_109 rfl (by omega) ?_
  refine LN_bipush dR_init_110 (by decide) ⟨by decide, by decide⟩ ?_
  refine LN_newA (t := 100) (N := 25) (by decide) rfl (hk.at 12 rfl) rfl (by decide) (by omega) dR_init_112 ?_
  refine LN_putf gw_R_56 rfl rfl (t := 2) rfl fit_ra (ob_k (hk.at 0 rfl)) (by omega) dR_init_114 ?_
  refine LN_aload_n dR_init_117 rfl (by omega) ?_
  refine LN_bipush dR_init_118 (by decide) ⟨by decide, by decide⟩ ?_
  refine LN_newA (t := 100) (N := 25) (by decide) rfl (hk.at 13 rfl) rfl (by decide) (by omega) dR_init_120 ?_
  refine LN_putf gw_R_59 rfl rfl (t := 2) rfl fit_ra (ob_k (hk.at 0 rfl)) (by omega) dR_init_122 ?_
  refine LN_aload_n dR_init_125 rfl (by omega) ?_
  refine LN_iconst dR_init_126 ⟨by decide, by decide⟩ ?_
  refine LN_newA (t := 100) (N := 5) (by decide) rfl (hk.at 14 rfl) rfl (by decide) (by omega) dR_init_127 ?_
  refine LN_putf gw_R_62 rfl rfl (t := 2) rfl fit_ra (ob_k (hk.at 0 rfl)) (by omega) dR_init_129 ?_
  refine LN_aload_n dR_init_132 rfl (by omega) ?_
  refine LN_iconst dR_init_133 ⟨by decide, by decide⟩ ?_
  refine LN_newA (t := 100) (N := 5) (by decide) rfl (hk.at 15 rfl) rfl (by decide) (by omega) dR_init_134 ?_
  refine LN_putf gw_R_65 rfl rfl (t := 2) rfl fit_ra (ob_k (hk.at 0 rfl)) (by omega) dR_init_136 ?_
  refine LN_aload_n dR_init_139 rfl (by omega) ?_
  refine LN_iconst dR_init_140 ⟨by decide, by decide⟩ ?_
  refine LN_newA (t := 100) (N := 5) (by decide) rfl (hk.at 16 rfl) rfl (by decide) (by omega) dR_init_141 ?_
  refine LN_putf gw_R_68 rfl rfl (t := 2) rfl fit_ra (ob_k (hk.at 0 rfl)) (by omega) dR_init_143 ?_
  refine LN_aload_n dR_init_146 rfl (by omega) ?_
  refine LN_iconst dR_init_147 ⟨by decide, by decide⟩ ?_
  refine LN_newA (t := 100) (N := 5) (by decide) rfl (hk.at 17 rfl) rfl (by decide) (by omega) dR_init_148 ?_
  refine LN_putf gw_R_71 rfl rfl (t := 2) rfl fit_ra (ob_k (hk.at 0 rfl)) (by omega) dR_init_150 ?_
  refine LN_aload_n dR_init_153 rfl (by omega) ?_
  refine LN_sipush dR_init_154 (by decide) ⟨by decide, by decide⟩ ?_
  refine LN_newA (t := 100) (N := 1800) (by decide) rfl (hk.at 18 rfl) rfl (by decide) (by omega) dR_init_157 ?_
  refine LN_putf gw_R_74 rfl rfl (t := 2) rfl fit_ra (ob_k (hk.at 0 rfl)) (by omega) dR_init_159 ?_
  refine LN_aload_n dR_init_162 rfl (by omega) ?_
  refine LN_bipush dR_init_163 (by decide) ⟨by decide, by decide⟩ ?_
  refine LN_newA (t := 100) (N := 30) (by decide) rfl (hk.at 19 rfl) rfl (by decide) (by omega) dR_init_165 ?_
  refine LN_putf gw_R_77 rfl rfl (t := 2) rfl fit_ra (ob_k (hk.at 0 rfl)) (by omega) dR_init_167 ?_
  refine LN_aload_n dR_init_170 rfl (by omega) ?_
  refine LN_bipush dR_init_171 (by decide) ⟨by decide, by decide⟩ ?_
  refine LN_newA (t := 100) (N := 25) (by decide) rfl (hk.at 20 rfl) rfl (by decide) (by omega) dR_init_173 ?_
  refine LN_putf gw_R_80 rfl rfl (t := 2) rfl fit_ra (ob_k (hk.at 0 rfl)) (by omega) dR_init_175 ?_
  refine LN_aload_n dR_init_178 rfl (by omega) ?_
  refine LN_bipush dR_init_179 (by decide) ⟨by decide, by decide⟩ ?_
  refine LN_newA (t := 100) (N := 125) (by decide) rfl (hk.at 21 rfl) rfl (by decide) (by omega) dR_init_181 ?_
  refine LN_putf gw_R_83 rfl rfl (t := 2) rfl fit_ra (ob_k (hk.at 0 rfl)) (by omega) dR_init_183 ?_
  refine LN_aload_n dR_init_186 rfl (by omega) ?_
  refine LN_bipush dR_init_187 (by decide) ⟨by decide, by decide⟩ ?_
  refine LN_newA (t := 100) (N := 6) (by decide) rfl (hk.at 22 rfl) rfl (by decide) (by omega) dR_init_189 ?_
  refine LN_putf gw_R_86 rfl rfl (t := 2) rfl fit_ra (ob_k (hk.at 0 rfl)) (by omega) dR_init_191 ?_
  refine LN_aload_n dR_init_194 rfl (by omega) ?_
  refine LN_iconst dR_init_195 ⟨by decide, by decide⟩ ?_
  refine LN_putf gw_R_89 rfl rfl (t := 0) rfl (fun _ => ⟨rfl, rfl⟩) (ob_k (hk.at 0 rfl)) (by omega) dR_init_196 ?_
  refine LN_aload_n dR_init_199 rfl (by omega) ?_
  refine LN_iconst dR_init_200 ⟨by decide, by decide⟩ ?_
  refine LN_newA (t := 100) (N := 2) (by decide) rfl (hk.at 23 rfl) rfl (by decide) (by omega) dR_init_201 ?_
  refine LN_putf gw_R_92 rfl rfl (t := 2) rfl fit_ra (ob_k (hk.at 0 rfl)) (by omega) dR_init_203 ?_
  refine LN_aload_n dR_init_206 rfl (by omega) ?_
  refine LN_iconst dR_init_207 ⟨by decide, by decide⟩ ?_
  refine LN_newA (t := 100) (N := 5) (by decide) rfl (hk.at 24 rfl) rfl (by decide) (by omega) dR_init_208 ?_
  refine LN_putf gw_R_95 rfl rfl (t := 2) rfl fit_ra (ob_k (hk.at 0 rfl)) (by omega) dR_init_210 ?_
  refine LN_aload_n dR_init_213 rfl (by omega) ?_
  refine LN_iconst dR_init_214 ⟨by decide, by decide⟩ ?_
  refine LN_newA (t := 100) (N := 5) (by decide) rfl (hk.at 25 rfl) rfl (by decide) (by omega) dR_init_215 ?_
  refine LN_putf gw_R_98 rfl rfl (t := 2) rfl fit_ra (ob_k (hk.at 0 rfl)) (by omega) dR_init_217 ?_
  refine LN_aload_n dR_init_220 rfl (by omega) ?_
  refine LN_iconst dR_init_221 ⟨by decide, by decide⟩ ?_
  refine LN_newA (t := 100) (N := 5) (by decide) rfl (hk.at 26 rfl) rfl (by decide) (by omega) dR_init_222 ?_
  refine LN_putf gw_R_101 rfl rfl (t := 2) rfl fit_ra (ob_k (hk.at 0 rfl)) (by omega) dR_init_224 ?_
  refine LN_aload_n dR_init_227 rfl (by omega) ?_
  refine LN_bipush dR_init_228 (by decide) ⟨by decide, by decide⟩ ?_
  refine LN_newA (t := 100) (N := 25) (by decide) rfl (hk.at 27 rfl) rfl (by decide) (by omega) dR_init_230 ?_
  refine LN_putf gw_R_104 rfl rfl (t := 2) rfl fit_ra (ob_k (hk.at 0 rfl)) (by omega) dR_init_232 ?_
  refine LN_aload_n dR_init_235 rfl (by omega) ?_
  refine LN_bipush dR_init_236 (by decide) ⟨by decide, by decide⟩ ?_
  refine LN_newA (t := 100) (N := 25) (by decide) rfl (hk.at 28 rfl) rfl (by decide) (by omega) dR_init_238 ?_
  refine LN_putf gw_R_107 rfl rfl (t := 2) rfl fit_ra (ob_k (hk.at 0 rfl)) (by omega) dR_init_240 ?_
  refine LN_aload_n dR_init_243 rfl (by omega) ?_
  refine LN_bipush dR_init_244 (by decide) ⟨by decide, by decide⟩ ?_
  refine LN_newA (t := 100) (N := 25) (by decide) rfl (hk.at 29 rfl) rfl (by decide) (by omega) dR_init_246 ?_
  refine LN_putf gw_R_110 rfl rfl (t := 2) rfl fit_ra (ob_k (hk.at 0 rfl)) (by omega) dR_init_248 ?_
  refine LN_aload_n dR_init_251 rfl (by omega) ?_
  refine LN_bipush dR_init_252 (by decide) ⟨by decide, by decide⟩ ?_
  refine LN_newA (t := 100) (N := 25) (by decide) rfl (hk.at 30 rfl) rfl (by decide) (by omega) dR_init_254 ?_
  refine LN_putf gw_R_113 rfl rfl (t := 2) rfl fit_ra (ob_k (hk.at 0 rfl)) (by omega) dR_init_256 ?_
  refine LN_aload_n dR_init_259 rfl (by omega) ?_
  refine LN_bipush dR_init_260 (by decide) ⟨by decide, by decide⟩ ?_
  refine LN_newA (t := 100) (N := 25) (by decide) rfl (hk.at 31 rfl) rfl (by decide) (by omega) dR_init_262 ?_
  refine LN_putf gw_R_116 rfl rfl (t := 2) rfl fit_ra (ob_k (hk.at 0 rfl)) (by omega) dR_init_264 ?_
  refine LN_aload_n dR_init_267 rfl (by omega) ?_
  refine LN_bipush dR_init_268 (by decide) ⟨by decide, by decide⟩ ?_
  refine LN_newA (t := 100) (N := 25) (by decide) rfl (hk.at 32 rfl) rfl (by decide) (by omega) dR_init_270 ?_
  refine LN_putf gw_R_119 rfl rfl (t := 2) rfl fit_ra (ob_k (hk.at 0 rfl)) (by omega) dR_init_272 ?_
  refine LN_aload_n dR_init_275 rfl (by omega) ?_
  refine LN_bipush dR_init_276 (by decide) ⟨by decide, by decide⟩ ?_
  refine LN_newA (t := 100) (N := 25) (by decide) rfl (hk.at 33 rfl) rfl (by decide) (by omega) dR_init_278 ?_
  refine LN_putf gw_R_122 rfl rfl (t := 2) rfl fit_ra (ob_k (hk.at 0 rfl)) (by omega) dR_init_280 ?_
  refine LN_aload_n dR_init_283 rfl (by omega) ?_
  refine LN_sipush dR_init_284 (by decide) ⟨by decide, by decide⟩ ?_
  refine LN_newA (t := 103) (N := 512) (by decide) rfl (hk.at 34 rfl) rfl (by decide) (by omega) dR_init_287 ?_
  refine LN_putf gw_R_125 rfl rfl (t := 2) rfl fit_ra (ob_k (hk.at 0 rfl)) (by omega) dR_init_289 ?_
  refine LN_aload_n dR_init_292 rfl (by omega) ?_
  refine LN_bipush dR_init_293 (by decide) ⟨by decide, by decide⟩ ?_
  refine LN_newA (t := 100) (N := 127) (by decide) rfl (hk.at 35 rfl) rfl (by decide) (by omega) dR_init_295 ?_
  refine LN_putf gw_R_129 rfl rfl (t := 2) rfl fit_ra (ob_k (hk.at 0 rfl)) (by omega) dR_init_297 ?_
  refine LN_iconst dR_init_300 ⟨by decide, by decide⟩ ?_
  refine LN_istore_n dR_init_301 (by decide) ?_
  refine LN_iload_n dR_init_302 rfl ?_
  refine LN_iconst dR_init_303 ⟨by decide, by decide⟩ ?_
  refine LN_icmp_ge (tgt := 320) dR_init_304 (by omega) ⟨fun q => absurd q (by decide), fun _ => ?_⟩
  refine LN_aload_n dR_init_307 rfl (by omega) ?_
  refine LN_getf (x := ((a + 2 : Nat) : Int)) gw_R_17 (t := 2) rfl (by (repeat (first | rw [up_ne (by omega)] | rw [bl_ne (by omega)] | rw [pat_out (by omega)])); exact up_at (by omega) (by omega)) trivial (ob_k (hk.at 0 rfl)) (by omega) dR_init_308 ?_
  refine LN_iload_n dR_init_311 rfl ?_
  refine LN_iconst dR_init_312 ⟨by decide, by decide⟩ ?_
  refine LN_iastore (wr_k (hk.at 2 rfl) ⟨by decide, by decide⟩) (by omega) dR_init_313 ?_
  refine LN_iincC (x' := 1) dR_init_314 rfl (by decide) (by decide) ?_
  refine LN_goto (tgt := 302) dR_init_317 (by omega) ?_
  refine LN_iload_n dR_init_302 rfl ?_
  refine LN_iconst dR_init_303 ⟨by decide, by decide⟩ ?_
  refine LN_icmp_ge (tgt := 320) dR_init_304 (by omega) ⟨fun q => absurd q (by decide), fun _ => ?_⟩
  refine LN_aload_n dR_init_307 rfl (by omega) ?_
  refine LN_getf (x := ((a + 2 : Nat) : Int)) gw_R_17 (t := 2) rfl (by (repeat (first | rw [up_ne (by omega)] | rw [bl_ne (by omega)] | rw [pat_out (by omega)])); exact up_at (by omega) (by omega)) trivial (ob_k (hk.at 0 rfl)) (by omega) dR_init_308 ?_
  refine LN_iload_n dR_init_311 rfl ?_
  refine LN_iconst dR_init_312 ⟨by decide, by decide⟩ ?_
  refine LN_iastore (wr_k (hk.at 2 rfl) ⟨by decide, by decide⟩) (by omega) dR_init_313 ?_
  refine LN_iincC (x' := 2) dR_init_314 rfl (by decide) (by decide) ?_
  refine LN_goto (tgt := 302) dR_init_317 (by omega) ?_
  refine LN_iload_n dR_init_302 rfl ?_
  refine LN_iconst dR_init_303 ⟨by decide, by decide⟩ ?_
  refine LN_icmp_ge (tgt := 320) dR_init_304 (by omega) ⟨fun q => absurd q (by decide), fun _ => ?_⟩
  refine LN_aload_n dR_init_307 rfl (by omega) ?_
  refine LN_getf (x := ((a + 2 : Nat) : Int)) gw_R_17 (t := 2) rfl (by (repeat (first | rw [up_ne (by omega)] | rw [bl_ne (by omega)] | rw [pat_out (by omega)])); exact up_at (by omega) (by omega)) trivial (ob_k (hk.at 0 rfl)) (by omega) dR_init_308 ?_
  refine LN_iload_n dR_init_311 rfl ?_
  refine LN_iconst dR_init_312 ⟨by decide, by decide⟩ ?_
  refine LN_iastore (wr_k (hk.at 2 rfl) ⟨by decide, by decide⟩) (by omega) dR_init_313 ?_
  refine LN_iincC (x' := 3) dR_init_314 rfl (by decide) (by decide) ?_
  refine LN_goto (tgt := 302) dR_init_317 (by omega) ?_
  refine LN_iload_n dR_init_302 rfl ?_
  refine LN_iconst dR_init_303 ⟨by decide, by decide⟩ ?_
  refine LN_icmp_ge (tgt := 320) dR_init_304 (by omega) ⟨fun q => absurd q (by decide), fun _ => ?_⟩
  refine LN_aload_n dR_init_307 rfl (by omega) ?_
  refine LN_getf (x := ((a + 2 : Nat) : Int)) gw_R_17 (t := 2) rfl (by (repeat (first | rw [up_ne (by omega)] | rw [bl_ne (by omega)] | rw [pat_out (by omega)])); exact up_at (by omega) (by omega)) trivial (ob_k (hk.at 0 rfl)) (by omega) dR_init_308 ?_
  refine LN_iload_n dR_init_311 rfl ?_
  refine LN_iconst dR_init_312 ⟨by decide, by decide⟩ ?_
  refine LN_iastore (wr_k (hk.at 2 rfl) ⟨by decide, by decide⟩) (by omega) dR_init_313 ?_
  refine LN_iincC (x' := 4) dR_init_314 rfl (by decide) (by decide) ?_
  refine LN_goto (tgt := 302) dR_init_317 (by omega) ?_
  refine LN_iload_n dR_init_302 rfl ?_
  refine LN_iconst dR_init_303 ⟨by decide, by decide⟩ ?_
  refine LN_icmp_ge (tgt := 320) dR_init_304 (by omega) ⟨fun _ => ?_, fun q => absurd q (by decide)⟩
  refine LN_aload_n dR_init_320 rfl (by omega) ?_
  refine LN_getf (x := ((a + 5 : Nat) : Int)) gw_R_35 (t := 2) rfl (by (repeat (first | rw [up_ne (by omega)] | rw [bl_ne (by omega)] | rw [pat_out (by omega)])); exact up_at (by omega) (by omega)) trivial (ob_k (hk.at 0 rfl)) (by omega) dR_init_321 ?_
  refine LN_iconst dR_init_324 ⟨by decide, by decide⟩ ?_
  refine LN_iconst dR_init_325 ⟨by decide, by decide⟩ ?_
  refine LN_iastore (wr_k (hk.at 5 rfl) ⟨by decide, by decide⟩) (by omega) dR_init_326 ?_
  refine LN_aload_n dR_init_327 rfl (by omega) ?_
  refine LN_getf (x := ((a + 5 : Nat) : Int)) gw_R_35 (t := 2) rfl (by (repeat (first | rw [up_ne (by omega)] | rw [bl_ne (by omega)] | rw [pat_out (by omega)])); exact up_at (by omega) (by omega)) trivial (ob_k (hk.at 0 rfl)) (by omega) dR_init_328 ?_
  refine LN_iconst dR_init_331 ⟨by decide, by decide⟩ ?_
  refine LN_iconst dR_init_332 ⟨by decide, by decide⟩ ?_
  refine LN_iastore (wr_k (hk.at 5 rfl) ⟨by decide, by decide⟩) (by omega) dR_init_333 ?_
  refine LN_return (σ' := pat σ a (a + 36)) (by omega) rfl dR_init_334 (fun b hb j hj => ?_) h
  rcases (show b < a ∨ b = a ∨ b = a + 1 ∨ b = a + 2 ∨ b = a + 3 ∨ b = a + 4 ∨ b = a + 5 ∨ b = a + 6 ∨ b = a + 7 ∨ b = a + 8 ∨ b = a + 9 ∨ b = a + 10 ∨ b = a + 11 ∨ b = a + 12 ∨ b = a + 13 ∨ b = a + 14 ∨ b = a + 15 ∨ b = a + 16 ∨ b = a + 17 ∨ b = a + 18 ∨ b = a + 19 ∨ b = a + 20 ∨ b = a + 21 ∨ b = a + 22 ∨ b = a + 23 ∨ b = a + 24 ∨ b = a + 25 ∨ b = a + 26 ∨ b = a + 27 ∨ b = a + 28 ∨ b = a + 29 ∨ b = a + 30 ∨ b = a + 31 ∨ b = a + 32 ∨ b = a + 33 ∨ b = a + 34 ∨ b = a + 35 by omega) with q | q | q | q | q | q | q | q | q | q | q | q | q | q | q | q | q | q | q | q | q | q | q | q | q | q | q | q | q | q | q | q | q | q | q | q | q
  · (repeat (first | rw [up_ne (by omega)] | rw [bl_ne (by omega)] | rw [pat_out (by omega)]))
  · subst q
    have hkj := (hk.at0 rfl)
    rw [hkj] at hj; simp only at hj
    rcases (show j = 0 ∨ j = 1 ∨ j = 2 ∨ j = 3 ∨ j = 4 ∨ j = 5 ∨ j = 6 ∨ j = 7 ∨ j = 8 ∨ j = 9 ∨ j = 10 ∨ j = 11 ∨ j = 12 ∨ j = 13 ∨ j = 14 ∨ j = 15 ∨ j = 16 ∨ j = 17 ∨ j = 18 ∨ j = 19 ∨ j = 20 ∨ j = 21 ∨ j = 22 ∨ j = 23 ∨ j = 24 ∨ j = 25 ∨ j = 26 ∨ j = 27 ∨ j = 28 ∨ j = 29 ∨ j = 30 ∨ j = 31 ∨ j = 32 ∨ j = 33 ∨ j = 34 ∨ j = 35 ∨ j = 36 ∨ j = 37 ∨ j = 38 ∨ j = 39 ∨ j = 40 ∨ j = 41 ∨ j = 42 ∨ j = 43 ∨ j = 44 ∨ j = 45 ∨ j = 46 ∨ j = 47 ∨ j = 48 ∨ j = 49 ∨ j = 50 ∨ j = 51 ∨ j = 52 ∨ j = 53 ∨ j = 54 ∨ j = 55 ∨ j = 56 ∨ j = 57 ∨ j = 58 ∨ j = 59 ∨ j = 60 ∨ j = 61 ∨ j = 62 ∨ j = 63 ∨ j = 64 ∨ j = 65 ∨ j = 66 ∨ j = 67 ∨ j = 68 ∨ j = 69 ∨ j = 70 by omega) with rfl | rfl | rfl | rfl | rfl | rfl | rfl | rfl | rfl | rfl | rfl | rfl | rfl | rfl | rfl | rfl | rfl | rfl | rfl | rfl | rfl | rfl | rfl | rfl | rfl | rfl | rfl | rfl | rfl | rfl | rfl | rfl | rfl | rfl | rfl | rfl | rfl | rfl | rfl | rfl | rfl | rfl | rfl | rfl | rfl | rfl | rfl | rfl | rfl | rfl | rfl | rfl | rfl | rfl | rfl | rfl | rfl | rfl | rfl | rfl | rfl | rfl | rfl | rfl | rfl | rfl | rfl | rfl | rfl | rfl | rfl
    · (repeat (first | rw [up_ne (by omega)] | rw [bl_ne (by omega)] | rw [pat_out (by omega)])); rw [pat_in (by omega)]; exact s0_bl hkj (by decide) rfl (Or.inr rfl)
    · (repeat (first | rw [up_ne (by omega)] | rw [bl_ne (by omega)] | rw [pat_out (by omega)])); rw [pat_in (by omega)]; exact s0_bl hkj (by decide) rfl (Or.inr rfl)
    · (repeat (first | rw [up_ne (by omega)] | rw [bl_ne (by omega)] | rw [pat_out (by omega)])); rw [pat_in (by omega)]; exact s0_bl hkj (by decide) rfl (Or.inr rfl)
    · (repeat (first | rw [up_ne (by omega)] | rw [bl_ne (by omega)] | rw [pat_out (by omega)])); rw [up_at (by omega) (by omega), pat_in (by omega)]; exact s0_c hkj (by decide) rfl (by decide) rfl
    · (repeat (first | rw [up_ne (by omega)] | rw [bl_ne (by omega)] | rw [pat_out (by omega)])); rw [up_at (by omega) (by omega), pat_in (by omega)]; exact s0_fo hkj (by decide) (o := 1) rfl (by omega)
    · (repeat (first | rw [up_ne (by omega)] | rw [bl_ne (by omega)] | rw [pat_out (by omega)])); rw [up_at (by omega) (by omega), pat_in (by omega)]; exact s0_fo hkj (by decide) (o := 2) rfl (by omega)
    · (repeat (first | rw [up_ne (by omega)] | rw [bl_ne (by omega)] | rw [pat_out (by omega)])); rw [up_at (by omega) (by omega), pat_in (by omega)]; exact s0_fo hkj (by decide) (o := 3) rfl (by omega)
    · (repeat (first | rw [up_ne (by omega)] | rw [bl_ne (by omega)] | rw [pat_out (by omega)])); rw [up_at (by omega) (by omega), pat_in (by omega)]; exact s0_fo hkj (by decide) (o := 4) rfl (by omega)
    · (repeat (first | rw [up_ne (by omega)] | rw [bl_ne (by omega)] | rw [pat_out (by omega)])); rw [pat_in (by omega)]; exact s0_bl hkj (by decide) rfl (Or.inr rfl)
    · (repeat (first | rw [up_ne (by omega)] | rw [bl_ne (by omega)] | rw [pat_out (by omega)])); rw [pat_in (by omega)]; exact s0_bl hkj (by decide) rfl (Or.inr rfl)
    · (repeat (first | rw [up_ne (by omega)] | rw [bl_ne (by omega)] | rw [pat_out (by omega)])); rw [up_at (by omega) (by omega), pat_in (by omega)]; exact s0_c hkj (by decide) rfl (by decide) rfl
    · (repeat (first | rw [up_ne (by omega)] | rw [bl_ne (by omega)] | rw [pat_out (by omega)])); rw [up_at (by omega) (by omega), pat_in (by omega)]; exact s0_c hkj (by decide) rfl (by decide) rfl
    · (repeat (first | rw [up_ne (by omega)] | rw [bl_ne (by omega)] | rw [pat_out (by omega)])); rw [pat_in (by omega)]; exact s0_bl hkj (by decide) rfl (Or.inr rfl)
    · (repeat (first | rw [up_ne (by omega)] | rw [bl_ne (by omega)] | rw [pat_out (by omega)])); rw [pat_in (by omega)]; exact s0_bl hkj (by decide) rfl (Or.inr rfl)
    · (repeat (first | rw [up_ne (by omega)] | rw [bl_ne (by omega)] | rw [pat_out (by omega)])); rw [pat_in (by omega)]; exact s0_bl hkj (by decide) rfl (Or.inr rfl)
    · (repeat (first | rw [up_ne (by omega)] | rw [bl_ne (by omega)] | rw [pat_out (by omega)])); rw [pat_in (by omega)]; exact s0_bl hkj (by decide) rfl (Or.inr rfl)
    · (repeat (first | rw [up_ne (by omega)] | rw [bl_ne (by omega)] | rw [pat_out (by omega)])); rw [pat_in (by omega)]; exact s0_bl hkj (by decide) rfl (Or.inr rfl)
    · (repeat (first | rw [up_ne (by omega)] | rw [bl_ne (by omega)] | rw [pat_out (by omega)])); rw [pat_in (by omega)]; exact s0_bl hkj (by decide) rfl (Or.inr rfl)
    · (repeat (first | rw [up_ne (by omega)] | rw [bl_ne (by omega)] | rw [pat_out (by omega)])); rw [pat_in (by omega)]; exact s0_bl hkj (by decide) rfl (Or.inr rfl)
    · (repeat (first | rw [up_ne (by omega)] | rw [bl_ne (by omega)] | rw [pat_out (by omega)])); rw [up_at (by omega) (by omega), pat_in (by omega)]; exact s0_fo hkj (by decide) (o := 5) rfl (by omega)
    · (repeat (first | rw [up_ne (by omega)] | rw [bl_ne (by omega)] | rw [pat_out (by omega)])); rw [up_at (by omega) (by omega), pat_in (by omega)]; exact s0_fo hkj (by decide) (o := 6) rfl (by omega)
    · (repeat (first | rw [up_ne (by omega)] | rw [bl_ne (by omega)] | rw [pat_out (by omega)])); rw [up_at (by omega) (by omega), pat_in (by omega)]; exact s0_fo hkj (by decide) (o := 7) rfl (by omega)
    · (repeat (first | rw [up_ne (by omega)] | rw [bl_ne (by omega)] | rw [pat_out (by omega)])); rw [up_at (by omega) (by omega), pat_in (by omega)]; exact s0_fo hkj (by decide) (o := 8) rfl (by omega)
    · (repeat (first | rw [up_ne (by omega)] | rw [bl_ne (by omega)] | rw [pat_out (by omega)])); rw [pat_in (by omega)]; exact s0_bl hkj (by decide) rfl (Or.inr rfl)
    · (repeat (first | rw [up_ne (by omega)] | rw [bl_ne (by omega)] | rw [pat_out (by omega)])); rw [pat_in (by omega)]; exact s0_bl hkj (by decide) rfl (Or.inl rfl)
    · (repeat (first | rw [up_ne (by omega)] | rw [bl_ne (by omega)] | rw [pat_out (by omega)])); rw [pat_in (by omega)]; exact s0_bl hkj (by decide) rfl (Or.inr rfl)
    · (repeat (first | rw [up_ne (by omega)] | rw [bl_ne (by omega)] | rw [pat_out (by omega)])); rw [pat_in (by omega)]; exact s0_bl hkj (by decide) rfl (Or.inr rfl)
    · (repeat (first | rw [up_ne (by omega)] | rw [bl_ne (by omega)] | rw [pat_out (by omega)])); rw [pat_in (by omega)]; exact s0_bl hkj (by decide) rfl (Or.inr rfl)
    · (repeat (first | rw [up_ne (by omega)] | rw [bl_ne (by omega)] | rw [pat_out (by omega)])); rw [up_at (by omega) (by omega), pat_in (by omega)]; exact s0_fo hkj (by decide) (o := 9) rfl (by omega)
    · (repeat (first | rw [up_ne (by omega)] | rw [bl_ne (by omega)] | rw [pat_out (by omega)])); rw [up_at (by omega) (by omega), pat_in (by omega)]; exact s0_fo hkj (by decide) (o := 10) rfl (by omega)
    · (repeat (first | rw [up_ne (by omega)] | rw [bl_ne (by omega)] | rw [pat_out (by omega)])); rw [up_at (by omega) (by omega), pat_in (by omega)]; exact s0_fo hkj (by decide) (o := 11) rfl (by omega)
    · (repeat (first | rw [up_ne (by omega)] | rw [bl_ne (by omega)] | rw [pat_out (by omega)])); rw [up_at (by omega) (by omega), pat_in (by omega)]; exact s0_fo hkj (by decide) (o := 12) rfl (by omega)
    · (repeat (first | rw [up_ne (by omega)] | rw [bl_ne (by omega)] | rw [pat_out (by omega)])); rw [up_at (by omega) (by omega), pat_in (by omega)]; exact s0_fo hkj (by decide) (o := 13) rfl (by omega)
    · (repeat (first | rw [up_ne (by omega)] | rw [bl_ne (by omega)] | rw [pat_out (by omega)])); rw [up_at (by omega) (by omega), pat_in (by omega)]; exact s0_fo hkj (by decide) (o := 14) rfl (by omega)
    · (repeat (first | rw [up_ne (by omega)] | rw [bl_ne (by omega)] | rw [pat_out (by omega)])); rw [up_at (by omega) (by omega), pat_in (by omega)]; exact s0_fo hkj (by decide) (o := 15) rfl (by omega)
    · (repeat (first | rw [up_ne (by omega)] | rw [bl_ne (by omega)] | rw [pat_out (by omega)])); rw [up_at (by omega) (by omega), pat_in (by omega)]; exact s0_fo hkj (by decide) (o := 16) rfl (by omega)
    · (repeat (first | rw [up_ne (by omega)] | rw [bl_ne (by omega)] | rw [pat_out (by omega)])); rw [up_at (by omega) (by omega), pat_in (by omega)]; exact s0_fo hkj (by decide) (o := 17) rfl (by omega)
    · (repeat (first | rw [up_ne (by omega)] | rw [bl_ne (by omega)] | rw [pat_out (by omega)])); rw [up_at (by omega) (by omega), pat_in (by omega)]; exact s0_fo hkj (by decide) (o := 18) rfl (by omega)
    · (repeat (first | rw [up_ne (by omega)] | rw [bl_ne (by omega)] | rw [pat_out (by omega)])); rw [up_at (by omega) (by omega), pat_in (by omega)]; exact s0_fo hkj (by decide) (o := 19) rfl (by omega)
    · (repeat (first | rw [up_ne (by omega)] | rw [bl_ne (by omega)] | rw [pat_out (by omega)])); rw [pat_in (by omega)]; exact s0_bl hkj (by decide) rfl (Or.inr rfl)
    · (repeat (first | rw [up_ne (by omega)] | rw [bl_ne (by omega)] | rw [pat_out (by omega)])); rw [up_at (by omega) (by omega), pat_in (by omega)]; exact s0_fo hkj (by decide) (o := 20) rfl (by omega)
    · (repeat (first | rw [up_ne (by omega)] | rw [bl_ne (by omega)] | rw [pat_out (by omega)])); rw [up_at (by omega) (by omega), pat_in (by omega)]; exact s0_fo hkj (by decide) (o := 21) rfl (by omega)
    · (repeat (first | rw [up_ne (by omega)] | rw [bl_ne (by omega)] | rw [pat_out (by omega)])); rw [up_at (by omega) (by omega), pat_in (by omega)]; exact s0_fo hkj (by decide) (o := 22) rfl (by omega)
    · (repeat (first | rw [up_ne (by omega)] | rw [bl_ne (by omega)] | rw [pat_out (by omega)])); rw [pat_in (by omega)]; exact s0_bl hkj (by decide) rfl (Or.inr rfl)
    · (repeat (first | rw [up_ne (by omega)] | rw [bl_ne (by omega)] | rw [pat_out (by omega)])); rw [up_at (by omega) (by omega), pat_in (by omega)]; exact s0_c hkj (by decide) rfl (by decide) rfl
    · (repeat (first | rw [up_ne (by omega)] | rw [bl_ne (by omega)] | rw [pat_out (by omega)])); rw [pat_in (by omega)]; exact s0_bl hkj (by decide) rfl (Or.inr rfl)
    · (repeat (first | rw [up_ne (by omega)] | rw [bl_ne (by omega)] | rw [pat_out (by omega)])); rw [pat_in (by omega)]; exact s0_bl hkj (by decide) rfl (Or.inr rfl)
    · (repeat (first | rw [up_ne (by omega)] | rw [bl_ne (by omega)] | rw [pat_out (by omega)])); rw [pat_in (by omega)]; exact s0_bl hkj (by decide) rfl (Or.inr rfl)
    · (repeat (first | rw [up_ne (by omega)] | rw [bl_ne (by omega)] | rw [pat_out (by omega)])); rw [up_at (by omega) (by omega), pat_in (by omega)]; exact s0_fo hkj (by decide) (o := 23) rfl (by omega)
    · (repeat (first | rw [up_ne (by omega)] | rw [bl_ne (by omega)] | rw [pat_out (by omega)])); rw [pat_in (by omega)]; exact s0_bl hkj (by decide) rfl (Or.inr rfl)
    · (repeat (first | rw [up_ne (by omega)] | rw [bl_ne (by omega)] | rw [pat_out (by omega)])); rw [pat_in (by omega)]; exact s0_bl hkj (by decide) rfl (Or.inr rfl)
    · (repeat (first | rw [up_ne (by omega)] | rw [bl_ne (by omega)] | rw [pat_out (by omega)])); rw [pat_in (by omega)]; exact s0_bl hkj (by decide) rfl (Or.inr rfl)
    · (repeat (first | rw [up_ne (by omega)] | rw [bl_ne (by omega)] | rw [pat_out (by omega)])); rw [pat_in (by omega)]; exact s0_bl hkj (by decide) rfl (Or.inr rfl)
    · (repeat (first | rw [up_ne (by omega)] | rw [bl_ne (by omega)] | rw [pat_out (by omega)])); rw [pat_in (by omega)]; exact s0_bl hkj (by decide) rfl (Or.inr rfl)
    · (repeat (first | rw [up_ne (by omega)] | rw [bl_ne (by omega)] | rw [pat_out (by omega)])); rw [up_at (by omega) (by omega), pat_in (by omega)]; exact s0_fo hkj (by decide) (o := 24) rfl (by omega)
    · (repeat (first | rw [up_ne (by omega)] | rw [bl_ne (by omega)] | rw [pat_out (by omega)])); rw [up_at (by omega) (by omega), pat_in (by omega)]; exact s0_fo hkj (by decide) (o := 25) rfl (by omega)
    · (repeat (first | rw [up_ne (by omega)] | rw [bl_ne (by omega)] | rw [pat_out (by omega)])); rw [up_at (by omega) (by omega), pat_in (by omega)]; exact s0_fo hkj (by decide) (o := 26) rfl (by omega)
    · (repeat (first | rw [up_ne (by omega)] | rw [bl_ne (by omega)] | rw [pat_out (by omega)])); rw [up_at (by omega) (by omega), pat_in (by omega)]; exact s0_fo hkj (by decide) (o := 27) rfl (by omega)
    · (repeat (first | rw [up_ne (by omega)] | rw [bl_ne (by omega)] | rw [pat_out (by omega)])); rw [up_at (by omega) (by omega), pat_in (by omega)]; exact s0_fo hkj (by decide) (o := 28) rfl (by omega)
    · (repeat (first | rw [up_ne (by omega)] | rw [bl_ne (by omega)] | rw [pat_out (by omega)])); rw [pat_in (by omega)]; exact s0_bl hkj (by decide) rfl (Or.inr rfl)
    · (repeat (first | rw [up_ne (by omega)] | rw [bl_ne (by omega)] | rw [pat_out (by omega)])); rw [pat_in (by omega)]; exact s0_bl hkj (by decide) rfl (Or.inr rfl)
    · (repeat (first | rw [up_ne (by omega)] | rw [bl_ne (by omega)] | rw [pat_out (by omega)])); rw [up_at (by omega) (by omega), pat_in (by omega)]; exact s0_fo hkj (by decide) (o := 29) rfl (by omega)
    · (repeat (first | rw [up_ne (by omega)] | rw [bl_ne (by omega)] | rw [pat_out (by omega)])); rw [up_at (by omega) (by omega), pat_in (by omega)]; exact s0_fo hkj (by decide) (o := 30) rfl (by omega)
    · (repeat (first | rw [up_ne (by omega)] | rw [bl_ne (by omega)] | rw [pat_out (by omega)])); rw [up_at (by omega) (by omega), pat_in (by omega)]; exact s0_fo hkj (by decide) (o := 31) rfl (by omega)
    · (repeat (first | rw [up_ne (by omega)] | rw [bl_ne (by omega)] | rw [pat_out (by omega)])); rw [pat_in (by omega)]; exact s0_bl hkj (by decide) rfl (Or.inl rfl)
    · (repeat (first | rw [up_ne (by omega)] | rw [bl_ne (by omega)] | rw [pat_out (by omega)])); rw [pat_in (by omega)]; exact s0_bl hkj (by decide) rfl (Or.inr rfl)
    · (repeat (first | rw [up_ne (by omega)] | rw [bl_ne (by omega)] | rw [pat_out (by omega)])); rw [up_at (by omega) (by omega), pat_in (by omega)]; exact s0_fo hkj (by decide) (o := 32) rfl (by omega)
    · (repeat (first | rw [up_ne (by omega)] | rw [bl_ne (by omega)] | rw [pat_out (by omega)])); rw [up_at (by omega) (by omega), pat_in (by omega)]; exact s0_fo hkj (by decide) (o := 33) rfl (by omega)
    · (repeat (first | rw [up_ne (by omega)] | rw [bl_ne (by omega)] | rw [pat_out (by omega)])); rw [up_at (by omega) (by omega), pat_in (by omega)]; exact s0_fo hkj (by decide) (o := 34) rfl (by omega)
    · (repeat (first | rw [up_ne (by omega)] | rw [bl_ne (by omega)] | rw [pat_out (by omega)])); rw [up_at (by omega) (by omega), pat_in (by omega)]; exact s0_fo hkj (by decide) (o := 35) rfl (by omega)
    · (repeat (first | rw [up_ne (by omega)] | rw [bl_ne (by omega)] | rw [pat_out (by omega)])); rw [pat_in (by omega)]; exact s0_bl hkj (by decide) rfl (Or.inr rfl)
  · subst q; (repeat (first | rw [up_ne (by omega)] | rw [bl_ne (by omega)] | rw [pat_out (by omega)])); rw [pat_in (by omega)]; exact bl_s0 (hk.at 1 rfl) (by decide) ⟨by omega, by omega, by omega⟩
  · subst q
    have hkj := (hk.at 2 rfl)
    rw [hkj] at hj; simp only at hj
    rcases (show j = 0 ∨ j = 1 ∨ j = 2 ∨ j = 3 by omega) with rfl | rfl | rfl | rfl
    · (repeat (first | rw [up_ne (by omega)] | rw [bl_ne (by omega)] | rw [pat_out (by omega)])); rw [up_at (by omega) (by omega), pat_in (by omega)]; exact s0_m1 (by omega)
    · (repeat (first | rw [up_ne (by omega)] | rw [bl_ne (by omega)] | rw [pat_out (by omega)])); rw [up_at (by omega) (by omega), pat_in (by omega)]; exact s0_m1 (by omega)
    · (repeat (first | rw [up_ne (by omega)] | rw [bl_ne (by omega)] | rw [pat_out (by omega)])); rw [up_at (by omega) (by omega), pat_in (by omega)]; exact s0_m1 (by omega)
    · (repeat (first | rw [up_ne (by omega)] | rw [bl_ne (by omega)] | rw [pat_out (by omega)])); rw [up_at (by omega) (by omega), pat_in (by omega)]; exact s0_m1 (by omega)
  · subst q; (repeat (first | rw [up_ne (by omega)] | rw [bl_ne (by omega)] | rw [pat_out (by omega)])); rw [pat_in (by omega)]; exact bl_s0 (hk.at 3 rfl) (by decide) ⟨by omega, by omega, by omega⟩
  · subst q; (repeat (first | rw [up_ne (by omega)] | rw [bl_ne (by omega)] | rw [pat_out (by omega)])); rw [pat_in (by omega)]; exact bl_s0 (hk.at 4 rfl) (by decide) ⟨by omega, by omega, by omega⟩
  · subst q
    have hkj := (hk.at 5 rfl)
    rw [hkj] at hj; simp only at hj
    rcases (show j = 0 ∨ j = 1 ∨ 2 ≤ j by omega) with rfl | rfl | q2
    · (repeat (first | rw [up_ne (by omega)] | rw [bl_ne (by omega)] | rw [pat_out (by omega)])); rw [up_at (by omega) (by omega), pat_in (by omega)]; exact s0_166 (by omega) (Or.inl ⟨rfl, rfl⟩)
    · (repeat (first | rw [up_ne (by omega)] | rw [bl_ne (by omega)] | rw [pat_out (by omega)])); rw [up_at (by omega) (by omega), pat_in (by omega)]; exact s0_166 (by omega) (Or.inr (Or.inl ⟨rfl, rfl⟩))
    · (repeat (first | rw [up_ne (by omega)] | rw [bl_ne (by omega)] | rw [pat_out (by omega)])); rw [pat_in (by omega), bl_arr hkj (by decide)]; exact s0_166 (by omega) (Or.inr (Or.inr ⟨by omega, rfl⟩))
  · subst q; (repeat (first | rw [up_ne (by omega)] | rw [bl_ne (by omega)] | rw [pat_out (by omega)])); rw [pat_in (by omega)]; exact bl_s0 (hk.at 6 rfl) (by decide) ⟨by omega, by omega, by omega⟩
  · subst q; (repeat (first | rw [up_ne (by omega)] | rw [bl_ne (by omega)] | rw [pat_out (by omega)])); rw [pat_in (by omega)]; exact bl_s0 (hk.at 7 rfl) (by decide) ⟨by omega, by omega, by omega⟩
  · subst q; (repeat (first | rw [up_ne (by omega)] | rw [bl_ne (by omega)] | rw [pat_out (by omega)])); rw [pat_in (by omega)]; exact bl_s0 (hk.at 8 rfl) (by decide) ⟨by omega, by omega, by omega⟩
  · subst q; (repeat (first | rw [up_ne (by omega)] | rw [bl_ne (by omega)] | rw [pat_out (by omega)])); rw [pat_in (by omega)]; exact bl_s0 (hk.at 9 rfl) (by decide) ⟨by omega, by omega, by omega⟩
  · subst q; (repeat (first | rw [up_ne (by omega)] | rw [bl_ne (by omega)] | rw [pat_out (by omega)])); rw [pat_in (by omega)]; exact bl_s0 (hk.at 10 rfl) (by decide) ⟨by omega, by omega, by omega⟩
  · subst q; (repeat (first | rw [up_ne (by omega)] | rw [bl_ne (by omega)] | rw [pat_out (by omega)])); rw [pat_in (by omega)]; exact bl_s0 (hk.at 11 rfl) (by decide) ⟨by omega, by omega, by omega⟩
  · subst q; (repeat (first | rw [up_ne (by omega)] | rw [bl_ne (by omega)] | rw [pat_out (by omega)])); rw [pat_in (by omega)]; exact bl_s0 (hk.at 12 rfl) (by decide) ⟨by omega, by omega, by omega⟩
  · subst q; (repeat (first | rw [up_ne (by omega)] | rw [bl_ne (by omega)] | rw [pat_out (by omega)])); rw [pat_in (by omega)]; exact bl_s0 (hk.at 13 rfl) (by decide) ⟨by omega, by omega, by omega⟩
  · subst q; (repeat (first | rw [up_ne (by omega)] | rw [bl_ne (by omega)] | rw [pat_out (by omega)])); rw [pat_in (by omega)]; exact bl_s0 (hk.at 14 rfl) (by decide) ⟨by omega, by omega, by omega⟩
  · subst q; (repeat (first | rw [up_ne (by omega)] | rw [bl_ne (by omega)] | rw [pat_out (by omega)])); rw [pat_in (by omega)]; exact bl_s0 (hk.at 15 rfl) (by decide) ⟨by omega, by omega, by omega⟩
  · subst q; (repeat (first | rw [up_ne (by omega)] | rw [bl_ne (by omega)] | rw [pat_out (by omega)])); rw [pat_in (by omega)]; exact bl_s0 (hk.at 16 rfl) (by decide) ⟨by omega, by omega, by omega⟩
  · subst q; (repeat (first | rw [up_ne (by omega)] | rw [bl_ne (by omega)] | rw [pat_out (by omega)])); rw [pat_in (by omega)]; exact bl_s0 (hk.at 17 rfl) (by decide) ⟨by omega, by omega, by omega⟩
  · subst q; (repeat (first | rw [up_ne (by omega)] | rw [bl_ne (by omega)] | rw [pat_out (by omega)])); rw [pat_in (by omega)]; exact bl_s0 (hk.at 18 rfl) (by decide) ⟨by omega, by omega, by omega⟩
  · subst q; (repeat (first | rw [up_ne (by omega)] | rw [bl_ne (by omega)] | rw [pat_out (by omega)])); rw [pat_in (by omega)]; exact bl_s0 (hk.at 19 rfl) (by decide) ⟨by omega, by omega, by omega⟩
  · subst q; (repeat (first | rw [up_ne (by omega)] | rw [bl_ne (by omega)] | rw [pat_out (by omega)])); rw [pat_in (by omega)]; exact bl_s0 (hk.at 20 rfl) (by decide) ⟨by omega, by omega, by omega⟩
  · subst q; (repeat (first | rw [up_ne (by omega)] | rw [bl_ne (by omega)] | rw [pat_out (by omega)])); rw [pat_in (by omega)]; exact bl_s0 (hk.at 21 rfl) (by decide) ⟨by omega, by omega, by omega⟩
  · subst q; (repeat (first | rw [up_ne (by omega)] | rw [bl_ne (by omega)] | rw [pat_out (by omega)])); rw [pat_in (by omega)]; exact bl_s0 (hk.at 22 rfl) (by decide) ⟨by omega, by omega, by omega⟩
  · subst q; (repeat (first | rw [up_ne (by omega)] | rw [bl_ne (by omega)] | rw [pat_out (by omega)])); rw [pat_in (by omega)]; exact bl_s0 (hk.at 23 rfl) (by decide) ⟨by omega, by omega, by omega⟩
  · subst q; (repeat (first | rw [up_ne (by omega)] | rw [bl_ne (by omega)] | rw [pat_out (by omega)])); rw [pat_in (by omega)]; exact bl_s0 (hk.at 24 rfl) (by decide) ⟨by omega, by omega, by omega⟩
  · subst q; (repeat (first | rw [up_ne (by omega)] | rw [bl_ne (by omega)] | rw [pat_out (by omega)])); rw [pat_in (by omega)]; exact bl_s0 (hk.at 25 rfl) (by decide) ⟨by omega, by omega, by omega⟩
  · subst q; (repeat (first | rw [up_ne (by omega)] | rw [bl_ne (by omega)] | rw [pat_out (by omega)])); rw [pat_in (by omega)]; exact bl_s0 (hk.at 26 rfl) (by decide) ⟨by omega, by omega, by omega⟩
  · subst q; (repeat (first | rw [up_ne (by omega)] | rw [bl_ne (by omega)] | rw [pat_out (by omega)])); rw [pat_in (by omega)]; exact bl_s0 (hk.at 27 rfl) (by decide) ⟨by omega, by omega, by omega⟩
  · subst q; (repeat (first | rw [up_ne (by omega)] | rw [bl_ne (by omega)] | rw [pat_out (by omega)])); rw [pat_in (by omega)]; exact bl_s0 (hk.at 28 rfl) (by decide) ⟨by omega, by omega, by omega⟩
  · subst q; (repeat (first | rw [up_ne (by omega)] | rw [bl_ne (by omega)] | rw [pat_out (by omega)])); rw [pat_in (by omega)]; exact bl_s0 (hk.at 29 rfl) (by decide) ⟨by omega, by omega, by omega⟩
  · subst q; (repeat (first | rw [up_ne (by omega)] | rw [bl_ne (by omega)] | rw [pat_out (by omega)])); rw [pat_in (by omega)]; exact bl_s0 (hk.at 30 rfl) (by decide) ⟨by omega, by omega, by omega⟩
  · subst q; (repeat (first | rw [up_ne (by omega)] | rw [bl_ne (by omega)] | rw [pat_out (by omega)])); rw [pat_in (by omega)]; exact bl_s0 (hk.at 31 rfl) (by decide) ⟨by omega, by omega, by omega⟩
  · subst q; (repeat (first | rw [up_ne (by omega)] | rw [bl_ne (by omega)] | rw [pat_out (by omega)])); rw [pat_in (by omega)]; exact bl_s0 (hk.at 32 rfl) (by decide) ⟨by omega, by omega, by omega⟩
  · subst q; (repeat (first | rw [up_ne (by omega)] | rw [bl_ne (by omega)] | rw [pat_out (by omega)])); rw [pat_in (by omega)]; exact bl_s0 (hk.at 33 rfl) (by decide) ⟨by omega, by omega, by omega⟩
  · subst q; (repeat (first | rw [up_ne (by omega)] | rw [bl_ne (by omega)] | rw [pat_out (by omega)])); rw [pat_in (by omega)]; exact bl_s0 (hk.at 34 rfl) (by decide) ⟨by omega, by omega, by omega⟩
  · subst q; (repeat (first | rw [up_ne (by omega)] | rw [bl_ne (by omega)] | rw [pat_out (by omega)])); rw [pat_in (by omega)]; exact bl_s0 (hk.at 35 rfl) (by decide) ⟨by omega, by omega, by omega⟩
