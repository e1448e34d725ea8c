theorem dR_turnsBack_0 : decode prog_14_method_148_code 0 = .ok (.aload_n 0, 1) := by decide +kernel
theorem dR_turnsBack_1 : decode prog_14_method_148_code 1 = .ok (.aload_n 0, 1) := by decide +kernel
theorem dR_turnsBack_2 : decode prog_14_method_148_code 2 = .ok (.getfield 119, 3) := by decide +kernel
theorem dR_turnsBack_5 : decode prog_14_method_148_code 5 = .ok (.aload_n 0, 1) := by decide +kernel
theorem dR_turnsBack_6 : decode prog_14_method_148_code 6 = .ok (.getfield 110, 3) := by decide +kernel
theorem dR_turnsBack_9 : decode prog_14_method_148_code 9 = .ok (.invokevirtual 394, 3) := by decide +kernel
theorem dR_turnsBack_12 : decode prog_14_method_148_code 12 = .ok (.aload_n 0, 1) := by decide +kernel
theorem dR_turnsBack_13 : decode prog_14_method_148_code 13 = .ok (.aload_n 0, 1) := by decide +kernel
theorem dR_turnsBack_14 : decode prog_14_method_148_code 14 = .ok (.getfield 122, 3) := by decide +kernel
theorem dR_turnsBack_17 : decode prog_14_method_148_code 17 = .ok (.invokevirtual 398, 3) := by decide +kernel
theorem dR_turnsBack_20 : decode prog_14_method_148_code 20 = .ok (.pop, 1) := by decide +kernel
theorem dR_turnsBack_21 : decode prog_14_method_148_code 21 = .ok (.iconst 0, 1) := by decide +kernel
theorem dR_turnsBack_22 : decode prog_14_method_148_code 22 = .ok (.istore_n 1, 1) := by decide +kernel
theorem dR_turnsBack_23 : decode prog_14_method_148_code 23 = .ok (.iload_n 1, 1) := by decide +kernel
theorem dR_turnsBack_24 : decode prog_14_method_148_code 24 = .ok (.aload_n 0, 1) := by decide +kernel
theorem dR_turnsBack_25 : decode prog_14_method_148_code 25 = .ok (.getfield 253, 3) := by decide +kernel
theorem dR_turnsBack_28 : decode prog_14_method_148_code 28 = .ok (.if_icmp .ge 315, 3) := by decide +kernel
theorem dR_turnsBack_31 : decode prog_14_method_148_code 31 = .ok (.iload_n 1, 1) := by decide +kernel
theorem dR_turnsBack_32 : decode prog_14_method_148_code 32 = .ok (.istore_n 2, 1) := by decide +kernel
theorem dR_turnsBack_33 : decode prog_14_method_148_code 33 = .ok (.iload_n 2, 1) := by decide +kernel
theorem dR_turnsBack_34 : decode prog_14_method_148_code 34 = .ok (.aload_n 0, 1) := by decide +kernel
theorem dR_turnsBack_35 : decode prog_14_method_148_code 35 = .ok (.getfield 253, 3) := by decide +kernel
theorem dR_turnsBack_38 : decode prog_14_method_148_code 38 = .ok (.if_icmp .ge 22, 3) := by decide +kernel
theorem dR_turnsBack_41 : decode prog_14_method_148_code 41 = .ok (.aload_n 0, 1) := by decide +kernel
theorem dR_turnsBack_42 : decode prog_14_method_148_code 42 = .ok (.getfield 110, 3) := by decide +kernel
theorem dR_turnsBack_45 : decode prog_14_method_148_code 45 = .ok (.iconst 5, 1) := by decide +kernel
theorem dR_turnsBack_46 : decode prog_14_method_148_code 46 = .ok (.iload_n 2, 1) := by decide +kernel
theorem dR_turnsBack_47 : decode prog_14_method_148_code 47 = .ok (.imul, 1) := by decide +kernel
theorem dR_turnsBack_48 : decode prog_14_method_148_code 48 = .ok (.iload_n 1, 1) := by decide +kernel
theorem dR_turnsBack_49 : decode prog_14_method_148_code 49 = .ok (.iadd, 1) := by decide +kernel
theorem dR_turnsBack_50 : decode prog_14_method_148_code 50 = .ok (.iaload, 1) := by decide +kernel
theorem dR_turnsBack_51 : decode prog_14_method_148_code 51 = .ok (.ifCond .ne 9, 3) := by decide +kernel
theorem dR_turnsBack_54 : decode prog_14_method_148_code 54 = .ok (.iinc 2 1, 3) := by decide +kernel
theorem dR_turnsBack_57 : decode prog_14_method_148_code 57 = .ok (.goto (-24), 3) := by decide +kernel
theorem dR_turnsBack_60 : decode prog_14_method_148_code 60 = .ok (.iload_n 2, 1) := by decide +kernel
theorem dR_turnsBack_61 : decode prog_14_method_148_code 61 = .ok (.aload_n 0, 1) := by decide +kernel
theorem dR_turnsBack_62 : decode prog_14_method_148_code 62 = .ok (.getfield 253, 3) := by decide +kernel
theorem dR_turnsBack_65 : decode prog_14_method_148_code 65 = .ok (.if_icmp .ne 5, 3) := by decide +kernel
theorem dR_turnsBack_68 : decode prog_14_method_148_code 68 = .ok (.iconst 0, 1) := by decide +kernel
theorem dR_turnsBack_69 : decode prog_14_method_148_code 69 = .ok (.ireturn, 1) := by decide +kernel
theorem dR_turnsBack_70 : decode prog_14_method_148_code 70 = .ok (.aload_n 0, 1) := by decide +kernel
theorem dR_turnsBack_71 : decode prog_14_method_148_code 71 = .ok (.aload_n 0, 1) := by decide +kernel
theorem dR_turnsBack_72 : decode prog_14_method_148_code 72 = .ok (.getfield 110, 3) := by decide +kernel
theorem dR_turnsBack_75 : decode prog_14_method_148_code 75 = .ok (.iload_n 2, 1) := by decide +kernel
theorem dR_turnsBack_76 : decode prog_14_method_148_code 76 = .ok (.iload_n 1, 1) := by decide +kernel
theorem dR_turnsBack_77 : decode prog_14_method_148_code 77 = .ok (.invokevirtual 579, 3) := by decide +kernel
theorem dR_turnsBack_80 : decode prog_14_method_148_code 80 = .ok (.aload_n 0, 1) := by decide +kernel
theorem dR_turnsBack_81 : decode prog_14_method_148_code 81 = .ok (.aload_n 0, 1) := by decide +kernel
theorem dR_turnsBack_82 : decode prog_14_method_148_code 82 = .ok (.getfield 122, 3) := by decide +kernel
theorem dR_turnsBack_85 : decode prog_14_method_148_code 85 = .ok (.iload_n 2, 1) := by decide +kernel
theorem dR_turnsBack_86 : decode prog_14_method_148_code 86 = .ok (.iload_n 1, 1) := by decide +kernel
theorem dR_turnsBack_87 : decode prog_14_method_148_code 87 = .ok (.invokevirtual 579, 3) := by decide +kernel
theorem dR_turnsBack_90 : decode prog_14_method_148_code 90 = .ok (.aload_n 0, 1) := by decide +kernel
theorem dR_turnsBack_91 : decode prog_14_method_148_code 91 = .ok (.aload_n 0, 1) := by decide +kernel
theorem dR_turnsBack_92 : decode prog_14_method_148_code 92 = .ok (.getfield 110, 3) := by decide +kernel
theorem dR_turnsBack_95 : decode prog_14_method_148_code 95 = .ok (.iconst 5, 1) := by decide +kernel
theorem dR_turnsBack_96 : decode prog_14_method_148_code 96 = .ok (.iload_n 1, 1) := by decide +kernel
theorem dR_turnsBack_97 : decode prog_14_method_148_code 97 = .ok (.imul, 1) := by decide +kernel
theorem dR_turnsBack_98 : decode prog_14_method_148_code 98 = .ok (.iload_n 1, 1) := by decide +kernel
theorem dR_turnsBack_99 : decode prog_14_method_148_code 99 = .ok (.iadd, 1) := by decide +kernel
theorem dR_turnsBack_100 : decode prog_14_method_148_code 100 = .ok (.iaload, 1) := by decide +kernel
theorem dR_turnsBack_101 : decode prog_14_method_148_code 101 = .ok (.invokevirtual 337, 3) := by decide +kernel
theorem dR_turnsBack_104 : decode prog_14_method_148_code 104 = .ok (.istore_n 3, 1) := by decide +kernel
theorem dR_turnsBack_105 : decode prog_14_method_148_code 105 = .ok (.iconst 0, 1) := by decide +kernel
theorem dR_turnsBack_106 : decode prog_14_method_148_code 106 = .ok (.istore 4, 2) := by decide +kernel
theorem dR_turnsBack_108 : decode prog_14_method_148_code 108 = .ok (.iload 4, 2) := by decide +kernel
theorem dR_turnsBack_110 : decode prog_14_method_148_code 110 = .ok (.aload_n 0, 1) := by decide +kernel
theorem dR_turnsBack_111 : decode prog_14_method_148_code 111 = .ok (.getfield 253, 3) := by decide +kernel
theorem dR_turnsBack_114 : decode prog_14_method_148_code 114 = .ok (.if_icmp .ge 67, 3) := by decide +kernel
theorem dR_turnsBack_117 : decode prog_14_method_148_code 117 = .ok (.aload_n 0, 1) := by decide +kernel
theorem dR_turnsBack_118 : decode prog_14_method_148_code 118 = .ok (.getfield 110, 3) := by decide +kernel
theorem dR_turnsBack_121 : decode prog_14_method_148_code 121 = .ok (.iconst 5, 1) := by decide +kernel
theorem dR_turnsBack_122 : decode prog_14_method_148_code 122 = .ok (.iload_n 1, 1) := by decide +kernel
theorem dR_turnsBack_123 : decode prog_14_method_148_code 123 = .ok (.imul, 1) := by decide +kernel
theorem dR_turnsBack_124 : decode prog_14_method_148_code 124 = .ok (.iload 4, 2) := by decide +kernel
theorem dR_turnsBack_126 : decode prog_14_method_148_code 126 = .ok (.iadd, 1) := by decide +kernel
theorem dR_turnsBack_127 : decode prog_14_method_148_code 127 = .ok (.aload_n 0, 1) := by decide +kernel
theorem dR_turnsBack_128 : decode prog_14_method_148_code 128 = .ok (.getfield 110, 3) := by decide +kernel
theorem dR_turnsBack_131 : decode prog_14_method_148_code 131 = .ok (.iconst 5, 1) := by decide +kernel
theorem dR_turnsBack_132 : decode prog_14_method_148_code 132 = .ok (.iload_n 1, 1) := by decide +kernel
theorem dR_turnsBack_133 : decode prog_14_method_148_code 133 = .ok (.imul, 1) := by decide +kernel
theorem dR_turnsBack_134 : decode prog_14_method_148_code 134 = .ok (.iload 4, 2) := by decide +kernel
theorem dR_turnsBack_136 : decode prog_14_method_148_code 136 = .ok (.iadd, 1) := by decide +kernel
theorem dR_turnsBack_137 : decode prog_14_method_148_code 137 = .ok (.iaload, 1) := by decide +kernel
theorem dR_turnsBack_138 : decode prog_14_method_148_code 138 = .ok (.iload_n 3, 1) := by decide +kernel
theorem dR_turnsBack_139 : decode prog_14_method_148_code 139 = .ok (.imul, 1) := by decide +kernel
theorem dR_turnsBack_140 : decode prog_14_method_148_code 140 = .ok (.aload_n 0, 1) := by decide +kernel
theorem dR_turnsBack_141 : decode prog_14_method_148_code 141 = .ok (.getfield 250, 3) := by decide +kernel
theorem dR_turnsBack_144 : decode prog_14_method_148_code 144 = .ok (.irem, 1) := by decide +kernel
theorem dR_turnsBack_145 : decode prog_14_method_148_code 145 = .ok (.iastore, 1) := by decide +kernel
theorem dR_turnsBack_146 : decode prog_14_method_148_code 146 = .ok (.aload_n 0, 1) := by decide +kernel
theorem dR_turnsBack_147 : decode prog_14_method_148_code 147 = .ok (.getfield 122, 3) := by decide +kernel
theorem dR_turnsBack_150 : decode prog_14_method_148_code 150 = .ok (.iconst 5, 1) := by decide +kernel
theorem dR_turnsBack_151 : decode prog_14_method_148_code 151 = .ok (.iload_n 1, 1) := by decide +kernel
theorem dR_turnsBack_152 : decode prog_14_method_148_code 152 = .ok (.imul, 1) := by decide +kernel
theorem dR_turnsBack_153 : decode prog_14_method_148_code 153 = .ok (.iload 4, 2) := by decide +kernel
theorem dR_turnsBack_155 : decode prog_14_method_148_code 155 = .ok (.iadd, 1) := by decide +kernel
theorem dR_turnsBack_156 : decode prog_14_method_148_code 156 = .ok (.aload_n 0, 1) := by decide +kernel
theorem dR_turnsBack_157 : decode prog_14_method_148_code 157 = .ok (.getfield 122, 3) := by decide +kernel
theorem dR_turnsBack_160 : decode prog_14_method_148_code 160 = .ok (.iconst 5, 1) := by decide +kernel
theorem dR_turnsBack_161 : decode prog_14_method_148_code 161 = .ok (.iload_n 1, 1) := by decide +kernel
theorem dR_turnsBack_162 : decode prog_14_method_148_code 162 = .ok (.imul, 1) := by decide +kernel
theorem dR_turnsBack_163 : decode prog_14_method_148_code 163 = .ok (.iload 4, 2) := by decide +kernel
theorem dR_turnsBack_165 : decode prog_14_method_148_code 165 = .ok (.iadd, 1) := by decide +kernel
theorem dR_turnsBack_166 : decode prog_14_method_148_code 166 = .ok (.iaload, 1) := by decide +kernel
theorem dR_turnsBack_167 : decode prog_14_method_148_code 167 = .ok (.iload_n 3, 1) := by decide +kernel
theorem dR_turnsBack_168 : decode prog_14_method_148_code 168 = .ok (.imul, 1) := by decide +kernel
theorem dR_turnsBack_169 : decode prog_14_method_148_code 169 = .ok (.aload_n 0, 1) := by decide +kernel
theorem dR_turnsBack_170 : decode prog_14_method_148_code 170 = .ok (.getfield 250, 3) := by decide +kernel
theorem dR_turnsBack_173 : decode prog_14_method_148_code 173 = .ok (.irem, 1) := by decide +kernel
theorem dR_turnsBack_174 : decode prog_14_method_148_code 174 = .ok (.iastore, 1) := by decide +kernel
theorem dR_turnsBack_175 : decode prog_14_method_148_code 175 = .ok (.iinc 4 1, 3) := by decide +kernel
theorem dR_turnsBack_178 : decode prog_14_method_148_code 178 = .ok (.goto (-70), 3) := by decide +kernel
theorem dR_turnsBack_181 : decode prog_14_method_148_code 181 = .ok (.iconst 0, 1) := by decide +kernel
theorem dR_turnsBack_182 : decode prog_14_method_148_code 182 = .ok (.istore 4, 2) := by decide +kernel
theorem dR_turnsBack_184 : decode prog_14_method_148_code 184 = .ok (.iload 4, 2) := by decide +kernel
theorem dR_turnsBack_186 : decode prog_14_method_148_code 186 = .ok (.aload_n 0, 1) := by decide +kernel
theorem dR_turnsBack_187 : decode prog_14_method_148_code 187 = .ok (.getfield 253, 3) := by decide +kernel
theorem dR_turnsBack_190 : decode prog_14_method_148_code 190 = .ok (.if_icmp .ge 147, 3) := by decide +kernel
theorem dR_turnsBack_193 : decode prog_14_method_148_code 193 = .ok (.iload 4, 2) := by decide +kernel
theorem dR_turnsBack_195 : decode prog_14_method_148_code 195 = .ok (.iload_n 1, 1) := by decide +kernel
theorem dR_turnsBack_196 : decode prog_14_method_148_code 196 = .ok (.if_icmp .ne 7, 3) := by decide +kernel
theorem dR_turnsBack_199 : decode prog_14_method_148_code 199 = .ok (.iconst 0, 1) := by decide +kernel
theorem dR_turnsBack_200 : decode prog_14_method_148_code 200 = .ok (.goto 14, 3) := by decide +kernel
theorem dR_turnsBack_203 : decode prog_14_method_148_code 203 = .ok (.aload_n 0, 1) := by decide +kernel
theorem dR_turnsBack_204 : decode prog_14_method_148_code 204 = .ok (.getfield 110, 3) := by decide +kernel
theorem dR_turnsBack_207 : decode prog_14_method_148_code 207 = .ok (.iconst 5, 1) := by decide +kernel
theorem dR_turnsBack_208 : decode prog_14_method_148_code 208 = .ok (.iload 4, 2) := by decide +kernel
theorem dR_turnsBack_210 : decode prog_14_method_148_code 210 = .ok (.imul, 1) := by decide +kernel
theorem dR_turnsBack_211 : decode prog_14_method_148_code 211 = .ok (.iload_n 1, 1) := by decide +kernel
theorem dR_turnsBack_212 : decode prog_14_method_148_code 212 = .ok (.iadd, 1) := by decide +kernel
theorem dR_turnsBack_213 : decode prog_14_method_148_code 213 = .ok (.iaload, 1) := by decide +kernel
theorem dR_turnsBack_214 : decode prog_14_method_148_code 214 = .ok (.istore 5, 2) := by decide +kernel
theorem dR_turnsBack_216 : decode prog_14_method_148_code 216 = .ok (.iconst 0, 1) := by decide +kernel
theorem dR_turnsBack_217 : decode prog_14_method_148_code 217 = .ok (.istore 6, 2) := by decide +kernel
theorem dR_turnsBack_219 : decode prog_14_method_148_code 219 = .ok (.iload 6, 2) := by decide +kernel
theorem dR_turnsBack_221 : decode prog_14_method_148_code 221 = .ok (.aload_n 0, 1) := by decide +kernel
theorem dR_turnsBack_222 : decode prog_14_method_148_code 222 = .ok (.getfield 253, 3) := by decide +kernel
theorem dR_turnsBack_225 : decode prog_14_method_148_code 225 = .ok (.if_icmp .ge 106, 3) := by decide +kernel
theorem dR_turnsBack_228 : decode prog_14_method_148_code 228 = .ok (.iload 5, 2) := by decide +kernel
theorem dR_turnsBack_230 : decode prog_14_method_148_code 230 = .ok (.ifCond .eq 101, 3) := by decide +kernel
theorem dR_turnsBack_233 : decode prog_14_method_148_code 233 = .ok (.aload_n 0, 1) := by decide +kernel
theorem dR_turnsBack_234 : decode prog_14_method_148_code 234 = .ok (.getfield 110, 3) := by decide +kernel
theorem dR_turnsBack_237 : decode prog_14_method_148_code 237 = .ok (.iconst 5, 1) := by decide +kernel
theorem dR_turnsBack_238 : decode prog_14_method_148_code 238 = .ok (.iload 4, 2) := by decide +kernel
theorem dR_turnsBack_240 : decode prog_14_method_148_code 240 = .ok (.imul, 1) := by decide +kernel
theorem dR_turnsBack_241 : decode prog_14_method_148_code 241 = .ok (.iload 6, 2) := by decide +kernel
theorem dR_turnsBack_243 : decode prog_14_method_148_code 243 = .ok (.iadd, 1) := by decide +kernel
theorem dR_turnsBack_244 : decode prog_14_method_148_code 244 = .ok (.aload_n 0, 1) := by decide +kernel
theorem dR_turnsBack_245 : decode prog_14_method_148_code 245 = .ok (.getfield 110, 3) := by decide +kernel
theorem dR_turnsBack_248 : decode prog_14_method_148_code 248 = .ok (.iconst 5, 1) := by decide +kernel
theorem dR_turnsBack_249 : decode prog_14_method_148_code 249 = .ok (.iload 4, 2) := by decide +kernel
theorem dR_turnsBack_251 : decode prog_14_method_148_code 251 = .ok (.imul, 1) := by decide +kernel
theorem dR_turnsBack_252 : decode prog_14_method_148_code 252 = .ok (.iload 6, 2) := by decide +kernel
theorem dR_turnsBack_254 : decode prog_14_method_148_code 254 = .ok (.iadd, 1) := by decide +kernel
theorem dR_turnsBack_255 : decode prog_14_method_148_code 255 = .ok (.iaload, 1) := by decide +kernel
theorem dR_turnsBack_256 : decode prog_14_method_148_code 256 = .ok (.iload 5, 2) := by decide +kernel
theorem dR_turnsBack_258 : decode prog_14_method_148_code 258 = .ok (.aload_n 0, 1) := by decide +kernel
theorem dR_turnsBack_259 : decode prog_14_method_148_code 259 = .ok (.getfield 110, 3) := by decide +kernel
theorem dR_turnsBack_262 : decode prog_14_method_148_code 262 = .ok (.iconst 5, 1) := by decide +kernel
theorem dR_turnsBack_263 : decode prog_14_method_148_code 263 = .ok (.iload_n 1, 1) := by decide +kernel
theorem dR_turnsBack_264 : decode prog_14_method_148_code 264 = .ok (.imul, 1) := by decide +kernel
theorem dR_turnsBack_265 : decode prog_14_method_148_code 265 = .ok (.iload 6, 2) := by decide +kernel
theorem dR_turnsBack_267 : decode prog_14_method_148_code 267 = .ok (.iadd, 1) := by decide +kernel
theorem dR_turnsBack_268 : decode prog_14_method_148_code 268 = .ok (.iaload, 1) := by decide +kernel
theorem dR_turnsBack_269 : decode prog_14_method_148_code 269 = .ok (.imul, 1) := by decide +kernel
theorem dR_turnsBack_270 : decode prog_14_method_148_code 270 = .ok (.isub, 1) := by decide +kernel
theorem dR_turnsBack_271 : decode prog_14_method_148_code 271 = .ok (.aload_n 0, 1) := by decide +kernel
theorem dR_turnsBack_272 : decode prog_14_method_148_code 272 = .ok (.getfield 250, 3) := by decide +kernel
theorem dR_turnsBack_275 : decode prog_14_method_148_code 275 = .ok (.invokestatic 264, 3) := by decide +kernel
theorem dR_turnsBack_278 : decode prog_14_method_148_code 278 = .ok (.iastore, 1) := by decide +kernel
theorem dR_turnsBack_279 : decode prog_14_method_148_code 279 = .ok (.aload_n 0, 1) := by decide +kernel
theorem dR_turnsBack_280 : decode prog_14_method_148_code 280 = .ok (.getfield 122, 3) := by decide +kernel
theorem dR_turnsBack_283 : decode prog_14_method_148_code 283 = .ok (.iconst 5, 1) := by decide +kernel
theorem dR_turnsBack_284 : decode prog_14_method_148_code 284 = .ok (.iload 4, 2) := by decide +kernel
theorem dR_turnsBack_286 : decode prog_14_method_148_code 286 = .ok (.imul, 1) := by decide +kernel
theorem dR_turnsBack_287 : decode prog_14_method_148_code 287 = .ok (.iload 6, 2) := by decide +kernel
theorem dR_turnsBack_289 : decode prog_14_method_148_code 289 = .ok (.iadd, 1) := by decide +kernel
theorem dR_turnsBack_290 : decode prog_14_method_148_code 290 = .ok (.aload_n 0, 1) := by decide +kernel
theorem dR_turnsBack_291 : decode prog_14_method_148_code 291 = .ok (.getfield 122, 3) := by decide +kernel
theorem dR_turnsBack_294 : decode prog_14_method_148_code 294 = .ok (.iconst 5, 1) := by decide +kernel
theorem dR_turnsBack_295 : decode prog_14_method_148_code 295 = .ok (.iload 4, 2) := by decide +kernel
theorem dR_turnsBack_297 : decode prog_14_method_148_code 297 = .ok (.imul, 1) := by decide +kernel
theorem dR_turnsBack_298 : decode prog_14_method_148_code 298 = .ok (.iload 6, 2) := by decide +kernel
theorem dR_turnsBack_300 : decode prog_14_method_148_code 300 = .ok (.iadd, 1) := by decide +kernel
theorem dR_turnsBack_301 : decode prog_14_method_148_code 301 = .ok (.iaload, 1) := by decide +kernel
theorem dR_turnsBack_302 : decode prog_14_method_148_code 302 = .ok (.iload 5, 2) := by decide +kernel
theorem dR_turnsBack_304 : decode prog_14_method_148_code 304 = .ok (.aload_n 0, 1) := by decide +kernel
theorem dR_turnsBack_305 : decode prog_14_method_148_code 305 = .ok (.getfield 122, 3) := by decide +kernel
theorem dR_turnsBack_308 : decode prog_14_method_148_code 308 = .ok (.iconst 5, 1) := by decide +kernel
theorem dR_turnsBack_309 : decode prog_14_method_148_code 309 = .ok (.iload_n 1, 1) := by decide +kernel
theorem dR_turnsBack_310 : decode prog_14_method_148_code 310 = .ok (.imul, 1) := by decide +kernel
theorem dR_turnsBack_311 : decode prog_14_method_148_code 311 = .ok (.iload 6, 2) := by decide +kernel
theorem dR_turnsBack_313 : decode prog_14_method_148_code 313 = .ok (.iadd, 1) := by decide +kernel
theorem dR_turnsBack_314 : decode prog_14_method_148_code 314 = .ok (.iaload, 1) := by decide +kernel
theorem dR_turnsBack_315 : decode prog_14_method_148_code 315 = .ok (.imul, 1) := by decide +kernel
theorem dR_turnsBack_316 : decode prog_14_method_148_code 316 = .ok (.isub, 1) := by decide +kernel
theorem dR_turnsBack_317 : decode prog_14_method_148_code 317 = .ok (.aload_n 0, 1) := by decide +kernel
theorem dR_turnsBack_318 : decode prog_14_method_148_code 318 = .ok (.getfield 250, 3) := by decide +kernel
theorem dR_turnsBack_321 : decode prog_14_method_148_code 321 = .ok (.invokestatic 264, 3) := by decide +kernel
theorem dR_turnsBack_324 : decode prog_14_method_148_code 324 = .ok (.iastore, 1) := by decide +kernel
theorem dR_turnsBack_325 : decode prog_14_method_148_code 325 = .ok (.iinc 6 1, 3) := by decide +kernel
theorem dR_turnsBack_328 : decode prog_14_method_148_code 328 = .ok (.goto (-109), 3) := by decide +kernel
theorem dR_turnsBack_331 : decode prog_14_method_148_code 331 = .ok (.iinc 4 1, 3) := by decide +kernel
theorem dR_turnsBack_334 : decode prog_14_method_148_code 334 = .ok (.goto (-150), 3) := by decide +kernel
theorem dR_turnsBack_337 : decode prog_14_method_148_code 337 = .ok (.iinc 1 1, 3) := by decide +kernel
theorem dR_turnsBack_340 : decode prog_14_method_148_code 340 = .ok (.goto (-317), 3) := by decide +kernel
theorem dR_turnsBack_343 : decode prog_14_method_148_code 343 = .ok (.iconst 1, 1) := by decide +kernel
theorem dR_turnsBack_344 : decode prog_14_method_148_code 344 = .ok (.ireturn, 1) := by decide +kernel
theorem t_R_turnsBack {d : Nat} {σ : SG} {Q : Int → SG → Prop} (h : Tri d M_R_copySpan [vA 161, vA 193, vA 190] σ (fun r1 σ1 => Tri d M_R_wholeSpan [vA 161, vA 194] σ1 (fun r2 σ2 => L (d + 1) M_R_turnsBack 23 [vA 161, vI 0, vU, vU, vU, vU, vU] [] σ2 Q))) : Tri (d + 1) M_R_turnsBack [vA 161] σ Q :=
  Tri_intro rfl (Nat.le_of_ble_eq_true rfl) (ls := [vA 161, vU, vU, vU, vU, vU, vU]) rfl (fun hok => L_aload_n dR_turnsBack_0 rfl (L_aload_n dR_turnsBack_1 rfl (L_getF (b := 193) fw_R_119 rfl rfl (by decide) dR_turnsBack_2 ⟨ob_161, L_aload_n dR_turnsBack_5 rfl (L_getF (b := 190) fw_R_110 rfl rfl (by decide) dR_turnsBack_6 ⟨ob_161, L_callVV rfl cv_R_copySpan (As := [vA 193, vA 190]) rfl (tk9 2 rfl rfl) rfl (Nat.le_of_ble_eq_true rfl) dR_turnsBack_9 ⟨ob_161, Tri.mono (h) (fun r1 σ1 q1 => L_aload_n dR_turnsBack_12 rfl (L_aload_n dR_turnsBack_13 rfl (L_getF (b := 194) fw_R_122 rfl rfl (by decide) dR_turnsBack_14 ⟨ob_161, L_callVI rfl cv_R_wholeSpan (As := [vA 194]) rfl (tk9 6 rfl rfl) rfl (Nat.le_of_ble_eq_true rfl) dR_turnsBack_17 ⟨ob_161, Tri.mono q1 (fun r2 σ2 q2 => L_pop dR_turnsBack_20 n01 (L_iconst dR_turnsBack_21 in_0 (L_istore_n dR_turnsBack_22 (by decide) q2)))⟩⟩)))⟩⟩)⟩)))
theorem s_R_turnsBack_23 {d : Nat} {x1 : Int} {σ : SG} {Q : Int → SG → Prop} (h : (σ 161 27 ≤ x1 → Q 1 σ) ∧ (x1 < σ 161 27 → L (d + 1) M_R_turnsBack 33 [vA 161, vI x1, vI x1, vU, vU, vU, vU] [] σ Q)) : L (d + 1) M_R_turnsBack 23 [vA 161, vI x1, vU, vU, vU, vU, vU] [] σ Q :=
  L_iload_n dR_turnsBack_23 rfl (L_aload_n dR_turnsBack_24 rfl (L_getf fw_R_253 rfl dR_turnsBack_25 ⟨ob_161, L_icmp_ge dR_turnsBack_28 (by decide) ⟨fun c1 => L_iconst dR_turnsBack_343 in_1 (L_zreturn1 rfl dR_turnsBack_344 (h.1 c1)), fun c1 => L_iload_n dR_turnsBack_31 rfl (L_istore_n dR_turnsBack_32 (by decide) (h.2 c1))⟩⟩))
theorem s_R_turnsBack_33 {d : Nat} {x1 x2 : Int} {σ : SG} {Q : Int → SG → Prop} (h : (σ 161 27 ≤ x2 → L (d + 1) M_R_turnsBack 60 [vA 161, vI x1, vI x2, vU, vU, vU, vU] [] σ Q) ∧ (x2 < σ 161 27 → (0 ≤ w32 ((w32 (5 * x2)) + x1) ∧ w32 ((w32 (5 * x2)) + x1) < 25) ∧ (σ 190 (w32 ((w32 (5 * x2)) + x1)) ≠ 0 → L (d + 1) M_R_turnsBack 60 [vA 161, vI x1, vI x2, vU, vU, vU, vU] [] σ Q) ∧ (σ 190 (w32 ((w32 (5 * x2)) + x1)) = 0 → L (d + 1) M_R_turnsBack 33 [vA 161, vI x1, vI (w32 (x2 + 1)), vU, vU, vU, vU] [] σ Q))) : L (d + 1) M_R_turnsBack 33 [vA 161, vI x1, vI x2, vU, vU, vU, vU] [] σ Q :=
  L_iload_n dR_turnsBack_33 rfl (L_aload_n dR_turnsBack_34 rfl (L_getf fw_R_253 rfl dR_turnsBack_35 ⟨ob_161, L_icmp_ge dR_turnsBack_38 (by decide) ⟨fun c1 => (h.1 c1), fun c1 => L_aload_n dR_turnsBack_41 rfl (L_getF (b := 190) fw_R_110 rfl rfl (by decide) dR_turnsBack_42 ⟨ob_161, L_iconst dR_turnsBack_45 in_5 (L_iload_n dR_turnsBack_46 rfl (L_imul dR_turnsBack_47 (L_iload_n dR_turnsBack_48 rfl (L_iadd dR_turnsBack_49 (L_ialoadL kd_190 dR_turnsBack_50 ⟨(h.2 c1).1, L_if_ne dR_turnsBack_51 (by decide) ⟨fun c2 => ((h.2 c1).2.1 c2), fun c2 => L_iinc dR_turnsBack_54 rfl (by decide) (L_goto dR_turnsBack_57 (by decide) ((h.2 c1).2.2 c2))⟩⟩)))))⟩)⟩⟩))
theorem s_R_turnsBack_60 {d : Nat} {x1 x2 : Int} {σ : SG} {Q : Int → SG → Prop} (h : (x2 ≠ σ 161 27 → Tri d M_R_exchange [vA 161, vA 190, vI x2, vI x1] σ (fun r2 σ2 => Tri d M_R_exchange [vA 161, vA 194, vI x2, vI x1] σ2 (fun r3 σ3 => (0 ≤ w32 ((w32 (5 * x1)) + x1) ∧ w32 ((w32 (5 * x1)) + x1) < 25) ∧ Tri d M_R_inverse [vA 161, vI (σ3 190 (w32 ((w32 (5 * x1)) + x1)))] σ3 (fun r4 σ4 => L (d + 1) M_R_turnsBack 108 [vA 161, vI x1, vU, vI r4, vI 0, vU, vU] [] σ4 Q)))) ∧ (x2 = σ 161 27 → Q 0 σ)) : L (d + 1) M_R_turnsBack 60 [vA 161, vI x1, vI x2, vU, vU, vU, vU] [] σ Q :=
  L_iload_n dR_turnsBack_60 rfl (L_aload_n dR_turnsBack_61 rfl (L_getf fw_R_253 rfl dR_turnsBack_62 ⟨ob_161, L_icmp_ne dR_turnsBack_65 (by decide) ⟨fun c1 => L_aload_n dR_turnsBack_70 rfl (L_aload_n dR_turnsBack_71 rfl (L_getF (b := 190) fw_R_110 rfl rfl (by decide) dR_turnsBack_72 ⟨ob_161, L_iload_n dR_turnsBack_75 rfl (L_iload_n dR_turnsBack_76 rfl (L_callVV rfl cv_R_exchange (As := [vA 190, vI x2, vI x1]) rfl (tk10 23 rfl rfl) rfl (Nat.le_of_ble_eq_true rfl) dR_turnsBack_77 ⟨ob_161, Tri.mono (h.1 c1) (fun r2 σ2 q2 => L_aload_n dR_turnsBack_80 rfl (L_aload_n dR_turnsBack_81 rfl (L_getF (b := 194) fw_R_122 rfl rfl (by decide) dR_turnsBack_82 ⟨ob_161, L_iload_n dR_turnsBack_85 rfl (L_iload_n dR_turnsBack_86 rfl (L_callVV rfl cv_R_exchange (As := [vA 194, vI x2, vI x1]) rfl (tk10 23 rfl rfl) rfl (Nat.le_of_ble_eq_true rfl) dR_turnsBack_87 ⟨ob_161, Tri.mono q2 (fun r3 σ3 q3 => L_aload_n dR_turnsBack_90 rfl (L_aload_n dR_turnsBack_91 rfl (L_getF (b := 190) fw_R_110 rfl rfl (by decide) dR_turnsBack_92 ⟨ob_161, L_iconst dR_turnsBack_95 in_5 (L_iload_n dR_turnsBack_96 rfl (L_imul dR_turnsBack_97 (L_iload_n dR_turnsBack_98 rfl (L_iadd dR_turnsBack_99 (L_ialoadL kd_190 dR_turnsBack_100 ⟨q3.1, L_callVI rfl cv_R_inverse (As := [vI (σ3 190 (w32 ((w32 (5 * x1)) + x1)))]) rfl (tk8 238 rfl rfl) rfl (Nat.le_of_ble_eq_true rfl) dR_turnsBack_101 ⟨ob_161, Tri.mono q3.2 (fun r4 σ4 q4 => L_istore_n dR_turnsBack_104 (by decide) (L_iconst dR_turnsBack_105 in_0 (L_istore dR_turnsBack_106 (by decide) (L_weak [true, true, false, true, true, true, true] q4))))⟩⟩)))))⟩)))⟩))⟩)))⟩))⟩)), fun c1 => L_iconst dR_turnsBack_68 in_0 (L_zreturn0 rfl dR_turnsBack_69 (h.2 c1))⟩⟩))
theorem s_R_turnsBack_108 {d : Nat} {x1 x3 x4 : Int} {σ : SG} {Q : Int → SG → Prop} (h : (σ 161 27 ≤ x4 → L (d + 1) M_R_turnsBack 184 [vA 161, vI x1, vU, vU, vI 0, vU, vU] [] σ Q) ∧ (x4 < σ 161 27 → (0 ≤ w32 ((w32 (5 * x1)) + x4) ∧ w32 ((w32 (5 * x1)) + x4) < 25) ∧ σ 161 26 ≠ 0 ∧ (0 ≤ w32 ((w32 (5 * x1)) + x4) ∧ w32 ((w32 (5 * x1)) + x4) < 25) ∧ (∀ σ2, σ2 = up σ 190 (w32 ((w32 (5 * x1)) + x4)) ((w32 ((σ 190 (w32 ((w32 (5 * x1)) + x4))) * x3)).tmod (σ 161 26)) → (0 ≤ w32 ((w32 (5 * x1)) + x4) ∧ w32 ((w32 (5 * x1)) + x4) < 25) ∧ σ2 161 26 ≠ 0 ∧ (0 ≤ w32 ((w32 (5 * x1)) + x4) ∧ w32 ((w32 (5 * x1)) + x4) < 25) ∧ (∀ σ3, σ3 = up σ2 194 (w32 ((w32 (5 * x1)) + x4)) ((w32 ((σ2 194 (w32 ((w32 (5 * x1)) + x4))) * x3)).tmod (σ2 161 26)) → L (d + 1) M_R_turnsBack 108 [vA 161, vI x1, vU, vI x3, vI (w32 (x4 + 1)), vU, vU] [] σ3 Q)))) : L (d + 1) M_R_turnsBack 108 [vA 161, vI x1, vU, vI x3, vI x4, vU, vU] [] σ Q :=
  L_iload dR_turnsBack_108 rfl (L_aload_n dR_turnsBack_110 rfl (L_getf fw_R_253 rfl dR_turnsBack_111 ⟨ob_161, L_icmp_ge dR_turnsBack_114 (by decide) ⟨fun c1 => L_iconst dR_turnsBack_181 in_0 (L_istore dR_turnsBack_182 (by decide) (L_weak [true, true, true, false, true, true, true] (h.1 c1))), fun c1 => L_aload_n dR_turnsBack_117 rfl (L_getF (b := 190) fw_R_110 rfl rfl (by decide) dR_turnsBack_118 ⟨ob_161, L_iconst dR_turnsBack_121 in_5 (L_iload_n dR_turnsBack_122 rfl (L_imul dR_turnsBack_123 (L_iload dR_turnsBack_124 rfl (L_iadd dR_turnsBack_126 (L_aload_n dR_turnsBack_127 rfl (L_getF (b := 190) fw_R_110 rfl rfl (by decide) dR_turnsBack_128 ⟨ob_161, L_iconst dR_turnsBack_131 in_5 (L_iload_n dR_turnsBack_132 rfl (L_imul dR_turnsBack_133 (L_iload dR_turnsBack_134 rfl (L_iadd dR_turnsBack_136 (L_ialoadL kd_190 dR_turnsBack_137 ⟨(h.2 c1).1, L_iload_n dR_turnsBack_138 rfl (L_imul dR_turnsBack_139 (L_aload_n dR_turnsBack_140 rfl (L_getf fw_R_250 rfl dR_turnsBack_141 ⟨ob_161, L_irem dR_turnsBack_144 ⟨(h.2 c1).2.1, L_iastoreL (by decide) kd_190 dR_turnsBack_145 ⟨(h.2 c1).2.2.1, fun σ2 e2 => L_aload_n dR_turnsBack_146 rfl (L_getF (b := 194) fw_R_122 rfl rfl (by decide) dR_turnsBack_147 ⟨ob_161, L_iconst dR_turnsBack_150 in_5 (L_iload_n dR_turnsBack_151 rfl (L_imul dR_turnsBack_152 (L_iload dR_turnsBack_153 rfl (L_iadd dR_turnsBack_155 (L_aload_n dR_turnsBack_156 rfl (L_getF (b := 194) fw_R_122 rfl rfl (by decide) dR_turnsBack_157 ⟨ob_161, L_iconst dR_turnsBack_160 in_5 (L_iload_n dR_turnsBack_161 rfl (L_imul dR_turnsBack_162 (L_iload dR_turnsBack_163 rfl (L_iadd dR_turnsBack_165 (L_ialoadL kd_194 dR_turnsBack_166 ⟨((h.2 c1).2.2.2 σ2 e2).1, L_iload_n dR_turnsBack_167 rfl (L_imul dR_turnsBack_168 (L_aload_n dR_turnsBack_169 rfl (L_getf fw_R_250 rfl dR_turnsBack_170 ⟨ob_161, L_irem dR_turnsBack_173 ⟨((h.2 c1).2.2.2 σ2 e2).2.1, L_iastoreL (by decide) kd_194 dR_turnsBack_174 ⟨((h.2 c1).2.2.2 σ2 e2).2.2.1, fun σ3 e3 => L_iinc dR_turnsBack_175 rfl (by decide) (L_goto dR_turnsBack_178 (by decide) (((h.2 c1).2.2.2 σ2 e2).2.2.2 σ3 e3))⟩⟩⟩)))⟩)))))⟩))))))⟩)⟩⟩⟩)))⟩)))))⟩))))))⟩)⟩⟩))
theorem s_R_turnsBack_184 {d : Nat} {x1 x4 : Int} {σ : SG} {Q : Int → SG → Prop} (h : (σ 161 27 ≤ x4 → L (d + 1) M_R_turnsBack 23 [vA 161, vI (w32 (x1 + 1)), vU, vU, vU, vU, vU] [] σ Q) ∧ (x4 < σ 161 27 → (x4 ≠ x1 → (0 ≤ w32 ((w32 (5 * x4)) + x1) ∧ w32 ((w32 (5 * x4)) + x1) < 25) ∧ L (d + 1) M_R_turnsBack 219 [vA 161, vI x1, vU, vU, vI x4, vI (σ 190 (w32 ((w32 (5 * x4)) + x1))), vI 0] [] σ Q) ∧ (x4 = x1 → L (d + 1) M_R_turnsBack 219 [vA 161, vI x1, vU, vU, vI x4, vI 0, vI 0] [] σ Q))) : L (d + 1) M_R_turnsBack 184 [vA 161, vI x1, vU, vU, vI x4, vU, vU] [] σ Q :=
  L_iload dR_turnsBack_184 rfl (L_aload_n dR_turnsBack_186 rfl (L_getf fw_R_253 rfl dR_turnsBack_187 ⟨ob_161, L_icmp_ge dR_turnsBack_190 (by decide) ⟨fun c1 => L_iinc dR_turnsBack_337 rfl (by decide) (L_goto dR_turnsBack_340 (by decide) (L_weak [true, true, true, true, false, true, true] (h.1 c1))), fun c1 => L_iload dR_turnsBack_193 rfl (L_iload_n dR_turnsBack_195 rfl (L_icmp_ne dR_turnsBack_196 (by decide) ⟨fun c2 => L_aload_n dR_turnsBack_203 rfl (L_getF (b := 190) fw_R_110 rfl rfl (by decide) dR_turnsBack_204 ⟨ob_161, L_iconst dR_turnsBack_207 in_5 (L_iload dR_turnsBack_208 rfl (L_imul dR_turnsBack_210 (L_iload_n dR_turnsBack_211 rfl (L_iadd dR_turnsBack_212 (L_ialoadL kd_190 dR_turnsBack_213 ⟨((h.2 c1).1 c2).1, L_istore dR_turnsBack_214 (by decide) (L_iconst dR_turnsBack_216 in_0 (L_istore dR_turnsBack_217 (by decide) (((h.2 c1).1 c2).2)))⟩)))))⟩), fun c2 => L_iconst dR_turnsBack_199 in_0 (L_goto dR_turnsBack_200 (by decide) (L_istore dR_turnsBack_214 (by decide) (L_iconst dR_turnsBack_216 in_0 (L_istore dR_turnsBack_217 (by decide) ((h.2 c1).2 c2)))))⟩))⟩⟩))
theorem s_R_turnsBack_219 {d : Nat} {x1 x4 x5 x6 : Int} {σ : SG} {Q : Int → SG → Prop} (h : (σ 161 27 ≤ x6 → L (d + 1) M_R_turnsBack 184 [vA 161, vI x1, vU, vU, vI (w32 (x4 + 1)), vU, vU] [] σ Q) ∧ (x6 < σ 161 27 → (x5 = 0 → L (d + 1) M_R_turnsBack 184 [vA 161, vI x1, vU, vU, vI (w32 (x4 + 1)), vU, vU] [] σ Q) ∧ (x5 ≠ 0 → (0 ≤ w32 ((w32 (5 * x4)) + x6) ∧ w32 ((w32 (5 * x4)) + x6) < 25) ∧ (0 ≤ w32 ((w32 (5 * x1)) + x6) ∧ w32 ((w32 (5 * x1)) + x6) < 25) ∧ Tri d M_R_left [vI (w32 ((σ 190 (w32 ((w32 (5 * x4)) + x6))) - (w32 (x5 * (σ 190 (w32 ((w32 (5 * x1)) + x6))))))), vI (σ 161 26)] σ (fun r3 σ3 => (0 ≤ w32 ((w32 (5 * x4)) + x6) ∧ w32 ((w32 (5 * x4)) + x6) < 25) ∧ (∀ σ4, σ4 = up σ3 190 (w32 ((w32 (5 * x4)) + x6)) r3 → (0 ≤ w32 ((w32 (5 * x4)) + x6) ∧ w32 ((w32 (5 * x4)) + x6) < 25) ∧ (0 ≤ w32 ((w32 (5 * x1)) + x6) ∧ w32 ((w32 (5 * x1)) + x6) < 25) ∧ Tri d M_R_left [vI (w32 ((σ4 194 (w32 ((w32 (5 * x4)) + x6))) - (w32 (x5 * (σ4 194 (w32 ((w32 (5 * x1)) + x6))))))), vI (σ4 161 26)] σ4 (fun r5 σ5 => (0 ≤ w32 ((w32 (5 * x4)) + x6) ∧ w32 ((w32 (5 * x4)) + x6) < 25) ∧ (∀ σ6, σ6 = up σ5 194 (w32 ((w32 (5 * x4)) + x6)) r5 → L (d + 1) M_R_turnsBack 219 [vA 161, vI x1, vU, vU, vI x4, vI x5, vI (w32 (x6 + 1))] [] σ6 Q))))))) : L (d + 1) M_R_turnsBack 219 [vA 161, vI x1, vU, vU, vI x4, vI x5, vI x6] [] σ Q :=
  L_iload dR_turnsBack_219 rfl (L_aload_n dR_turnsBack_221 rfl (L_getf fw_R_253 rfl dR_turnsBack_222 ⟨ob_161, L_icmp_ge dR_turnsBack_225 (by decide) ⟨fun c1 => L_iinc dR_turnsBack_331 rfl (by decide) (L_goto dR_turnsBack_334 (by decide) (L_weak [true, true, true, true, true, false, false] (h.1 c1))), fun c1 => L_iload dR_turnsBack_228 rfl (L_if_eq dR_turnsBack_230 (by decide) ⟨fun c2 => L_iinc dR_turnsBack_331 rfl (by decide) (L_goto dR_turnsBack_334 (by decide) (L_weak [true, true, true, true, true, false, false] ((h.2 c1).1 c2))), fun c2 => L_aload_n dR_turnsBack_233 rfl (L_getF (b := 190) fw_R_110 rfl rfl (by decide) dR_turnsBack_234 ⟨ob_161, L_iconst dR_turnsBack_237 in_5 (L_iload dR_turnsBack_238 rfl (L_imul dR_turnsBack_240 (L_iload dR_turnsBack_241 rfl (L_iadd dR_turnsBack_243 (L_aload_n dR_turnsBack_244 rfl (L_getF (b := 190) fw_R_110 rfl rfl (by decide) dR_turnsBack_245 ⟨ob_161, L_iconst dR_turnsBack_248 in_5 (L_iload dR_turnsBack_249 rfl (L_imul dR_turnsBack_251 (L_iload dR_turnsBack_252 rfl (L_iadd dR_turnsBack_254 (L_ialoadL kd_190 dR_turnsBack_255 ⟨((h.2 c1).2 c2).1, L_iload dR_turnsBack_256 rfl (L_aload_n dR_turnsBack_258 rfl (L_getF (b := 190) fw_R_110 rfl rfl (by decide) dR_turnsBack_259 ⟨ob_161, L_iconst dR_turnsBack_262 in_5 (L_iload_n dR_turnsBack_263 rfl (L_imul dR_turnsBack_264 (L_iload dR_turnsBack_265 rfl (L_iadd dR_turnsBack_267 (L_ialoadL kd_190 dR_turnsBack_268 ⟨((h.2 c1).2 c2).2.1, L_imul dR_turnsBack_269 (L_isub dR_turnsBack_270 (L_aload_n dR_turnsBack_271 rfl (L_getf fw_R_250 rfl dR_turnsBack_272 ⟨ob_161, L_callSI rfl cs_R_left (As := [vI (w32 ((σ 190 (w32 ((w32 (5 * x4)) + x6))) - (w32 (x5 * (σ 190 (w32 ((w32 (5 * x1)) + x6))))))), vI (σ 161 26)]) rfl (tk8 93 rfl rfl) rfl (Nat.le_of_ble_eq_true rfl) dR_turnsBack_275 (Tri.mono (((h.2 c1).2 c2).2.2) (fun r3 σ3 q3 => L_iastoreL (by decide) kd_190 dR_turnsBack_278 ⟨q3.1, fun σ4 e4 => L_aload_n dR_turnsBack_279 rfl (L_getF (b := 194) fw_R_122 rfl rfl (by decide) dR_turnsBack_280 ⟨ob_161, L_iconst dR_turnsBack_283 in_5 (L_iload dR_turnsBack_284 rfl (L_imul dR_turnsBack_286 (L_iload dR_turnsBack_287 rfl (L_iadd dR_turnsBack_289 (L_aload_n dR_turnsBack_290 rfl (L_getF (b := 194) fw_R_122 rfl rfl (by decide) dR_turnsBack_291 ⟨ob_161, L_iconst dR_turnsBack_294 in_5 (L_iload dR_turnsBack_295 rfl (L_imul dR_turnsBack_297 (L_iload dR_turnsBack_298 rfl (L_iadd dR_turnsBack_300 (L_ialoadL kd_194 dR_turnsBack_301 ⟨(q3.2 σ4 e4).1, L_iload dR_turnsBack_302 rfl (L_aload_n dR_turnsBack_304 rfl (L_getF (b := 194) fw_R_122 rfl rfl (by decide) dR_turnsBack_305 ⟨ob_161, L_iconst dR_turnsBack_308 in_5 (L_iload_n dR_turnsBack_309 rfl (L_imul dR_turnsBack_310 (L_iload dR_turnsBack_311 rfl (L_iadd dR_turnsBack_313 (L_ialoadL kd_194 dR_turnsBack_314 ⟨(q3.2 σ4 e4).2.1, L_imul dR_turnsBack_315 (L_isub dR_turnsBack_316 (L_aload_n dR_turnsBack_317 rfl (L_getf fw_R_250 rfl dR_turnsBack_318 ⟨ob_161, L_callSI rfl cs_R_left (As := [vI (w32 ((σ4 194 (w32 ((w32 (5 * x4)) + x6))) - (w32 (x5 * (σ4 194 (w32 ((w32 (5 * x1)) + x6))))))), vI (σ4 161 26)]) rfl (tk8 93 rfl rfl) rfl (Nat.le_of_ble_eq_true rfl) dR_turnsBack_321 (Tri.mono ((q3.2 σ4 e4).2.2) (fun r5 σ5 q5 => L_iastoreL (by decide) kd_194 dR_turnsBack_324 ⟨q5.1, fun σ6 e6 => L_iinc dR_turnsBack_325 rfl (by decide) (L_goto dR_turnsBack_328 (by decide) (q5.2 σ6 e6))⟩))⟩)))⟩)))))⟩))⟩)))))⟩))))))⟩)⟩))⟩)))⟩)))))⟩))⟩)))))⟩))))))⟩)⟩)⟩⟩))
theorem dR_exchange_0 : decode prog_14_method_149_code 0 = .ok (.iconst 0, 1) := by decide +kernel
theorem dR_exchange_1 : decode prog_14_method_149_code 1 = .ok (.istore 4, 2) := by decide +kernel
theorem dR_exchange_3 : decode prog_14_method_149_code 3 = .ok (.iload 4, 2) := by decide +kernel
theorem dR_exchange_5 : decode prog_14_method_149_code 5 = .ok (.aload_n 0, 1) := by decide +kernel
theorem dR_exchange_6 : decode prog_14_method_149_code 6 = .ok (.getfield 253, 3) := by decide +kernel
theorem dR_exchange_9 : decode prog_14_method_149_code 9 = .ok (.if_icmp .ge 45, 3) := by decide +kernel
theorem dR_exchange_12 : decode prog_14_method_149_code 12 = .ok (.aload_n 1, 1) := by decide +kernel
theorem dR_exchange_13 : decode prog_14_method_149_code 13 = .ok (.iconst 5, 1) := by decide +kernel
theorem dR_exchange_14 : decode prog_14_method_149_code 14 = .ok (.iload_n 2, 1) := by decide +kernel
theorem dR_exchange_15 : decode prog_14_method_149_code 15 = .ok (.imul, 1) := by decide +kernel
theorem dR_exchange_16 : decode prog_14_method_149_code 16 = .ok (.iload 4, 2) := by decide +kernel
theorem dR_exchange_18 : decode prog_14_method_149_code 18 = .ok (.iadd, 1) := by decide +kernel
theorem dR_exchange_19 : decode prog_14_method_149_code 19 = .ok (.iaload, 1) := by decide +kernel
theorem dR_exchange_20 : decode prog_14_method_149_code 20 = .ok (.istore 5, 2) := by decide +kernel
theorem dR_exchange_22 : decode prog_14_method_149_code 22 = .ok (.aload_n 1, 1) := by decide +kernel
theorem dR_exchange_23 : decode prog_14_method_149_code 23 = .ok (.iconst 5, 1) := by decide +kernel
theorem dR_exchange_24 : decode prog_14_method_149_code 24 = .ok (.iload_n 2, 1) := by decide +kernel
theorem dR_exchange_25 : decode prog_14_method_149_code 25 = .ok (.imul, 1) := by decide +kernel
theorem dR_exchange_26 : decode prog_14_method_149_code 26 = .ok (.iload 4, 2) := by decide +kernel
theorem dR_exchange_28 : decode prog_14_method_149_code 28 = .ok (.iadd, 1) := by decide +kernel
theorem dR_exchange_29 : decode prog_14_method_149_code 29 = .ok (.aload_n 1, 1) := by decide +kernel
theorem dR_exchange_30 : decode prog_14_method_149_code 30 = .ok (.iconst 5, 1) := by decide +kernel
theorem dR_exchange_31 : decode prog_14_method_149_code 31 = .ok (.iload_n 3, 1) := by decide +kernel
theorem dR_exchange_32 : decode prog_14_method_149_code 32 = .ok (.imul, 1) := by decide +kernel
theorem dR_exchange_33 : decode prog_14_method_149_code 33 = .ok (.iload 4, 2) := by decide +kernel
theorem dR_exchange_35 : decode prog_14_method_149_code 35 = .ok (.iadd, 1) := by decide +kernel
theorem dR_exchange_36 : decode prog_14_method_149_code 36 = .ok (.iaload, 1) := by decide +kernel
theorem dR_exchange_37 : decode prog_14_method_149_code 37 = .ok (.iastore, 1) := by decide +kernel
theorem dR_exchange_38 : decode prog_14_method_149_code 38 = .ok (.aload_n 1, 1) := by decide +kernel
theorem dR_exchange_39 : decode prog_14_method_149_code 39 = .ok (.iconst 5, 1) := by decide +kernel
theorem dR_exchange_40 : decode prog_14_method_149_code 40 = .ok (.iload_n 3, 1) := by decide +kernel
theorem dR_exchange_41 : decode prog_14_method_149_code 41 = .ok (.imul, 1) := by decide +kernel
theorem dR_exchange_42 : decode prog_14_method_149_code 42 = .ok (.iload 4, 2) := by decide +kernel
theorem dR_exchange_44 : decode prog_14_method_149_code 44 = .ok (.iadd, 1) := by decide +kernel
theorem dR_exchange_45 : decode prog_14_method_149_code 45 = .ok (.iload 5, 2) := by decide +kernel
theorem dR_exchange_47 : decode prog_14_method_149_code 47 = .ok (.iastore, 1) := by decide +kernel
theorem dR_exchange_48 : decode prog_14_method_149_code 48 = .ok (.iinc 4 1, 3) := by decide +kernel
theorem dR_exchange_51 : decode prog_14_method_149_code 51 = .ok (.goto (-48), 3) := by decide +kernel
theorem dR_exchange_54 : decode prog_14_method_149_code 54 = .ok (.return_, 1) := by decide +kernel
theorem t_R_exchange {d : Nat} {x1 x2 x3 : Int} {σ : SG} {Q : Int → SG → Prop} (h : inI x2 → inI x3 → (L (d + 1) M_R_exchange 3 [vA 161, vA x1, vI x2, vI x3, vI 0, vU] [] σ Q)) : Tri (d + 1) M_R_exchange [vA 161, vA x1, vI x2, vI x3] σ Q :=
  Tri_intro rfl (Nat.le_of_ble_eq_true rfl) (ls := [vA 161, vA x1, vI x2, vI x3, vU, vU]) rfl (fun hok => L_iconst dR_exchange_0 in_0 (L_istore dR_exchange_1 (by decide) ((h (hok _ (List.mem_of_getElem? (i := 2) rfl)) (hok _ (List.mem_of_getElem? (i := 3) rfl))))))
theorem s_R_exchange_3 {d : Nat} {x1 x2 x3 x4 : Int} {σ : SG} {Q : Int → SG → Prop} (h : (σ 161 27 ≤ x4 → Q 0 σ) ∧ (x4 < σ 161 27 → rdok 100 x1 (w32 ((w32 (5 * x2)) + x4)) ∧ rdok 100 x1 (w32 ((w32 (5 * x3)) + x4)) ∧ wrok 100 x1 (w32 ((w32 (5 * x2)) + x4)) ∧ (∀ σ2, σ2 = up σ x1 (w32 ((w32 (5 * x2)) + x4)) (σ x1 (w32 ((w32 (5 * x3)) + x4))) → wrok 100 x1 (w32 ((w32 (5 * x3)) + x4)) ∧ (∀ σ3, σ3 = up σ2 x1 (w32 ((w32 (5 * x3)) + x4)) (σ x1 (w32 ((w32 (5 * x2)) + x4))) → L (d + 1) M_R_exchange 3 [vA 161, vA x1, vI x2, vI x3, vI (w32 (x4 + 1)), vU] [] σ3 Q)))) : L (d + 1) M_R_exchange 3 [vA 161, vA x1, vI x2, vI x3, vI x4, vU] [] σ Q :=
  L_iload dR_exchange_3 rfl (L_aload_n dR_exchange_5 rfl (L_getf fw_R_253 rfl dR_exchange_6 ⟨ob_161, L_icmp_ge dR_exchange_9 (by decide) ⟨fun c1 => L_return rfl dR_exchange_54 (h.1 c1), fun c1 => L_aload_n dR_exchange_12 rfl (L_iconst dR_exchange_13 in_5 (L_iload_n dR_exchange_14 rfl (L_imul dR_exchange_15 (L_iload dR_exchange_16 rfl (L_iadd dR_exchange_18 (L_iaload dR_exchange_19 ⟨(h.2 c1).1, L_istore dR_exchange_20 (by decide) (L_aload_n dR_exchange_22 rfl (L_iconst dR_exchange_23 in_5 (L_iload_n dR_exchange_24 rfl (L_imul dR_exchange_25 (L_iload dR_exchange_26 rfl (L_iadd dR_exchange_28 (L_aload_n dR_exchange_29 rfl (L_iconst dR_exchange_30 in_5 (L_iload_n dR_exchange_31 rfl (L_imul dR_exchange_32 (L_iload dR_exchange_33 rfl (L_iadd dR_exchange_35 (L_iaload dR_exchange_36 ⟨(h.2 c1).2.1, L_iastoreN dR_exchange_37 ⟨(h.2 c1).2.2.1, fun σ2 e2 => L_aload_n dR_exchange_38 rfl (L_iconst dR_exchange_39 in_5 (L_iload_n dR_exchange_40 rfl (L_imul dR_exchange_41 (L_iload dR_exchange_42 rfl (L_iadd dR_exchange_44 (L_iload dR_exchange_45 rfl (L_iastoreN dR_exchange_47 ⟨((h.2 c1).2.2.2 σ2 e2).1, fun σ3 e3 => L_iinc dR_exchange_48 rfl (by decide) (L_goto dR_exchange_51 (by decide) (L_weak [true, true, true, true, true, false] (((h.2 c1).2.2.2 σ2 e2).2 σ3 e3)))⟩)))))))⟩⟩)))))))))))))⟩))))))⟩⟩))
theorem dR_changeInto_0 : decode prog_14_method_150_code 0 = .ok (.aload_n 0, 1) := by decide +kernel
theorem dR_changeInto_1 : decode prog_14_method_150_code 1 = .ok (.invokevirtual 583, 3) := by decide +kernel
theorem dR_changeInto_4 : decode prog_14_method_150_code 4 = .ok (.ifCond .ne 5, 3) := by decide +kernel
theorem dR_changeInto_7 : decode prog_14_method_150_code 7 = .ok (.iconst 0, 1) := by decide +kernel
theorem dR_changeInto_8 : decode prog_14_method_150_code 8 = .ok (.ireturn, 1) := by decide +kernel
theorem dR_changeInto_9 : decode prog_14_method_150_code 9 = .ok (.aload_n 0, 1) := by decide +kernel
theorem dR_changeInto_10 : decode prog_14_method_150_code 10 = .ok (.getfield 41, 3) := by decide +kernel
theorem dR_changeInto_13 : decode prog_14_method_150_code 13 = .ok (.iconst 0, 1) := by decide +kernel
theorem dR_changeInto_14 : decode prog_14_method_150_code 14 = .ok (.aload_n 0, 1) := by decide +kernel
theorem dR_changeInto_15 : decode prog_14_method_150_code 15 = .ok (.getfield 250, 3) := by decide +kernel
theorem dR_changeInto_18 : decode prog_14_method_150_code 18 = .ok (.aload_n 0, 1) := by decide +kernel
theorem dR_changeInto_19 : decode prog_14_method_150_code 19 = .ok (.getfield 253, 3) := by decide +kernel
theorem dR_changeInto_22 : decode prog_14_method_150_code 22 = .ok (.invokestatic 303, 3) := by decide +kernel
theorem dR_changeInto_25 : decode prog_14_method_150_code 25 = .ok (.iconst 0, 1) := by decide +kernel
theorem dR_changeInto_26 : decode prog_14_method_150_code 26 = .ok (.istore_n 1, 1) := by decide +kernel
theorem dR_changeInto_27 : decode prog_14_method_150_code 27 = .ok (.iload_n 1, 1) := by decide +kernel
theorem dR_changeInto_28 : decode prog_14_method_150_code 28 = .ok (.aload_n 0, 1) := by decide +kernel
theorem dR_changeInto_29 : decode prog_14_method_150_code 29 = .ok (.getfield 253, 3) := by decide +kernel
theorem dR_changeInto_32 : decode prog_14_method_150_code 32 = .ok (.if_icmp .ge 123, 3) := by decide +kernel
theorem dR_changeInto_35 : decode prog_14_method_150_code 35 = .ok (.iload_n 1, 1) := by decide +kernel
theorem dR_changeInto_36 : decode prog_14_method_150_code 36 = .ok (.iconst 1, 1) := by decide +kernel
theorem dR_changeInto_37 : decode prog_14_method_150_code 37 = .ok (.iadd, 1) := by decide +kernel
theorem dR_changeInto_38 : decode prog_14_method_150_code 38 = .ok (.istore_n 2, 1) := by decide +kernel
theorem dR_changeInto_39 : decode prog_14_method_150_code 39 = .ok (.iload_n 2, 1) := by decide +kernel
theorem dR_changeInto_40 : decode prog_14_method_150_code 40 = .ok (.aload_n 0, 1) := by decide +kernel
theorem dR_changeInto_41 : decode prog_14_method_150_code 41 = .ok (.getfield 253, 3) := by decide +kernel
theorem dR_changeInto_44 : decode prog_14_method_150_code 44 = .ok (.if_icmp .ge 105, 3) := by decide +kernel
theorem dR_changeInto_47 : decode prog_14_method_150_code 47 = .ok (.aload_n 0, 1) := by decide +kernel
theorem dR_changeInto_48 : decode prog_14_method_150_code 48 = .ok (.aload_n 0, 1) := by decide +kernel
theorem dR_changeInto_49 : decode prog_14_method_150_code 49 = .ok (.getfield 119, 3) := by decide +kernel
theorem dR_changeInto_52 : decode prog_14_method_150_code 52 = .ok (.iconst 5, 1) := by decide +kernel
theorem dR_changeInto_53 : decode prog_14_method_150_code 53 = .ok (.iload_n 1, 1) := by decide +kernel
theorem dR_changeInto_54 : decode prog_14_method_150_code 54 = .ok (.imul, 1) := by decide +kernel
theorem dR_changeInto_55 : decode prog_14_method_150_code 55 = .ok (.aload_n 0, 1) := by decide +kernel
theorem dR_changeInto_56 : decode prog_14_method_150_code 56 = .ok (.getfield 119, 3) := by decide +kernel
theorem dR_changeInto_59 : decode prog_14_method_150_code 59 = .ok (.iconst 5, 1) := by decide +kernel
theorem dR_changeInto_60 : decode prog_14_method_150_code 60 = .ok (.iload_n 2, 1) := by decide +kernel
theorem dR_changeInto_61 : decode prog_14_method_150_code 61 = .ok (.imul, 1) := by decide +kernel
theorem dR_changeInto_62 : decode prog_14_method_150_code 62 = .ok (.aload_n 0, 1) := by decide +kernel
theorem dR_changeInto_63 : decode prog_14_method_150_code 63 = .ok (.getfield 71, 3) := by decide +kernel
theorem dR_changeInto_66 : decode prog_14_method_150_code 66 = .ok (.invokevirtual 340, 3) := by decide +kernel
theorem dR_changeInto_69 : decode prog_14_method_150_code 69 = .ok (.iconst 0, 1) := by decide +kernel
theorem dR_changeInto_70 : decode prog_14_method_150_code 70 = .ok (.istore_n 3, 1) := by decide +kernel
theorem dR_changeInto_71 : decode prog_14_method_150_code 71 = .ok (.iload_n 3, 1) := by decide +kernel
theorem dR_changeInto_72 : decode prog_14_method_150_code 72 = .ok (.aload_n 0, 1) := by decide +kernel
theorem dR_changeInto_73 : decode prog_14_method_150_code 73 = .ok (.getfield 253, 3) := by decide +kernel
theorem dR_changeInto_76 : decode prog_14_method_150_code 76 = .ok (.if_icmp .ge 67, 3) := by decide +kernel
theorem dR_changeInto_79 : decode prog_14_method_150_code 79 = .ok (.iconst 0, 1) := by decide +kernel
theorem dR_changeInto_80 : decode prog_14_method_150_code 80 = .ok (.istore 4, 2) := by decide +kernel
theorem dR_changeInto_82 : decode prog_14_method_150_code 82 = .ok (.iconst 0, 1) := by decide +kernel
theorem dR_changeInto_83 : decode prog_14_method_150_code 83 = .ok (.istore 5, 2) := by decide +kernel
theorem dR_changeInto_85 : decode prog_14_method_150_code 85 = .ok (.iload 5, 2) := by decide +kernel
theorem dR_changeInto_87 : decode prog_14_method_150_code 87 = .ok (.aload_n 0, 1) := by decide +kernel
theorem dR_changeInto_88 : decode prog_14_method_150_code 88 = .ok (.getfield 253, 3) := by decide +kernel
theorem dR_changeInto_91 : decode prog_14_method_150_code 91 = .ok (.if_icmp .ge 33, 3) := by decide +kernel
theorem dR_changeInto_94 : decode prog_14_method_150_code 94 = .ok (.iload 4, 2) := by decide +kernel
theorem dR_changeInto_96 : decode prog_14_method_150_code 96 = .ok (.aload_n 0, 1) := by decide +kernel
theorem dR_changeInto_97 : decode prog_14_method_150_code 97 = .ok (.getfield 71, 3) := by decide +kernel
theorem dR_changeInto_100 : decode prog_14_method_150_code 100 = .ok (.iload 5, 2) := by decide +kernel
theorem dR_changeInto_102 : decode prog_14_method_150_code 102 = .ok (.iaload, 1) := by decide +kernel
theorem dR_changeInto_103 : decode prog_14_method_150_code 103 = .ok (.aload_n 0, 1) := by decide +kernel
theorem dR_changeInto_104 : decode prog_14_method_150_code 104 = .ok (.getfield 122, 3) := by decide +kernel
theorem dR_changeInto_107 : decode prog_14_method_150_code 107 = .ok (.iconst 5, 1) := by decide +kernel
theorem dR_changeInto_108 : decode prog_14_method_150_code 108 = .ok (.iload 5, 2) := by decide +kernel
theorem dR_changeInto_110 : decode prog_14_method_150_code 110 = .ok (.imul, 1) := by decide +kernel
theorem dR_changeInto_111 : decode prog_14_method_150_code 111 = .ok (.iload_n 3, 1) := by decide +kernel
theorem dR_changeInto_112 : decode prog_14_method_150_code 112 = .ok (.iadd, 1) := by decide +kernel
theorem dR_changeInto_113 : decode prog_14_method_150_code 113 = .ok (.iaload, 1) := by decide +kernel
theorem dR_changeInto_114 : decode prog_14_method_150_code 114 = .ok (.imul, 1) := by decide +kernel
theorem dR_changeInto_115 : decode prog_14_method_150_code 115 = .ok (.iadd, 1) := by decide +kernel
theorem dR_changeInto_116 : decode prog_14_method_150_code 116 = .ok (.istore 4, 2) := by decide +kernel
theorem dR_changeInto_118 : decode prog_14_method_150_code 118 = .ok (.iinc 5 1, 3) := by decide +kernel
theorem dR_changeInto_121 : decode prog_14_method_150_code 121 = .ok (.goto (-36), 3) := by decide +kernel
theorem dR_changeInto_124 : decode prog_14_method_150_code 124 = .ok (.aload_n 0, 1) := by decide +kernel
theorem dR_changeInto_125 : decode prog_14_method_150_code 125 = .ok (.getfield 41, 3) := by decide +kernel
theorem dR_changeInto_128 : decode prog_14_method_150_code 128 = .ok (.iconst 0, 1) := by decide +kernel
theorem dR_changeInto_129 : decode prog_14_method_150_code 129 = .ok (.iload_n 1, 1) := by decide +kernel
theorem dR_changeInto_130 : decode prog_14_method_150_code 130 = .ok (.iload_n 2, 1) := by decide +kernel
theorem dR_changeInto_131 : decode prog_14_method_150_code 131 = .ok (.iload_n 3, 1) := by decide +kernel
theorem dR_changeInto_132 : decode prog_14_method_150_code 132 = .ok (.iload 4, 2) := by decide +kernel
theorem dR_changeInto_134 : decode prog_14_method_150_code 134 = .ok (.invokestatic 283, 3) := by decide +kernel
theorem dR_changeInto_137 : decode prog_14_method_150_code 137 = .ok (.iinc 3 1, 3) := by decide +kernel
theorem dR_changeInto_140 : decode prog_14_method_150_code 140 = .ok (.goto (-69), 3) := by decide +kernel
theorem dR_changeInto_143 : decode prog_14_method_150_code 143 = .ok (.iinc 2 1, 3) := by decide +kernel
theorem dR_changeInto_146 : decode prog_14_method_150_code 146 = .ok (.goto (-107), 3) := by decide +kernel
theorem dR_changeInto_149 : decode prog_14_method_150_code 149 = .ok (.iinc 1 1, 3) := by decide +kernel
theorem dR_changeInto_152 : decode prog_14_method_150_code 152 = .ok (.goto (-125), 3) := by decide +kernel
theorem dR_changeInto_155 : decode prog_14_method_150_code 155 = .ok (.iconst 1, 1) := by decide +kernel
theorem dR_changeInto_156 : decode prog_14_method_150_code 156 = .ok (.ireturn, 1) := by decide +kernel
theorem t_R_changeInto {d : Nat} {σ : SG} {Q : Int → SG → Prop} (h : Tri d M_R_turnsBack [vA 161] σ (fun r1 σ1 => (r1 ≠ 0 → Tri d M_R_clear [vA 168, vI 0, vI (σ1 161 26), vI (σ1 161 27)] σ1 (fun r3 σ3 => L (d + 1) M_R_changeInto 27 [vA 161, vI 0, vU, vU, vU, vU] [] σ3 Q)) ∧ (r1 = 0 → Q 0 σ1))) : Tri (d + 1) M_R_changeInto [vA 161] σ Q :=
  Tri_intro rfl (Nat.le_of_ble_eq_true rfl) (ls := [vA 161, vU, vU, vU, vU, vU]) rfl (fun hok => L_aload_n dR_changeInto_0 rfl (L_callVI rfl cv_R_turnsBack (As := []) rfl (tk10 19 rfl rfl) rfl (Nat.le_of_ble_eq_true rfl) dR_changeInto_1 ⟨ob_161, Tri.mono (h) (fun r1 σ1 q1 => L_if_ne dR_changeInto_4 (by decide) ⟨fun c2 => L_aload_n dR_changeInto_9 rfl (L_getF (b := 168) fw_R_41 rfl rfl (by decide) dR_changeInto_10 ⟨ob_161, L_iconst dR_changeInto_13 in_0 (L_aload_n dR_changeInto_14 rfl (L_getf fw_R_250 rfl dR_changeInto_15 ⟨ob_161, L_aload_n dR_changeInto_18 rfl (L_getf fw_R_253 rfl dR_changeInto_19 ⟨ob_161, L_callSV rfl cs_R_clear (As := [vA 168, vI 0, vI (σ1 161 26), vI (σ1 161 27)]) rfl (tk8 61 rfl rfl) rfl (Nat.le_of_ble_eq_true rfl) dR_changeInto_22 (Tri.mono (q1.1 c2) (fun r3 σ3 q3 => L_iconst dR_changeInto_25 in_0 (L_istore_n dR_changeInto_26 (by decide) q3)))⟩)⟩))⟩), fun c2 => L_iconst dR_changeInto_7 in_0 (L_zreturn0 rfl dR_changeInto_8 (q1.2 c2))⟩)⟩))
theorem s_R_changeInto_27 {d : Nat} {x1 : Int} {σ : SG} {Q : Int → SG → Prop} (h : (σ 161 27 ≤ x1 → Q 1 σ) ∧ (x1 < σ 161 27 → L (d + 1) M_R_changeInto 39 [vA 161, vI x1, vI (w32 (x1 + 1)), vU, vU, vU] [] σ Q)) : L (d + 1) M_R_changeInto 27 [vA 161, vI x1, vU, vU, vU, vU] [] σ Q :=
  L_iload_n dR_changeInto_27 rfl (L_aload_n dR_changeInto_28 rfl (L_getf fw_R_253 rfl dR_changeInto_29 ⟨ob_161, L_icmp_ge dR_changeInto_32 (by decide) ⟨fun c1 => L_iconst dR_changeInto_155 in_1 (L_zreturn1 rfl dR_changeInto_156 (h.1 c1)), fun c1 => L_iload_n dR_changeInto_35 rfl (L_iconst dR_changeInto_36 in_1 (L_iadd dR_changeInto_37 (L_istore_n dR_changeInto_38 (by decide) (h.2 c1))))⟩⟩))
theorem s_R_changeInto_39 {d : Nat} {x1 x2 : Int} {σ : SG} {Q : Int → SG → Prop} (h : (σ 161 27 ≤ x2 → L (d + 1) M_R_changeInto 27 [vA 161, vI (w32 (x1 + 1)), vU, vU, vU, vU] [] σ Q) ∧ (x2 < σ 161 27 → Tri d M_R_bracketOf [vA 161, vA 193, vI (w32 (5 * x1)), vA 193, vI (w32 (5 * x2)), vA 178] σ (fun r2 σ2 => L (d + 1) M_R_changeInto 71 [vA 161, vI x1, vI x2, vI 0, vU, vU] [] σ2 Q))) : L (d + 1) M_R_changeInto 39 [vA 161, vI x1, vI x2, vU, vU, vU] [] σ Q :=
  L_iload_n dR_changeInto_39 rfl (L_aload_n dR_changeInto_40 rfl (L_getf fw_R_253 rfl dR_changeInto_41 ⟨ob_161, L_icmp_ge dR_changeInto_44 (by decide) ⟨fun c1 => L_iinc dR_changeInto_149 rfl (by decide) (L_goto dR_changeInto_152 (by decide) (L_weak [true, true, false, true, true, true] (h.1 c1))), fun c1 => L_aload_n dR_changeInto_47 rfl (L_aload_n dR_changeInto_48 rfl (L_getF (b := 193) fw_R_119 rfl rfl (by decide) dR_changeInto_49 ⟨ob_161, L_iconst dR_changeInto_52 in_5 (L_iload_n dR_changeInto_53 rfl (L_imul dR_changeInto_54 (L_aload_n dR_changeInto_55 rfl (L_getF (b := 193) fw_R_119 rfl rfl (by decide) dR_changeInto_56 ⟨ob_161, L_iconst dR_changeInto_59 in_5 (L_iload_n dR_changeInto_60 rfl (L_imul dR_changeInto_61 (L_aload_n dR_changeInto_62 rfl (L_getF (b := 178) fw_R_71 rfl rfl (by decide) dR_changeInto_63 ⟨ob_161, L_callVV rfl cv_R_bracketOf (As := [vA 193, vI (w32 (5 * x1)), vA 193, vI (w32 (5 * x2)), vA 178]) rfl (tk8 157 rfl rfl) rfl (Nat.le_of_ble_eq_true rfl) dR_changeInto_66 ⟨ob_161, Tri.mono (h.2 c1) (fun r2 σ2 q2 => L_iconst dR_changeInto_69 in_0 (L_istore_n dR_changeInto_70 (by decide) q2))⟩⟩))))⟩))))⟩))⟩⟩))
theorem s_R_changeInto_71 {d : Nat} {x1 x2 x3 : Int} {σ : SG} {Q : Int → SG → Prop} (h : (σ 161 27 ≤ x3 → L (d + 1) M_R_changeInto 39 [vA 161, vI x1, vI (w32 (x2 + 1)), vU, vU, vU] [] σ Q) ∧ (x3 < σ 161 27 → L (d + 1) M_R_changeInto 85 [vA 161, vI x1, vI x2, vI x3, vI 0, vI 0] [] σ Q)) : L (d + 1) M_R_changeInto 71 [vA 161, vI x1, vI x2, vI x3, vU, vU] [] σ Q :=
  L_iload_n dR_changeInto_71 rfl (L_aload_n dR_changeInto_72 rfl (L_getf fw_R_253 rfl dR_changeInto_73 ⟨ob_161, L_icmp_ge dR_changeInto_76 (by decide) ⟨fun c1 => L_iinc dR_changeInto_143 rfl (by decide) (L_goto dR_changeInto_146 (by decide) (L_weak [true, true, true, false, true, true] (h.1 c1))), fun c1 => L_iconst dR_changeInto_79 in_0 (L_istore dR_changeInto_80 (by decide) (L_iconst dR_changeInto_82 in_0 (L_istore dR_changeInto_83 (by decide) (h.2 c1))))⟩⟩))
theorem s_R_changeInto_85 {d : Nat} {x1 x2 x3 x4 x5 : Int} {σ : SG} {Q : Int → SG → Prop} (h : (σ 161 27 ≤ x5 → Tri d M_R_set [vA 168, vI 0, vI x1, vI x2, vI x3, vI x4] σ (fun r2 σ2 => L (d + 1) M_R_changeInto 71 [vA 161, vI x1, vI x2, vI (w32 (x3 + 1)), vU, vU] [] σ2 Q)) ∧ (x5 < σ 161 27 → (0 ≤ x5 ∧ x5 < 5) ∧ (0 ≤ w32 ((w32 (5 * x5)) + x3) ∧ w32 ((w32 (5 * x5)) + x3) < 25) ∧ L (d + 1) M_R_changeInto 85 [vA 161, vI x1, vI x2, vI x3, vI (w32 (x4 + (w32 ((σ 178 x5) * (σ 194 (w32 ((w32 (5 * x5)) + x3))))))), vI (w32 (x5 + 1))] [] σ Q)) : L (d + 1) M_R_changeInto 85 [vA 161, vI x1, vI x2, vI x3, vI x4, vI x5] [] σ Q :=
  L_iload dR_changeInto_85 rfl (L_aload_n dR_changeInto_87 rfl (L_getf fw_R_253 rfl dR_changeInto_88 ⟨ob_161, L_icmp_ge dR_changeInto_91 (by decide) ⟨fun c1 => L_aload_n dR_changeInto_124 rfl (L_getF (b := 168) fw_R_41 rfl rfl (by decide) dR_changeInto_125 ⟨ob_161, L_iconst dR_changeInto_128 in_0 (L_iload_n dR_changeInto_129 rfl (L_iload_n dR_changeInto_130 rfl (L_iload_n dR_changeInto_131 rfl (L_iload dR_changeInto_132 rfl (L_callSV rfl cs_R_set (As := [vA 168, vI 0, vI x1, vI x2, vI x3, vI x4]) rfl (tk8 90 rfl rfl) rfl (Nat.le_of_ble_eq_true rfl) dR_changeInto_134 (Tri.mono (h.1 c1) (fun r2 σ2 q2 => L_iinc dR_changeInto_137 rfl (by decide) (L_goto dR_changeInto_140 (by decide) (L_weak [true, true, true, true, false, false] q2)))))))))⟩), fun c1 => L_iload dR_changeInto_94 rfl (L_aload_n dR_changeInto_96 rfl (L_getF (b := 178) fw_R_71 rfl rfl (by decide) dR_changeInto_97 ⟨ob_161, L_iload dR_changeInto_100 rfl (L_ialoadL kd_178 dR_changeInto_102 ⟨(h.2 c1).1, L_aload_n dR_changeInto_103 rfl (L_getF (b := 194) fw_R_122 rfl rfl (by decide) dR_changeInto_104 ⟨ob_161, L_iconst dR_changeInto_107 in_5 (L_iload dR_changeInto_108 rfl (L_imul dR_changeInto_110 (L_iload_n dR_changeInto_111 rfl (L_iadd dR_changeInto_112 (L_ialoadL kd_194 dR_changeInto_113 ⟨(h.2 c1).2.1, L_imul dR_changeInto_114 (L_iadd dR_changeInto_115 (L_istore dR_changeInto_116 (by decide) (L_iinc dR_changeInto_118 rfl (by decide) (L_goto dR_changeInto_121 (by decide) ((h.2 c1).2.2)))))⟩)))))⟩)⟩)⟩))⟩⟩))
theorem dR_takeOther_0 : decode prog_14_method_151_code 0 = .ok (.aload_n 0, 1) := by decide +kernel
theorem dR_takeOther_1 : decode prog_14_method_151_code 1 = .ok (.aload_n 0, 1) := by decide +kernel
theorem dR_takeOther_2 : decode prog_14_method_151_code 2 = .ok (.getfield 41, 3) := by decide +kernel
theorem dR_takeOther_5 : decode prog_14_method_151_code 5 = .ok (.iconst 0, 1) := by decide +kernel
theorem dR_takeOther_6 : decode prog_14_method_151_code 6 = .ok (.aload_n 0, 1) := by decide +kernel
theorem dR_takeOther_7 : decode prog_14_method_151_code 7 = .ok (.getfield 35, 3) := by decide +kernel
theorem dR_takeOther_10 : decode prog_14_method_151_code 10 = .ok (.iconst 0, 1) := by decide +kernel
theorem dR_takeOther_11 : decode prog_14_method_151_code 11 = .ok (.invokevirtual 316, 3) := by decide +kernel
theorem dR_takeOther_14 : decode prog_14_method_151_code 14 = .ok (.return_, 1) := by decide +kernel
theorem t_R_takeOther {d : Nat} {σ : SG} {Q : Int → SG → Prop} (h : Tri d M_R_move [vA 161, vA 168, vI 0, vA 166, vI 0] σ (fun r1 σ1 => Q 0 σ1)) : Tri (d + 1) M_R_takeOther [vA 161] σ Q :=
  Tri_intro rfl (Nat.le_of_ble_eq_true rfl) (ls := [vA 161]) rfl (fun hok => L_aload_n dR_takeOther_0 rfl (L_aload_n dR_takeOther_1 rfl (L_getF (b := 168) fw_R_41 rfl rfl (by decide) dR_takeOther_2 ⟨ob_161, L_iconst dR_takeOther_5 in_0 (L_aload_n dR_takeOther_6 rfl (L_getF (b := 166) fw_R_35 rfl rfl (by decide) dR_takeOther_7 ⟨ob_161, L_iconst dR_takeOther_10 in_0 (L_callVV rfl cv_R_move (As := [vA 168, vI 0, vA 166, vI 0]) rfl (tk8 100 rfl rfl) rfl (Nat.le_of_ble_eq_true rfl) dR_takeOther_11 ⟨ob_161, Tri.mono (h) (fun r1 σ1 q1 => L_return rfl dR_takeOther_14 q1)⟩)⟩))⟩)))
theorem dR_change_0 : decode prog_14_method_152_code 0 = .ok (.aload_n 0, 1) := by decide +kernel
theorem dR_change_1 : decode prog_14_method_152_code 1 = .ok (.iconst 0, 1) := by decide +kernel
theorem dR_change_2 : decode prog_14_method_152_code 2 = .ok (.putfield 132, 3) := by decide +kernel
theorem dR_change_5 : decode prog_14_method_152_code 5 = .ok (.aload_n 0, 1) := by decide +kernel
theorem dR_change_6 : decode prog_14_method_152_code 6 = .ok (.iconst 0, 1) := by decide +kernel
theorem dR_change_7 : decode prog_14_method_152_code 7 = .ok (.putfield 135, 3) := by decide +kernel
theorem dR_change_10 : decode prog_14_method_152_code 10 = .ok (.aload_n 0, 1) := by decide +kernel
theorem dR_change_11 : decode prog_14_method_152_code 11 = .ok (.invokevirtual 348, 3) := by decide +kernel
theorem dR_change_14 : decode prog_14_method_152_code 14 = .ok (.aload_n 0, 1) := by decide +kernel
theorem dR_change_15 : decode prog_14_method_152_code 15 = .ok (.iload_n 1, 1) := by decide +kernel
theorem dR_change_16 : decode prog_14_method_152_code 16 = .ok (.invokevirtual 402, 3) := by decide +kernel
theorem dR_change_19 : decode prog_14_method_152_code 19 = .ok (.ifCond .ne 9, 3) := by decide +kernel
theorem dR_change_22 : decode prog_14_method_152_code 22 = .ok (.aload_n 0, 1) := by decide +kernel
theorem dR_change_23 : decode prog_14_method_152_code 23 = .ok (.iconst 1, 1) := by decide +kernel
theorem dR_change_24 : decode prog_14_method_152_code 24 = .ok (.invokevirtual 147, 3) := by decide +kernel
theorem dR_change_27 : decode prog_14_method_152_code 27 = .ok (.ireturn, 1) := by decide +kernel
theorem dR_change_28 : decode prog_14_method_152_code 28 = .ok (.aload_n 0, 1) := by decide +kernel
theorem dR_change_29 : decode prog_14_method_152_code 29 = .ok (.getfield 17, 3) := by decide +kernel
theorem dR_change_32 : decode prog_14_method_152_code 32 = .ok (.iload_n 1, 1) := by decide +kernel
theorem dR_change_33 : decode prog_14_method_152_code 33 = .ok (.iaload, 1) := by decide +kernel
theorem dR_change_34 : decode prog_14_method_152_code 34 = .ok (.ifCond .ge 9, 3) := by decide +kernel
theorem dR_change_37 : decode prog_14_method_152_code 37 = .ok (.aload_n 0, 1) := by decide +kernel
theorem dR_change_38 : decode prog_14_method_152_code 38 = .ok (.iconst 3, 1) := by decide +kernel
theorem dR_change_39 : decode prog_14_method_152_code 39 = .ok (.invokevirtual 147, 3) := by decide +kernel
theorem dR_change_42 : decode prog_14_method_152_code 42 = .ok (.ireturn, 1) := by decide +kernel
theorem dR_change_43 : decode prog_14_method_152_code 43 = .ok (.aload_n 0, 1) := by decide +kernel
theorem dR_change_44 : decode prog_14_method_152_code 44 = .ok (.getfield 17, 3) := by decide +kernel
theorem dR_change_47 : decode prog_14_method_152_code 47 = .ok (.iload_n 1, 1) := by decide +kernel
theorem dR_change_48 : decode prog_14_method_152_code 48 = .ok (.iaload, 1) := by decide +kernel
theorem dR_change_49 : decode prog_14_method_152_code 49 = .ok (.aload_n 0, 1) := by decide +kernel
theorem dR_change_50 : decode prog_14_method_152_code 50 = .ok (.getfield 253, 3) := by decide +kernel
theorem dR_change_53 : decode prog_14_method_152_code 53 = .ok (.aload_n 0, 1) := by decide +kernel
theorem dR_change_54 : decode prog_14_method_152_code 54 = .ok (.getfield 253, 3) := by decide +kernel
theorem dR_change_57 : decode prog_14_method_152_code 57 = .ok (.imul, 1) := by decide +kernel
theorem dR_change_58 : decode prog_14_method_152_code 58 = .ok (.if_icmp .ge 9, 3) := by decide +kernel
theorem dR_change_61 : decode prog_14_method_152_code 61 = .ok (.aload_n 0, 1) := by decide +kernel
theorem dR_change_62 : decode prog_14_method_152_code 62 = .ok (.iconst 4, 1) := by decide +kernel
theorem dR_change_63 : decode prog_14_method_152_code 63 = .ok (.invokevirtual 147, 3) := by decide +kernel
theorem dR_change_66 : decode prog_14_method_152_code 66 = .ok (.ireturn, 1) := by decide +kernel
theorem dR_change_67 : decode prog_14_method_152_code 67 = .ok (.iconst 0, 1) := by decide +kernel
theorem dR_change_68 : decode prog_14_method_152_code 68 = .ok (.istore_n 2, 1) := by decide +kernel
theorem dR_change_69 : decode prog_14_method_152_code 69 = .ok (.iload_n 2, 1) := by decide +kernel
theorem dR_change_70 : decode prog_14_method_152_code 70 = .ok (.aload_n 0, 1) := by decide +kernel
theorem dR_change_71 : decode prog_14_method_152_code 71 = .ok (.getfield 253, 3) := by decide +kernel
theorem dR_change_74 : decode prog_14_method_152_code 74 = .ok (.aload_n 0, 1) := by decide +kernel
theorem dR_change_75 : decode prog_14_method_152_code 75 = .ok (.getfield 253, 3) := by decide +kernel
theorem dR_change_78 : decode prog_14_method_152_code 78 = .ok (.imul, 1) := by decide +kernel
theorem dR_change_79 : decode prog_14_method_152_code 79 = .ok (.if_icmp .ge 35, 3) := by decide +kernel
theorem dR_change_82 : decode prog_14_method_152_code 82 = .ok (.aload_n 0, 1) := by decide +kernel
theorem dR_change_83 : decode prog_14_method_152_code 83 = .ok (.iload_n 1, 1) := by decide +kernel
theorem dR_change_84 : decode prog_14_method_152_code 84 = .ok (.iload_n 2, 1) := by decide +kernel
theorem dR_change_85 : decode prog_14_method_152_code 85 = .ok (.invokevirtual 390, 3) := by decide +kernel
theorem dR_change_88 : decode prog_14_method_152_code 88 = .ok (.lconst 0, 1) := by decide +kernel
theorem dR_change_89 : decode prog_14_method_152_code 89 = .ok (.aload_n 0, 1) := by decide +kernel
theorem dR_change_90 : decode prog_14_method_152_code 90 = .ok (.getfield 250, 3) := by decide +kernel
theorem dR_change_93 : decode prog_14_method_152_code 93 = .ok (.iconst 1, 1) := by decide +kernel
theorem dR_change_94 : decode prog_14_method_152_code 94 = .ok (.isub, 1) := by decide +kernel
theorem dR_change_95 : decode prog_14_method_152_code 95 = .ok (.i2l, 1) := by decide +kernel
theorem dR_change_96 : decode prog_14_method_152_code 96 = .ok (.invokestatic 167, 3) := by decide +kernel
theorem dR_change_99 : decode prog_14_method_152_code 99 = .ok (.ifCond .ne 9, 3) := by decide +kernel
theorem dR_change_102 : decode prog_14_method_152_code 102 = .ok (.aload_n 0, 1) := by decide +kernel
theorem dR_change_103 : decode prog_14_method_152_code 103 = .ok (.iconst 5, 1) := by decide +kernel
theorem dR_change_104 : decode prog_14_method_152_code 104 = .ok (.invokevirtual 147, 3) := by decide +kernel
theorem dR_change_107 : decode prog_14_method_152_code 107 = .ok (.ireturn, 1) := by decide +kernel
theorem dR_change_108 : decode prog_14_method_152_code 108 = .ok (.iinc 2 1, 3) := by decide +kernel
theorem dR_change_111 : decode prog_14_method_152_code 111 = .ok (.goto (-42), 3) := by decide +kernel
theorem dR_change_114 : decode prog_14_method_152_code 114 = .ok (.iconst 0, 1) := by decide +kernel
theorem dR_change_115 : decode prog_14_method_152_code 115 = .ok (.istore_n 2, 1) := by decide +kernel
theorem dR_change_116 : decode prog_14_method_152_code 116 = .ok (.iload_n 2, 1) := by decide +kernel
theorem dR_change_117 : decode prog_14_method_152_code 117 = .ok (.aload_n 0, 1) := by decide +kernel
theorem dR_change_118 : decode prog_14_method_152_code 118 = .ok (.getfield 253, 3) := by decide +kernel
theorem dR_change_121 : decode prog_14_method_152_code 121 = .ok (.aload_n 0, 1) := by decide +kernel
theorem dR_change_122 : decode prog_14_method_152_code 122 = .ok (.getfield 253, 3) := by decide +kernel
theorem dR_change_125 : decode prog_14_method_152_code 125 = .ok (.imul, 1) := by decide +kernel
theorem dR_change_126 : decode prog_14_method_152_code 126 = .ok (.if_icmp .ge 36, 3) := by decide +kernel
theorem dR_change_129 : decode prog_14_method_152_code 129 = .ok (.aload_n 0, 1) := by decide +kernel
theorem dR_change_130 : decode prog_14_method_152_code 130 = .ok (.getfield 119, 3) := by decide +kernel
theorem dR_change_133 : decode prog_14_method_152_code 133 = .ok (.iconst 5, 1) := by decide +kernel
theorem dR_change_134 : decode prog_14_method_152_code 134 = .ok (.iload_n 2, 1) := by decide +kernel
theorem dR_change_135 : decode prog_14_method_152_code 135 = .ok (.aload_n 0, 1) := by decide +kernel
theorem dR_change_136 : decode prog_14_method_152_code 136 = .ok (.getfield 253, 3) := by decide +kernel
theorem dR_change_139 : decode prog_14_method_152_code 139 = .ok (.idiv, 1) := by decide +kernel
theorem dR_change_140 : decode prog_14_method_152_code 140 = .ok (.imul, 1) := by decide +kernel
theorem dR_change_141 : decode prog_14_method_152_code 141 = .ok (.iload_n 2, 1) := by decide +kernel
theorem dR_change_142 : decode prog_14_method_152_code 142 = .ok (.aload_n 0, 1) := by decide +kernel
theorem dR_change_143 : decode prog_14_method_152_code 143 = .ok (.getfield 253, 3) := by decide +kernel
theorem dR_change_146 : decode prog_14_method_152_code 146 = .ok (.irem, 1) := by decide +kernel
theorem dR_change_147 : decode prog_14_method_152_code 147 = .ok (.iadd, 1) := by decide +kernel
theorem dR_change_148 : decode prog_14_method_152_code 148 = .ok (.aload_n 0, 1) := by decide +kernel
theorem dR_change_149 : decode prog_14_method_152_code 149 = .ok (.iload_n 1, 1) := by decide +kernel
theorem dR_change_150 : decode prog_14_method_152_code 150 = .ok (.iload_n 2, 1) := by decide +kernel
theorem dR_change_151 : decode prog_14_method_152_code 151 = .ok (.invokevirtual 390, 3) := by decide +kernel
theorem dR_change_154 : decode prog_14_method_152_code 154 = .ok (.l2i, 1) := by decide +kernel
theorem dR_change_155 : decode prog_14_method_152_code 155 = .ok (.iastore, 1) := by decide +kernel
theorem dR_change_156 : decode prog_14_method_152_code 156 = .ok (.iinc 2 1, 3) := by decide +kernel
theorem dR_change_159 : decode prog_14_method_152_code 159 = .ok (.goto (-43), 3) := by decide +kernel
theorem dR_change_162 : decode prog_14_method_152_code 162 = .ok (.aload_n 0, 1) := by decide +kernel
theorem dR_change_163 : decode prog_14_method_152_code 163 = .ok (.invokevirtual 586, 3) := by decide +kernel
theorem dR_change_166 : decode prog_14_method_152_code 166 = .ok (.ifCond .ne 10, 3) := by decide +kernel
theorem dR_change_169 : decode prog_14_method_152_code 169 = .ok (.aload_n 0, 1) := by decide +kernel
theorem dR_change_170 : decode prog_14_method_152_code 170 = .ok (.bipush 9, 2) := by decide +kernel
theorem dR_change_172 : decode prog_14_method_152_code 172 = .ok (.invokevirtual 147, 3) := by decide +kernel
theorem dR_change_175 : decode prog_14_method_152_code 175 = .ok (.ireturn, 1) := by decide +kernel
theorem dR_change_176 : decode prog_14_method_152_code 176 = .ok (.aload_n 0, 1) := by decide +kernel
theorem dR_change_177 : decode prog_14_method_152_code 177 = .ok (.invokevirtual 589, 3) := by decide +kernel
theorem dR_change_180 : decode prog_14_method_152_code 180 = .ok (.iconst 1, 1) := by decide +kernel
theorem dR_change_181 : decode prog_14_method_152_code 181 = .ok (.ireturn, 1) := by decide +kernel
theorem t_R_change {d : Nat} {x1 : Int} {σ : SG} {Q : Int → SG → Prop} (h : inI x1 → ((∀ σ1, σ1 = up σ 161 1 0 → (∀ σ2, σ2 = up σ1 161 0 0 → Tri d M_R_askNow [vA 161] σ2 (fun r3 σ3 => Tri d M_R_isTray [vA 161, vI x1] σ3 (fun r4 σ4 => (r4 ≠ 0 → (0 ≤ x1 ∧ x1 < 4) ∧ (0 ≤ σ4 163 x1 → (0 ≤ x1 ∧ x1 < 4) ∧ (w32 ((σ4 161 27) * (σ4 161 27)) ≤ σ4 163 x1 → L (d + 1) M_R_change 69 [vA 161, vI x1, vI 0] [] σ4 Q) ∧ (σ4 163 x1 < w32 ((σ4 161 27) * (σ4 161 27)) → Tri d M_R_no [vA 161, vI 4] σ4 (fun r8 σ8 => (r8 = 0 ∨ r8 = 1) ∧ Q r8 σ8))) ∧ (σ4 163 x1 < 0 → Tri d M_R_no [vA 161, vI 3] σ4 (fun r9 σ9 => (r9 = 0 ∨ r9 = 1) ∧ Q r9 σ9))) ∧ (r4 = 0 → Tri d M_R_no [vA 161, vI 1] σ4 (fun r10 σ10 => (r10 = 0 ∨ r10 = 1) ∧ Q r10 σ10)))))))) : Tri (d + 1) M_R_change [vA 161, vI x1] σ Q :=
  Tri_intro rfl (Nat.le_of_ble_eq_true rfl) (ls := [vA 161, vI x1, vU]) rfl (fun hok => L_aload_n dR_change_0 rfl (L_iconst dR_change_1 in_0 (L_putfN fp_R_132 rfl rfl (fun _ => ⟨rfl, rfl⟩) dR_change_2 ⟨ob_161, fun σ1 e1 => L_aload_n dR_change_5 rfl (L_iconst dR_change_6 in_0 (L_putfN fp_R_135 rfl rfl (fun _ => ⟨rfl, rfl⟩) dR_change_7 ⟨ob_161, fun σ2 e2 => L_aload_n dR_change_10 rfl (L_callVV rfl cv_R_askNow (As := []) rfl (tk8 108 rfl rfl) rfl (Nat.le_of_ble_eq_true rfl) dR_change_11 ⟨ob_161, Tri.mono (((h (hok _ (List.mem_of_getElem? (i := 1) rfl))) σ1 e1) σ2 e2) (fun r3 σ3 q3 => L_aload_n dR_change_14 rfl (L_iload_n dR_change_15 rfl (L_callVI rfl cv_R_isTray (As := [vI x1]) rfl (tk8 213 rfl rfl) rfl (Nat.le_of_ble_eq_true rfl) dR_change_16 ⟨ob_161, Tri.mono q3 (fun r4 σ4 q4 => L_if_ne dR_change_19 (by decide) ⟨fun c5 => L_aload_n dR_change_28 rfl (L_getF (b := 163) fw_R_17 rfl rfl (by decide) dR_change_29 ⟨ob_161, L_iload_n dR_change_32 rfl (L_ialoadL kd_163 dR_change_33 ⟨(q4.1 c5).1, L_if_ge dR_change_34 (by decide) ⟨fun c6 => L_aload_n dR_change_43 rfl (L_getF (b := 163) fw_R_17 rfl rfl (by decide) dR_change_44 ⟨ob_161, L_iload_n dR_change_47 rfl (L_ialoadL kd_163 dR_change_48 ⟨((q4.1 c5).2.1 c6).1, L_aload_n dR_change_49 rfl (L_getf fw_R_253 rfl dR_change_50 ⟨ob_161, L_aload_n dR_change_53 rfl (L_getf fw_R_253 rfl dR_change_54 ⟨ob_161, L_imul dR_change_57 (L_icmp_ge dR_change_58 (by decide) ⟨fun c7 => L_iconst dR_change_67 in_0 (L_istore_n dR_change_68 (by decide) (((q4.1 c5).2.1 c6).2.1 c7)), fun c7 => L_aload_n dR_change_61 rfl (L_iconst dR_change_62 in_4 (L_callVI rfl cv_R_no (As := [vI 4]) rfl (tk7 188 rfl rfl) rfl (Nat.le_of_ble_eq_true rfl) dR_change_63 ⟨ob_161, Tri.mono (((q4.1 c5).2.1 c6).2.2 c7) (fun r8 σ8 q8 => L_zreturn rfl dR_change_66 q8)⟩))⟩)⟩)⟩)⟩)⟩), fun c6 => L_aload_n dR_change_37 rfl (L_iconst dR_change_38 in_3 (L_callVI rfl cv_R_no (As := [vI 3]) rfl (tk7 188 rfl rfl) rfl (Nat.le_of_ble_eq_true rfl) dR_change_39 ⟨ob_161, Tri.mono ((q4.1 c5).2.2 c6) (fun r9 σ9 q9 => L_zreturn rfl dR_change_42 q9)⟩))⟩⟩)⟩), fun c5 => L_aload_n dR_change_22 rfl (L_iconst dR_change_23 in_1 (L_callVI rfl cv_R_no (As := [vI 1]) rfl (tk7 188 rfl rfl) rfl (Nat.le_of_ble_eq_true rfl) dR_change_24 ⟨ob_161, Tri.mono (q4.2 c5) (fun r10 σ10 q10 => L_zreturn rfl dR_change_27 q10)⟩))⟩)⟩)))⟩)⟩))⟩)))
theorem s_R_change_69 {d : Nat} {x1 x2 : Int} {σ : SG} {Q : Int → SG → Prop} (h : (w32 ((σ 161 27) * (σ 161 27)) ≤ x2 → L (d + 1) M_R_change 116 [vA 161, vI x1, vI 0] [] σ Q) ∧ (x2 < w32 ((σ 161 27) * (σ 161 27)) → Tri d M_R_numberOf [vA 161, vI x1, vI x2] σ (fun r2 σ2 => Tri d M_R_isIn [vJ r2, vJ 0, vJ (w32 ((σ2 161 26) - 1))] σ2 (fun r3 σ3 => (r3 ≠ 0 → L (d + 1) M_R_change 69 [vA 161, vI x1, vI (w32 (x2 + 1))] [] σ3 Q) ∧ (r3 = 0 → Tri d M_R_no [vA 161, vI 5] σ3 (fun r5 σ5 => (r5 = 0 ∨ r5 = 1) ∧ Q r5 σ5)))))) : L (d + 1) M_R_change 69 [vA 161, vI x1, vI x2] [] σ Q :=
  L_iload_n dR_change_69 rfl (L_aload_n dR_change_70 rfl (L_getf fw_R_253 rfl dR_change_71 ⟨ob_161, L_aload_n dR_change_74 rfl (L_getf fw_R_253 rfl dR_change_75 ⟨ob_161, L_imul dR_change_78 (L_icmp_ge dR_change_79 (by decide) ⟨fun c1 => L_iconst dR_change_114 in_0 (L_istore_n dR_change_115 (by decide) (h.1 c1)), fun c1 => L_aload_n dR_change_82 rfl (L_iload_n dR_change_83 rfl (L_iload_n dR_change_84 rfl (L_callVJ rfl cv_R_numberOf (As := [vI x1, vI x2]) rfl (tk8 222 rfl rfl) rfl (Nat.le_of_ble_eq_true rfl) dR_change_85 ⟨ob_161, Tri.mono (h.2 c1) (fun r2 σ2 q2 => L_lconst (x := 0) dR_change_88 rfl inJ_0 (L_aload_n dR_change_89 rfl (L_getf fw_R_250 rfl dR_change_90 ⟨ob_161, L_iconst dR_change_93 in_1 (L_isub dR_change_94 (L_i2l dR_change_95 (L_callSI rfl cs_R_isIn (As := [vJ r2, vJ 0, vJ (w32 ((σ2 161 26) - 1))]) rfl (tk8 47 rfl rfl) rfl (Nat.le_of_ble_eq_true rfl) dR_change_96 (Tri.mono q2 (fun r3 σ3 q3 => L_if_ne dR_change_99 (by decide) ⟨fun c4 => L_iinc dR_change_108 rfl (by decide) (L_goto dR_change_111 (by decide) (q3.1 c4)), fun c4 => L_aload_n dR_change_102 rfl (L_iconst dR_change_103 in_5 (L_callVI rfl cv_R_no (As := [vI 5]) rfl (tk7 188 rfl rfl) rfl (Nat.le_of_ble_eq_true rfl) dR_change_104 ⟨ob_161, Tri.mono (q3.2 c4) (fun r5 σ5 q5 => L_zreturn rfl dR_change_107 q5)⟩))⟩)))))⟩)))⟩)))⟩)⟩)⟩))
theorem s_R_change_116 {d : Nat} {x1 x2 : Int} {σ : SG} {Q : Int → SG → Prop} (h : (w32 ((σ 161 27) * (σ 161 27)) ≤ x2 → Tri d M_R_changeInto [vA 161] σ (fun r2 σ2 => (r2 ≠ 0 → Tri d M_R_takeOther [vA 161] σ2 (fun r4 σ4 => Q 1 σ4)) ∧ (r2 = 0 → Tri d M_R_no [vA 161, vI 9] σ2 (fun r5 σ5 => (r5 = 0 ∨ r5 = 1) ∧ Q r5 σ5)))) ∧ (x2 < w32 ((σ 161 27) * (σ 161 27)) → σ 161 27 ≠ 0 ∧ σ 161 27 ≠ 0 ∧ Tri d M_R_numberOf [vA 161, vI x1, vI x2] σ (fun r6 σ6 => (0 ≤ w32 ((w32 (5 * (w32 (x2.tdiv (σ 161 27))))) + (x2.tmod (σ 161 27))) ∧ w32 ((w32 (5 * (w32 (x2.tdiv (σ 161 27))))) + (x2.tmod (σ 161 27))) < 25) ∧ (∀ σ7, σ7 = up σ6 193 (w32 ((w32 (5 * (w32 (x2.tdiv (σ 161 27))))) + (x2.tmod (σ 161 27)))) (w32 r6) → L (d + 1) M_R_change 116 [vA 161, vI x1, vI (w32 (x2 + 1))] [] σ7 Q)))) : L (d + 1) M_R_change 116 [vA 161, vI x1, vI x2] [] σ Q :=
  L_iload_n dR_change_116 rfl (L_aload_n dR_change_117 rfl (L_getf fw_R_253 rfl dR_change_118 ⟨ob_161, L_aload_n dR_change_121 rfl (L_getf fw_R_253 rfl dR_change_122 ⟨ob_161, L_imul dR_change_125 (L_icmp_ge dR_change_126 (by decide) ⟨fun c1 => L_aload_n dR_change_162 rfl (L_callVI rfl cv_R_changeInto (As := []) rfl (tk10 15 rfl rfl) rfl (Nat.le_of_ble_eq_true rfl) dR_change_163 ⟨ob_161, Tri.mono (h.1 c1) (fun r2 σ2 q2 => L_if_ne dR_change_166 (by decide) ⟨fun c3 => L_aload_n dR_change_176 rfl (L_callVV rfl cv_R_takeOther (As := []) rfl (tk10 27 rfl rfl) rfl (Nat.le_of_ble_eq_true rfl) dR_change_177 ⟨ob_161, Tri.mono (q2.1 c3) (fun r4 σ4 q4 => L_iconst dR_change_180 in_1 (L_zreturn1 rfl dR_change_181 q4))⟩), fun c3 => L_aload_n dR_change_169 rfl (L_bipush dR_change_170 bp_9 in_9 (L_callVI rfl cv_R_no (As := [vI 9]) rfl (tk7 188 rfl rfl) rfl (Nat.le_of_ble_eq_true rfl) dR_change_172 ⟨ob_161, Tri.mono (q2.2 c3) (fun r5 σ5 q5 => L_zreturn rfl dR_change_175 q5)⟩))⟩)⟩), fun c1 => L_aload_n dR_change_129 rfl (L_getF (b := 193) fw_R_119 rfl rfl (by decide) dR_change_130 ⟨ob_161, L_iconst dR_change_133 in_5 (L_iload_n dR_change_134 rfl (L_aload_n dR_change_135 rfl (L_getf fw_R_253 rfl dR_change_136 ⟨ob_161, L_idiv dR_change_139 ⟨(h.2 c1).1, L_imul dR_change_140 (L_iload_n dR_change_141 rfl (L_aload_n dR_change_142 rfl (L_getf fw_R_253 rfl dR_change_143 ⟨ob_161, L_irem dR_change_146 ⟨(h.2 c1).2.1, L_iadd dR_change_147 (L_aload_n dR_change_148 rfl (L_iload_n dR_change_149 rfl (L_iload_n dR_change_150 rfl (L_callVJ rfl cv_R_numberOf (As := [vI x1, vI x2]) rfl (tk8 222 rfl rfl) rfl (Nat.le_of_ble_eq_true rfl) dR_change_151 ⟨ob_161, Tri.mono ((h.2 c1).2.2) (fun r6 σ6 q6 => L_l2i dR_change_154 (L_iastoreL (by decide) kd_193 dR_change_155 ⟨q6.1, fun σ7 e7 => L_iinc dR_change_156 rfl (by decide) (L_goto dR_change_159 (by decide) (q6.2 σ7 e7))⟩))⟩))))⟩⟩)))⟩⟩)))⟩)⟩)⟩)⟩))
theorem dR_squeeze_0 : decode prog_14_method_153_code 0 = .ok (.aload_n 0, 1) := by decide +kernel
theorem dR_squeeze_1 : decode prog_14_method_153_code 1 = .ok (.iconst 0, 1) := by decide +kernel
theorem dR_squeeze_2 : decode prog_14_method_153_code 2 = .ok (.putfield 132, 3) := by decide +kernel
theorem dR_squeeze_5 : decode prog_14_method_153_code 5 = .ok (.aload_n 0, 1) := by decide +kernel
theorem dR_squeeze_6 : decode prog_14_method_153_code 6 = .ok (.iconst 0, 1) := by decide +kernel
theorem dR_squeeze_7 : decode prog_14_method_153_code 7 = .ok (.putfield 135, 3) := by decide +kernel
theorem dR_squeeze_10 : decode prog_14_method_153_code 10 = .ok (.aload_n 0, 1) := by decide +kernel
theorem dR_squeeze_11 : decode prog_14_method_153_code 11 = .ok (.invokevirtual 348, 3) := by decide +kernel
theorem dR_squeeze_14 : decode prog_14_method_153_code 14 = .ok (.aload_n 0, 1) := by decide +kernel
theorem dR_squeeze_15 : decode prog_14_method_153_code 15 = .ok (.iload_n 1, 1) := by decide +kernel
theorem dR_squeeze_16 : decode prog_14_method_153_code 16 = .ok (.invokevirtual 402, 3) := by decide +kernel
theorem dR_squeeze_19 : decode prog_14_method_153_code 19 = .ok (.ifCond .ne 9, 3) := by decide +kernel
theorem dR_squeeze_22 : decode prog_14_method_153_code 22 = .ok (.aload_n 0, 1) := by decide +kernel
theorem dR_squeeze_23 : decode prog_14_method_153_code 23 = .ok (.iconst 1, 1) := by decide +kernel
theorem dR_squeeze_24 : decode prog_14_method_153_code 24 = .ok (.invokevirtual 147, 3) := by decide +kernel
theorem dR_squeeze_27 : decode prog_14_method_153_code 27 = .ok (.ireturn, 1) := by decide +kernel
theorem dR_squeeze_28 : decode prog_14_method_153_code 28 = .ok (.aload_n 0, 1) := by decide +kernel
theorem dR_squeeze_29 : decode prog_14_method_153_code 29 = .ok (.getfield 17, 3) := by decide +kernel
theorem dR_squeeze_32 : decode prog_14_method_153_code 32 = .ok (.iload_n 1, 1) := by decide +kernel
theorem dR_squeeze_33 : decode prog_14_method_153_code 33 = .ok (.iaload, 1) := by decide +kernel
theorem dR_squeeze_34 : decode prog_14_method_153_code 34 = .ok (.ifCond .ge 9, 3) := by decide +kernel
theorem dR_squeeze_37 : decode prog_14_method_153_code 37 = .ok (.aload_n 0, 1) := by decide +kernel
theorem dR_squeeze_38 : decode prog_14_method_153_code 38 = .ok (.iconst 3, 1) := by decide +kernel
theorem dR_squeeze_39 : decode prog_14_method_153_code 39 = .ok (.invokevirtual 147, 3) := by decide +kernel
theorem dR_squeeze_42 : decode prog_14_method_153_code 42 = .ok (.ireturn, 1) := by decide +kernel
theorem dR_squeeze_43 : decode prog_14_method_153_code 43 = .ok (.aload_n 0, 1) := by decide +kernel
theorem dR_squeeze_44 : decode prog_14_method_153_code 44 = .ok (.getfield 17, 3) := by decide +kernel
theorem dR_squeeze_47 : decode prog_14_method_153_code 47 = .ok (.iload_n 1, 1) := by decide +kernel
theorem dR_squeeze_48 : decode prog_14_method_153_code 48 = .ok (.iaload, 1) := by decide +kernel
theorem dR_squeeze_49 : decode prog_14_method_153_code 49 = .ok (.aload_n 0, 1) := by decide +kernel
theorem dR_squeeze_50 : decode prog_14_method_153_code 50 = .ok (.getfield 253, 3) := by decide +kernel
theorem dR_squeeze_53 : decode prog_14_method_153_code 53 = .ok (.if_icmp .ge 9, 3) := by decide +kernel
theorem dR_squeeze_56 : decode prog_14_method_153_code 56 = .ok (.aload_n 0, 1) := by decide +kernel
theorem dR_squeeze_57 : decode prog_14_method_153_code 57 = .ok (.iconst 4, 1) := by decide +kernel
theorem dR_squeeze_58 : decode prog_14_method_153_code 58 = .ok (.invokevirtual 147, 3) := by decide +kernel
theorem dR_squeeze_61 : decode prog_14_method_153_code 61 = .ok (.ireturn, 1) := by decide +kernel
theorem dR_squeeze_62 : decode prog_14_method_153_code 62 = .ok (.iconst 0, 1) := by decide +kernel
theorem dR_squeeze_63 : decode prog_14_method_153_code 63 = .ok (.istore_n 2, 1) := by decide +kernel
theorem dR_squeeze_64 : decode prog_14_method_153_code 64 = .ok (.iload_n 2, 1) := by decide +kernel
theorem dR_squeeze_65 : decode prog_14_method_153_code 65 = .ok (.aload_n 0, 1) := by decide +kernel
theorem dR_squeeze_66 : decode prog_14_method_153_code 66 = .ok (.getfield 253, 3) := by decide +kernel
theorem dR_squeeze_69 : decode prog_14_method_153_code 69 = .ok (.if_icmp .ge 33, 3) := by decide +kernel
theorem dR_squeeze_72 : decode prog_14_method_153_code 72 = .ok (.aload_n 0, 1) := by decide +kernel
theorem dR_squeeze_73 : decode prog_14_method_153_code 73 = .ok (.iload_n 1, 1) := by decide +kernel
theorem dR_squeeze_74 : decode prog_14_method_153_code 74 = .ok (.iload_n 2, 1) := by decide +kernel
theorem dR_squeeze_75 : decode prog_14_method_153_code 75 = .ok (.invokevirtual 390, 3) := by decide +kernel
theorem dR_squeeze_78 : decode prog_14_method_153_code 78 = .ok (.ldc2_w 592, 3) := by decide +kernel
theorem dR_squeeze_81 : decode prog_14_method_153_code 81 = .ok (.ldc2_w 405, 3) := by decide +kernel
theorem dR_squeeze_84 : decode prog_14_method_153_code 84 = .ok (.invokestatic 167, 3) := by decide +kernel
theorem dR_squeeze_87 : decode prog_14_method_153_code 87 = .ok (.ifCond .ne 9, 3) := by decide +kernel
theorem dR_squeeze_90 : decode prog_14_method_153_code 90 = .ok (.aload_n 0, 1) := by decide +kernel
theorem dR_squeeze_91 : decode prog_14_method_153_code 91 = .ok (.iconst 5, 1) := by decide +kernel
theorem dR_squeeze_92 : decode prog_14_method_153_code 92 = .ok (.invokevirtual 147, 3) := by decide +kernel
theorem dR_squeeze_95 : decode prog_14_method_153_code 95 = .ok (.ireturn, 1) := by decide +kernel
theorem dR_squeeze_96 : decode prog_14_method_153_code 96 = .ok (.iinc 2 1, 3) := by decide +kernel
theorem dR_squeeze_99 : decode prog_14_method_153_code 99 = .ok (.goto (-35), 3) := by decide +kernel
theorem dR_squeeze_102 : decode prog_14_method_153_code 102 = .ok (.aload_n 0, 1) := by decide +kernel
theorem dR_squeeze_103 : decode prog_14_method_153_code 103 = .ok (.aload_n 0, 1) := by decide +kernel
theorem dR_squeeze_104 : decode prog_14_method_153_code 104 = .ok (.getfield 35, 3) := by decide +kernel
theorem dR_squeeze_107 : decode prog_14_method_153_code 107 = .ok (.iconst 0, 1) := by decide +kernel
theorem dR_squeeze_108 : decode prog_14_method_153_code 108 = .ok (.aload_n 0, 1) := by decide +kernel
theorem dR_squeeze_109 : decode prog_14_method_153_code 109 = .ok (.getfield 41, 3) := by decide +kernel
theorem dR_squeeze_112 : decode prog_14_method_153_code 112 = .ok (.iconst 0, 1) := by decide +kernel
theorem dR_squeeze_113 : decode prog_14_method_153_code 113 = .ok (.invokevirtual 316, 3) := by decide +kernel
theorem dR_squeeze_116 : decode prog_14_method_153_code 116 = .ok (.iconst 0, 1) := by decide +kernel
theorem dR_squeeze_117 : decode prog_14_method_153_code 117 = .ok (.istore_n 2, 1) := by decide +kernel
theorem dR_squeeze_118 : decode prog_14_method_153_code 118 = .ok (.iload_n 2, 1) := by decide +kernel
theorem dR_squeeze_119 : decode prog_14_method_153_code 119 = .ok (.aload_n 0, 1) := by decide +kernel
theorem dR_squeeze_120 : decode prog_14_method_153_code 120 = .ok (.getfield 253, 3) := by decide +kernel
theorem dR_squeeze_123 : decode prog_14_method_153_code 123 = .ok (.if_icmp .ge 113, 3) := by decide +kernel
theorem dR_squeeze_126 : decode prog_14_method_153_code 126 = .ok (.iload_n 2, 1) := by decide +kernel
theorem dR_squeeze_127 : decode prog_14_method_153_code 127 = .ok (.iconst 1, 1) := by decide +kernel
theorem dR_squeeze_128 : decode prog_14_method_153_code 128 = .ok (.iadd, 1) := by decide +kernel
theorem dR_squeeze_129 : decode prog_14_method_153_code 129 = .ok (.istore_n 3, 1) := by decide +kernel
theorem dR_squeeze_130 : decode prog_14_method_153_code 130 = .ok (.iload_n 3, 1) := by decide +kernel
theorem dR_squeeze_131 : decode prog_14_method_153_code 131 = .ok (.aload_n 0, 1) := by decide +kernel
theorem dR_squeeze_132 : decode prog_14_method_153_code 132 = .ok (.getfield 253, 3) := by decide +kernel
theorem dR_squeeze_135 : decode prog_14_method_153_code 135 = .ok (.if_icmp .ge 95, 3) := by decide +kernel
theorem dR_squeeze_138 : decode prog_14_method_153_code 138 = .ok (.iconst 0, 1) := by decide +kernel
theorem dR_squeeze_139 : decode prog_14_method_153_code 139 = .ok (.istore 4, 2) := by decide +kernel
theorem dR_squeeze_141 : decode prog_14_method_153_code 141 = .ok (.iload 4, 2) := by decide +kernel
theorem dR_squeeze_143 : decode prog_14_method_153_code 143 = .ok (.aload_n 0, 1) := by decide +kernel
theorem dR_squeeze_144 : decode prog_14_method_153_code 144 = .ok (.getfield 253, 3) := by decide +kernel
theorem dR_squeeze_147 : decode prog_14_method_153_code 147 = .ok (.if_icmp .ge 77, 3) := by decide +kernel
theorem dR_squeeze_150 : decode prog_14_method_153_code 150 = .ok (.aload_n 0, 1) := by decide +kernel
theorem dR_squeeze_151 : decode prog_14_method_153_code 151 = .ok (.iload_n 1, 1) := by decide +kernel
theorem dR_squeeze_152 : decode prog_14_method_153_code 152 = .ok (.iload_n 2, 1) := by decide +kernel
theorem dR_squeeze_153 : decode prog_14_method_153_code 153 = .ok (.invokevirtual 390, 3) := by decide +kernel
theorem dR_squeeze_156 : decode prog_14_method_153_code 156 = .ok (.aload_n 0, 1) := by decide +kernel
theorem dR_squeeze_157 : decode prog_14_method_153_code 157 = .ok (.iload_n 1, 1) := by decide +kernel
theorem dR_squeeze_158 : decode prog_14_method_153_code 158 = .ok (.iload_n 3, 1) := by decide +kernel
theorem dR_squeeze_159 : decode prog_14_method_153_code 159 = .ok (.invokevirtual 390, 3) := by decide +kernel
theorem dR_squeeze_162 : decode prog_14_method_153_code 162 = .ok (.ladd, 1) := by decide +kernel
theorem dR_squeeze_163 : decode prog_14_method_153_code 163 = .ok (.aload_n 0, 1) := by decide +kernel
theorem dR_squeeze_164 : decode prog_14_method_153_code 164 = .ok (.iload_n 1, 1) := by decide +kernel
theorem dR_squeeze_165 : decode prog_14_method_153_code 165 = .ok (.iload 4, 2) := by decide +kernel
theorem dR_squeeze_167 : decode prog_14_method_153_code 167 = .ok (.invokevirtual 390, 3) := by decide +kernel
theorem dR_squeeze_170 : decode prog_14_method_153_code 170 = .ok (.lsub, 1) := by decide +kernel
theorem dR_squeeze_171 : decode prog_14_method_153_code 171 = .ok (.lstore 5, 2) := by decide +kernel
theorem dR_squeeze_173 : decode prog_14_method_153_code 173 = .ok (.aload_n 0, 1) := by decide +kernel
theorem dR_squeeze_174 : decode prog_14_method_153_code 174 = .ok (.iload_n 2, 1) := by decide +kernel
theorem dR_squeeze_175 : decode prog_14_method_153_code 175 = .ok (.iload_n 3, 1) := by decide +kernel
theorem dR_squeeze_176 : decode prog_14_method_153_code 176 = .ok (.iload 4, 2) := by decide +kernel
theorem dR_squeeze_178 : decode prog_14_method_153_code 178 = .ok (.invokevirtual 327, 3) := by decide +kernel
theorem dR_squeeze_181 : decode prog_14_method_153_code 181 = .ok (.ifCond .eq 17, 3) := by decide +kernel
theorem dR_squeeze_184 : decode prog_14_method_153_code 184 = .ok (.lload 5, 2) := by decide +kernel
theorem dR_squeeze_186 : decode prog_14_method_153_code 186 = .ok (.lconst 0, 1) := by decide +kernel
theorem dR_squeeze_187 : decode prog_14_method_153_code 187 = .ok (.lcmp, 1) := by decide +kernel
theorem dR_squeeze_188 : decode prog_14_method_153_code 188 = .ok (.ifCond .ge 10, 3) := by decide +kernel
theorem dR_squeeze_191 : decode prog_14_method_153_code 191 = .ok (.aload_n 0, 1) := by decide +kernel
theorem dR_squeeze_192 : decode prog_14_method_153_code 192 = .ok (.bipush 9, 2) := by decide +kernel
theorem dR_squeeze_194 : decode prog_14_method_153_code 194 = .ok (.invokevirtual 147, 3) := by decide +kernel
theorem dR_squeeze_197 : decode prog_14_method_153_code 197 = .ok (.ireturn, 1) := by decide +kernel
theorem dR_squeeze_198 : decode prog_14_method_153_code 198 = .ok (.lload 5, 2) := by decide +kernel
theorem dR_squeeze_200 : decode prog_14_method_153_code 200 = .ok (.lconst 0, 1) := by decide +kernel
theorem dR_squeeze_201 : decode prog_14_method_153_code 201 = .ok (.lcmp, 1) := by decide +kernel
theorem dR_squeeze_202 : decode prog_14_method_153_code 202 = .ok (.ifCond .le 16, 3) := by decide +kernel
theorem dR_squeeze_205 : decode prog_14_method_153_code 205 = .ok (.aload_n 0, 1) := by decide +kernel
theorem dR_squeeze_206 : decode prog_14_method_153_code 206 = .ok (.getfield 41, 3) := by decide +kernel
theorem dR_squeeze_209 : decode prog_14_method_153_code 209 = .ok (.iconst 0, 1) := by decide +kernel
theorem dR_squeeze_210 : decode prog_14_method_153_code 210 = .ok (.iload_n 2, 1) := by decide +kernel
theorem dR_squeeze_211 : decode prog_14_method_153_code 211 = .ok (.iload_n 3, 1) := by decide +kernel
theorem dR_squeeze_212 : decode prog_14_method_153_code 212 = .ok (.iload 4, 2) := by decide +kernel
theorem dR_squeeze_214 : decode prog_14_method_153_code 214 = .ok (.iconst 0, 1) := by decide +kernel
theorem dR_squeeze_215 : decode prog_14_method_153_code 215 = .ok (.invokestatic 283, 3) := by decide +kernel
theorem dR_squeeze_218 : decode prog_14_method_153_code 218 = .ok (.iinc 4 1, 3) := by decide +kernel
theorem dR_squeeze_221 : decode prog_14_method_153_code 221 = .ok (.goto (-80), 3) := by decide +kernel
theorem dR_squeeze_224 : decode prog_14_method_153_code 224 = .ok (.iinc 3 1, 3) := by decide +kernel
theorem dR_squeeze_227 : decode prog_14_method_153_code 227 = .ok (.goto (-97), 3) := by decide +kernel
theorem dR_squeeze_230 : decode prog_14_method_153_code 230 = .ok (.iinc 2 1, 3) := by decide +kernel
theorem dR_squeeze_233 : decode prog_14_method_153_code 233 = .ok (.goto (-115), 3) := by decide +kernel
theorem dR_squeeze_236 : decode prog_14_method_153_code 236 = .ok (.aload_n 0, 1) := by decide +kernel
theorem dR_squeeze_237 : decode prog_14_method_153_code 237 = .ok (.invokevirtual 589, 3) := by decide +kernel
theorem dR_squeeze_240 : decode prog_14_method_153_code 240 = .ok (.iconst 1, 1) := by decide +kernel
theorem dR_squeeze_241 : decode prog_14_method_153_code 241 = .ok (.ireturn, 1) := by decide +kernel
theorem t_R_squeeze {d : Nat} {x1 : Int} {σ : SG} {Q : Int → SG → Prop} (h : inI x1 → ((∀ σ1, σ1 = up σ 161 1 0 → (∀ σ2, σ2 = up σ1 161 0 0 → Tri d M_R_askNow [vA 161] σ2 (fun r3 σ3 => Tri d M_R_isTray [vA 161, vI x1] σ3 (fun r4 σ4 => (r4 ≠ 0 → (0 ≤ x1 ∧ x1 < 4) ∧ (0 ≤ σ4 163 x1 → (0 ≤ x1 ∧ x1 < 4) ∧ (σ4 161 27 ≤ σ4 163 x1 → L (d + 1) M_R_squeeze 64 [vA 161, vI x1, vI 0, vU, vU, vU, vU] [] σ4 Q) ∧ (σ4 163 x1 < σ4 161 27 → Tri d M_R_no [vA 161, vI 4] σ4 (fun r8 σ8 => (r8 = 0 ∨ r8 = 1) ∧ Q r8 σ8))) ∧ (σ4 163 x1 < 0 → Tri d M_R_no [vA 161, vI 3] σ4 (fun r9 σ9 => (r9 = 0 ∨ r9 = 1) ∧ Q r9 σ9))) ∧ (r4 = 0 → Tri d M_R_no [vA 161, vI 1] σ4 (fun r10 σ10 => (r10 = 0 ∨ r10 = 1) ∧ Q r10 σ10)))))))) : Tri (d + 1) M_R_squeeze [vA 161, vI x1] σ Q :=
  Tri_intro rfl (Nat.le_of_ble_eq_true rfl) (ls := [vA 161, vI x1, vU, vU, vU, vU, vU]) rfl (fun hok => L_aload_n dR_squeeze_0 rfl (L_iconst dR_squeeze_1 in_0 (L_putfN fp_R_132 rfl rfl (fun _ => ⟨rfl, rfl⟩) dR_squeeze_2 ⟨ob_161, fun σ1 e1 => L_aload_n dR_squeeze_5 rfl (L_iconst dR_squeeze_6 in_0 (L_putfN fp_R_135 rfl rfl (fun _ => ⟨rfl, rfl⟩) dR_squeeze_7 ⟨ob_161, fun σ2 e2 => L_aload_n dR_squeeze_10 rfl (L_callVV rfl cv_R_askNow (As := []) rfl (tk8 108 rfl rfl) rfl (Nat.le_of_ble_eq_true rfl) dR_squeeze_11 ⟨ob_161, Tri.mono (((h (hok _ (List.mem_of_getElem? (i := 1) rfl))) σ1 e1) σ2 e2) (fun r3 σ3 q3 => L_aload_n dR_squeeze_14 rfl (L_iload_n dR_squeeze_15 rfl (L_callVI rfl cv_R_isTray (As := [vI x1]) rfl (tk8 213 rfl rfl) rfl (Nat.le_of_ble_eq_true rfl) dR_squeeze_16 ⟨ob_161, Tri.mono q3 (fun r4 σ4 q4 => L_if_ne dR_squeeze_19 (by decide) ⟨fun c5 => L_aload_n dR_squeeze_28 rfl (L_getF (b := 163) fw_R_17 rfl rfl (by decide) dR_squeeze_29 ⟨ob_161, L_iload_n dR_squeeze_32 rfl (L_ialoadL kd_163 dR_squeeze_33 ⟨(q4.1 c5).1, L_if_ge dR_squeeze_34 (by decide) ⟨fun c6 => L_aload_n dR_squeeze_43 rfl (L_getF (b := 163) fw_R_17 rfl rfl (by decide) dR_squeeze_44 ⟨ob_161, L_iload_n dR_squeeze_47 rfl (L_ialoadL kd_163 dR_squeeze_48 ⟨((q4.1 c5).2.1 c6).1, L_aload_n dR_squeeze_49 rfl (L_getf fw_R_253 rfl dR_squeeze_50 ⟨ob_161, L_icmp_ge dR_squeeze_53 (by decide) ⟨fun c7 => L_iconst dR_squeeze_62 in_0 (L_istore_n dR_squeeze_63 (by decide) (((q4.1 c5).2.1 c6).2.1 c7)), fun c7 => L_aload_n dR_squeeze_56 rfl (L_iconst dR_squeeze_57 in_4 (L_callVI rfl cv_R_no (As := [vI 4]) rfl (tk7 188 rfl rfl) rfl (Nat.le_of_ble_eq_true rfl) dR_squeeze_58 ⟨ob_161, Tri.mono (((q4.1 c5).2.1 c6).2.2 c7) (fun r8 σ8 q8 => L_zreturn rfl dR_squeeze_61 q8)⟩))⟩⟩)⟩)⟩), fun c6 => L_aload_n dR_squeeze_37 rfl (L_iconst dR_squeeze_38 in_3 (L_callVI rfl cv_R_no (As := [vI 3]) rfl (tk7 188 rfl rfl) rfl (Nat.le_of_ble_eq_true rfl) dR_squeeze_39 ⟨ob_161, Tri.mono ((q4.1 c5).2.2 c6) (fun r9 σ9 q9 => L_zreturn rfl dR_squeeze_42 q9)⟩))⟩⟩)⟩), fun c5 => L_aload_n dR_squeeze_22 rfl (L_iconst dR_squeeze_23 in_1 (L_callVI rfl cv_R_no (As := [vI 1]) rfl (tk7 188 rfl rfl) rfl (Nat.le_of_ble_eq_true rfl) dR_squeeze_24 ⟨ob_161, Tri.mono (q4.2 c5) (fun r10 σ10 q10 => L_zreturn rfl dR_squeeze_27 q10)⟩))⟩)⟩)))⟩)⟩))⟩)))
theorem s_R_squeeze_64 {d : Nat} {x1 x2 : Int} {σ : SG} {Q : Int → SG → Prop} (h : (σ 161 27 ≤ x2 → Tri d M_R_move [vA 161, vA 166, vI 0, vA 168, vI 0] σ (fun r2 σ2 => L (d + 1) M_R_squeeze 118 [vA 161, vI x1, vI 0, vU, vU, vU, vU] [] σ2 Q)) ∧ (x2 < σ 161 27 → Tri d M_R_numberOf [vA 161, vI x1, vI x2] σ (fun r3 σ3 => Tri d M_R_isIn [vJ r3, vJ (-20), vJ 20] σ3 (fun r4 σ4 => (r4 ≠ 0 → L (d + 1) M_R_squeeze 64 [vA 161, vI x1, vI (w32 (x2 + 1)), vU, vU, vU, vU] [] σ4 Q) ∧ (r4 = 0 → Tri d M_R_no [vA 161, vI 5] σ4 (fun r6 σ6 => (r6 = 0 ∨ r6 = 1) ∧ Q r6 σ6)))))) : L (d + 1) M_R_squeeze 64 [vA 161, vI x1, vI x2, vU, vU, vU, vU] [] σ Q :=
  L_iload_n dR_squeeze_64 rfl (L_aload_n dR_squeeze_65 rfl (L_getf fw_R_253 rfl dR_squeeze_66 ⟨ob_161, L_icmp_ge dR_squeeze_69 (by decide) ⟨fun c1 => L_aload_n dR_squeeze_102 rfl (L_aload_n dR_squeeze_103 rfl (L_getF (b := 166) fw_R_35 rfl rfl (by decide) dR_squeeze_104 ⟨ob_161, L_iconst dR_squeeze_107 in_0 (L_aload_n dR_squeeze_108 rfl (L_getF (b := 168) fw_R_41 rfl rfl (by decide) dR_squeeze_109 ⟨ob_161, L_iconst dR_squeeze_112 in_0 (L_callVV rfl cv_R_move (As := [vA 166, vI 0, vA 168, vI 0]) rfl (tk8 100 rfl rfl) rfl (Nat.le_of_ble_eq_true rfl) dR_squeeze_113 ⟨ob_161, Tri.mono (h.1 c1) (fun r2 σ2 q2 => L_iconst dR_squeeze_116 in_0 (L_istore_n dR_squeeze_117 (by decide) q2))⟩)⟩))⟩)), fun c1 => L_aload_n dR_squeeze_72 rfl (L_iload_n dR_squeeze_73 rfl (L_iload_n dR_squeeze_74 rfl (L_callVJ rfl cv_R_numberOf (As := [vI x1, vI x2]) rfl (tk8 222 rfl rfl) rfl (Nat.le_of_ble_eq_true rfl) dR_squeeze_75 ⟨ob_161, Tri.mono (h.2 c1) (fun r3 σ3 q3 => L_ldc2 (x := (-20)) (tk10 35 rfl rfl) rfl inJ_m20 dR_squeeze_78 (L_ldc2 (x := 20) (tk8 217 rfl rfl) rfl inJ_20 dR_squeeze_81 (L_callSI rfl cs_R_isIn (As := [vJ r3, vJ (-20), vJ 20]) rfl (tk8 47 rfl rfl) rfl (Nat.le_of_ble_eq_true rfl) dR_squeeze_84 (Tri.mono q3 (fun r4 σ4 q4 => L_if_ne dR_squeeze_87 (by decide) ⟨fun c5 => L_iinc dR_squeeze_96 rfl (by decide) (L_goto dR_squeeze_99 (by decide) (q4.1 c5)), fun c5 => L_aload_n dR_squeeze_90 rfl (L_iconst dR_squeeze_91 in_5 (L_callVI rfl cv_R_no (As := [vI 5]) rfl (tk7 188 rfl rfl) rfl (Nat.le_of_ble_eq_true rfl) dR_squeeze_92 ⟨ob_161, Tri.mono (q4.2 c5) (fun r6 σ6 q6 => L_zreturn rfl dR_squeeze_95 q6)⟩))⟩)))))⟩)))⟩⟩))
theorem s_R_squeeze_118 {d : Nat} {x1 x2 : Int} {σ : SG} {Q : Int → SG → Prop} (h : (σ 161 27 ≤ x2 → Tri d M_R_takeOther [vA 161] σ (fun r2 σ2 => Q 1 σ2)) ∧ (x2 < σ 161 27 → L (d + 1) M_R_squeeze 130 [vA 161, vI x1, vI x2, vI (w32 (x2 + 1)), vU, vU, vU] [] σ Q)) : L (d + 1) M_R_squeeze 118 [vA 161, vI x1, vI x2, vU, vU, vU, vU] [] σ Q :=
  L_iload_n dR_squeeze_118 rfl (L_aload_n dR_squeeze_119 rfl (L_getf fw_R_253 rfl dR_squeeze_120 ⟨ob_161, L_icmp_ge dR_squeeze_123 (by decide) ⟨fun c1 => L_aload_n dR_squeeze_236 rfl (L_callVV rfl cv_R_takeOther (As := []) rfl (tk10 27 rfl rfl) rfl (Nat.le_of_ble_eq_true rfl) dR_squeeze_237 ⟨ob_161, Tri.mono (h.1 c1) (fun r2 σ2 q2 => L_iconst dR_squeeze_240 in_1 (L_zreturn1 rfl dR_squeeze_241 q2))⟩), fun c1 => L_iload_n dR_squeeze_126 rfl (L_iconst dR_squeeze_127 in_1 (L_iadd dR_squeeze_128 (L_istore_n dR_squeeze_129 (by decide) (h.2 c1))))⟩⟩))
theorem s_R_squeeze_130 {d : Nat} {x1 x2 x3 : Int} {σ : SG} {Q : Int → SG → Prop} (h : (σ 161 27 ≤ x3 → L (d + 1) M_R_squeeze 118 [vA 161, vI x1, vI (w32 (x2 + 1)), vU, vU, vU, vU] [] σ Q) ∧ (x3 < σ 161 27 → L (d + 1) M_R_squeeze 141 [vA 161, vI x1, vI x2, vI x3, vI 0, vU, vU] [] σ Q)) : L (d + 1) M_R_squeeze 130 [vA 161, vI x1, vI x2, vI x3, vU, vU, vU] [] σ Q :=
  L_iload_n dR_squeeze_130 rfl (L_aload_n dR_squeeze_131 rfl (L_getf fw_R_253 rfl dR_squeeze_132 ⟨ob_161, L_icmp_ge dR_squeeze_135 (by decide) ⟨fun c1 => L_iinc dR_squeeze_230 rfl (by decide) (L_goto dR_squeeze_233 (by decide) (L_weak [true, true, true, false, true, true, true] (h.1 c1))), fun c1 => L_iconst dR_squeeze_138 in_0 (L_istore dR_squeeze_139 (by decide) (h.2 c1))⟩⟩))
theorem s_R_squeeze_141 {d : Nat} {x1 x2 x3 x4 : Int} {σ : SG} {Q : Int → SG → Prop} (h : (σ 161 27 ≤ x4 → L (d + 1) M_R_squeeze 130 [vA 161, vI x1, vI x2, vI (w32 (x3 + 1)), vU, vU, vU] [] σ Q) ∧ (x4 < σ 161 27 → Tri d M_R_numberOf [vA 161, vI x1, vI x2] σ (fun r2 σ2 => Tri d M_R_numberOf [vA 161, vI x1, vI x3] σ2 (fun r3 σ3 => Tri d M_R_numberOf [vA 161, vI x1, vI x4] σ3 (fun r4 σ4 => Tri d M_R_table [vA 161, vI x2, vI x3, vI x4] σ4 (fun r5 σ5 => (r5 = 0 → L (d + 1) M_R_squeeze 198 [vA 161, vI x1, vI x2, vI x3, vI x4, vJ (w64 ((w64 (r2 + r3)) - r4)), vU] [] σ5 Q) ∧ (r5 ≠ 0 → (0 ≤ cmp3 (w64 ((w64 (r2 + r3)) - r4)) 0 → L (d + 1) M_R_squeeze 198 [vA 161, vI x1, vI x2, vI x3, vI x4, vJ (w64 ((w64 (r2 + r3)) - r4)), vU] [] σ5 Q) ∧ (cmp3 (w64 ((w64 (r2 + r3)) - r4)) 0 < 0 → Tri d M_R_no [vA 161, vI 9] σ5 (fun r8 σ8 => (r8 = 0 ∨ r8 = 1) ∧ Q r8 σ8))))))))) : L (d + 1) M_R_squeeze 141 [vA 161, vI x1, vI x2, vI x3, vI x4, vU, vU] [] σ Q :=
  L_iload dR_squeeze_141 rfl (L_aload_n dR_squeeze_143 rfl (L_getf fw_R_253 rfl dR_squeeze_144 ⟨ob_161, L_icmp_ge dR_squeeze_147 (by decide) ⟨fun c1 => L_iinc dR_squeeze_224 rfl (by decide) (L_goto dR_squeeze_227 (by decide) (L_weak [true, true, true, true, false, true, true] (h.1 c1))), fun c1 => L_aload_n dR_squeeze_150 rfl (L_iload_n dR_squeeze_151 rfl (L_iload_n dR_squeeze_152 rfl (L_callVJ rfl cv_R_numberOf (As := [vI x1, vI x2]) rfl (tk8 222 rfl rfl) rfl (Nat.le_of_ble_eq_true rfl) dR_squeeze_153 ⟨ob_161, Tri.mono (h.2 c1) (fun r2 σ2 q2 => L_aload_n dR_squeeze_156 rfl (L_iload_n dR_squeeze_157 rfl (L_iload_n dR_squeeze_158 rfl (L_callVJ rfl cv_R_numberOf (As := [vI x1, vI x3]) rfl (tk8 222 rfl rfl) rfl (Nat.le_of_ble_eq_true rfl) dR_squeeze_159 ⟨ob_161, Tri.mono q2 (fun r3 σ3 q3 => L_ladd dR_squeeze_162 (L_aload_n dR_squeeze_163 rfl (L_iload_n dR_squeeze_164 rfl (L_iload dR_squeeze_165 rfl (L_callVJ rfl cv_R_numberOf (As := [vI x1, vI x4]) rfl (tk8 222 rfl rfl) rfl (Nat.le_of_ble_eq_true rfl) dR_squeeze_167 ⟨ob_161, Tri.mono q3 (fun r4 σ4 q4 => L_lsub dR_squeeze_170 (L_lstore dR_squeeze_171 (by decide) (L_aload_n dR_squeeze_173 rfl (L_iload_n dR_squeeze_174 rfl (L_iload_n dR_squeeze_175 rfl (L_iload dR_squeeze_176 rfl (L_callVI rfl cv_R_table (As := [vI x2, vI x3, vI x4]) rfl (tk8 121 rfl rfl) rfl (Nat.le_of_ble_eq_true rfl) dR_squeeze_178 ⟨ob_161, Tri.mono q4 (fun r5 σ5 q5 => L_if_eq dR_squeeze_181 (by decide) ⟨fun c6 => (q5.1 c6), fun c6 => L_lload dR_squeeze_184 rfl (L_lconst (x := 0) dR_squeeze_186 rfl inJ_0 (L_lcmp dR_squeeze_187 (L_if_ge dR_squeeze_188 (by decide) ⟨fun c7 => ((q5.2 c6).1 c7), fun c7 => L_aload_n dR_squeeze_191 rfl (L_bipush dR_squeeze_192 bp_9 in_9 (L_callVI rfl cv_R_no (As := [vI 9]) rfl (tk7 188 rfl rfl) rfl (Nat.le_of_ble_eq_true rfl) dR_squeeze_194 ⟨ob_161, Tri.mono ((q5.2 c6).2 c7) (fun r8 σ8 q8 => L_zreturn rfl dR_squeeze_197 q8)⟩))⟩)))⟩)⟩)))))))⟩)))))⟩))))⟩)))⟩⟩))
theorem s_R_squeeze_198 {d : Nat} {x1 x2 x3 x4 x5 : Int} {σ : SG} {Q : Int → SG → Prop} (h : (cmp3 x5 0 ≤ 0 → L (d + 1) M_R_squeeze 141 [vA 161, vI x1, vI x2, vI x3, vI (w32 (x4 + 1)), vU, vU] [] σ Q) ∧ (0 < cmp3 x5 0 → Tri d M_R_set [vA 168, vI 0, vI x2, vI x3, vI x4, vI 0] σ (fun r2 σ2 => L (d + 1) M_R_squeeze 141 [vA 161, vI x1, vI x2, vI x3, vI (w32 (x4 + 1)), vU, vU] [] σ2 Q))) : L (d + 1) M_R_squeeze 198 [vA 161, vI x1, vI x2, vI x3, vI x4, vJ x5, vU] [] σ Q :=
  L_lload dR_squeeze_198 rfl (L_lconst (x := 0) dR_squeeze_200 rfl inJ_0 (L_lcmp dR_squeeze_201 (L_if_le dR_squeeze_202 (by decide) ⟨fun c1 => L_iinc dR_squeeze_218 rfl (by decide) (L_goto dR_squeeze_221 (by decide) (L_weak [true, true, true, true, true, false, true] (h.1 c1))), fun c1 => L_aload_n dR_squeeze_205 rfl (L_getF (b := 168) fw_R_41 rfl rfl (by decide) dR_squeeze_206 ⟨ob_161, L_iconst dR_squeeze_209 in_0 (L_iload_n dR_squeeze_210 rfl (L_iload_n dR_squeeze_211 rfl (L_iload dR_squeeze_212 rfl (L_iconst dR_squeeze_214 in_0 (L_callSV rfl cs_R_set (As := [vA 168, vI 0, vI x2, vI x3, vI x4, vI 0]) rfl (tk8 90 rfl rfl) rfl (Nat.le_of_ble_eq_true rfl) dR_squeeze_215 (Tri.mono (h.2 c1) (fun r2 σ2 q2 => L_iinc dR_squeeze_218 rfl (by decide) (L_goto dR_squeeze_221 (by decide) (L_weak [true, true, true, true, true, false, true] q2)))))))))⟩)⟩)))
theorem dR_barred_0 : decode prog_14_method_154_code 0 = .ok (.aload_n 0, 1) := by decide +kernel
theorem dR_barred_1 : decode prog_14_method_154_code 1 = .ok (.iconst 0, 1) := by decide +kernel
theorem dR_barred_2 : decode prog_14_method_154_code 2 = .ok (.putfield 132, 3) := by decide +kernel
theorem dR_barred_5 : decode prog_14_method_154_code 5 = .ok (.aload_n 0, 1) := by decide +kernel
theorem dR_barred_6 : decode prog_14_method_154_code 6 = .ok (.iconst 0, 1) := by decide +kernel
theorem dR_barred_7 : decode prog_14_method_154_code 7 = .ok (.putfield 135, 3) := by decide +kernel
theorem dR_barred_10 : decode prog_14_method_154_code 10 = .ok (.iload_n 1, 1) := by decide +kernel
theorem dR_barred_11 : decode prog_14_method_154_code 11 = .ok (.invokestatic 384, 3) := by decide +kernel
theorem dR_barred_14 : decode prog_14_method_154_code 14 = .ok (.ifCond .ne 9, 3) := by decide +kernel
theorem dR_barred_17 : decode prog_14_method_154_code 17 = .ok (.aload_n 0, 1) := by decide +kernel
theorem dR_barred_18 : decode prog_14_method_154_code 18 = .ok (.iconst 2, 1) := by decide +kernel
theorem dR_barred_19 : decode prog_14_method_154_code 19 = .ok (.invokevirtual 351, 3) := by decide +kernel
theorem dR_barred_22 : decode prog_14_method_154_code 22 = .ok (.ireturn, 1) := by decide +kernel
theorem dR_barred_23 : decode prog_14_method_154_code 23 = .ok (.aload_n 0, 1) := by decide +kernel
theorem dR_barred_24 : decode prog_14_method_154_code 24 = .ok (.iload_n 1, 1) := by decide +kernel
theorem dR_barred_25 : decode prog_14_method_154_code 25 = .ok (.invokevirtual 387, 3) := by decide +kernel
theorem dR_barred_28 : decode prog_14_method_154_code 28 = .ok (.ifCond .eq 10, 3) := by decide +kernel
theorem dR_barred_31 : decode prog_14_method_154_code 31 = .ok (.aload_n 0, 1) := by decide +kernel
theorem dR_barred_32 : decode prog_14_method_154_code 32 = .ok (.bipush 8, 2) := by decide +kernel
theorem dR_barred_34 : decode prog_14_method_154_code 34 = .ok (.invokevirtual 351, 3) := by decide +kernel
theorem dR_barred_37 : decode prog_14_method_154_code 37 = .ok (.ireturn, 1) := by decide +kernel
theorem dR_barred_38 : decode prog_14_method_154_code 38 = .ok (.aload_n 0, 1) := by decide +kernel
theorem dR_barred_39 : decode prog_14_method_154_code 39 = .ok (.aload_n 0, 1) := by decide +kernel
theorem dR_barred_40 : decode prog_14_method_154_code 40 = .ok (.getfield 35, 3) := by decide +kernel
theorem dR_barred_43 : decode prog_14_method_154_code 43 = .ok (.bipush 127, 2) := by decide +kernel
theorem dR_barred_45 : decode prog_14_method_154_code 45 = .ok (.iload_n 1, 1) := by decide +kernel
theorem dR_barred_46 : decode prog_14_method_154_code 46 = .ok (.iconst 1, 1) := by decide +kernel
theorem dR_barred_47 : decode prog_14_method_154_code 47 = .ok (.iadd, 1) := by decide +kernel
theorem dR_barred_48 : decode prog_14_method_154_code 48 = .ok (.imul, 1) := by decide +kernel
theorem dR_barred_49 : decode prog_14_method_154_code 49 = .ok (.invokevirtual 569, 3) := by decide +kernel
theorem dR_barred_52 : decode prog_14_method_154_code 52 = .ok (.ifCond .eq 9, 3) := by decide +kernel
theorem dR_barred_55 : decode prog_14_method_154_code 55 = .ok (.aload_n 0, 1) := by decide +kernel
theorem dR_barred_56 : decode prog_14_method_154_code 56 = .ok (.iconst 5, 1) := by decide +kernel
theorem dR_barred_57 : decode prog_14_method_154_code 57 = .ok (.invokevirtual 351, 3) := by decide +kernel
theorem dR_barred_60 : decode prog_14_method_154_code 60 = .ok (.ireturn, 1) := by decide +kernel
theorem dR_barred_61 : decode prog_14_method_154_code 61 = .ok (.iconst 1, 1) := by decide +kernel
theorem dR_barred_62 : decode prog_14_method_154_code 62 = .ok (.istore_n 2, 1) := by decide +kernel
theorem dR_barred_63 : decode prog_14_method_154_code 63 = .ok (.iload_n 2, 1) := by decide +kernel
theorem dR_barred_64 : decode prog_14_method_154_code 64 = .ok (.iconst 4, 1) := by decide +kernel
theorem dR_barred_65 : decode prog_14_method_154_code 65 = .ok (.if_icmp .ge 85, 3) := by decide +kernel
theorem dR_barred_68 : decode prog_14_method_154_code 68 = .ok (.iload_n 2, 1) := by decide +kernel
theorem dR_barred_69 : decode prog_14_method_154_code 69 = .ok (.iconst 1, 1) := by decide +kernel
theorem dR_barred_70 : decode prog_14_method_154_code 70 = .ok (.if_icmp .ne 7, 3) := by decide +kernel
theorem dR_barred_73 : decode prog_14_method_154_code 73 = .ok (.iconst 5, 1) := by decide +kernel
theorem dR_barred_74 : decode prog_14_method_154_code 74 = .ok (.goto 13, 3) := by decide +kernel
theorem dR_barred_77 : decode prog_14_method_154_code 77 = .ok (.iload_n 2, 1) := by decide +kernel
theorem dR_barred_78 : decode prog_14_method_154_code 78 = .ok (.iconst 2, 1) := by decide +kernel
theorem dR_barred_79 : decode prog_14_method_154_code 79 = .ok (.if_icmp .ne 7, 3) := by decide +kernel
theorem dR_barred_82 : decode prog_14_method_154_code 82 = .ok (.iconst 1, 1) := by decide +kernel
theorem dR_barred_83 : decode prog_14_method_154_code 83 = .ok (.goto 4, 3) := by decide +kernel
theorem dR_barred_86 : decode prog_14_method_154_code 86 = .ok (.iconst 4, 1) := by decide +kernel
theorem dR_barred_87 : decode prog_14_method_154_code 87 = .ok (.istore_n 3, 1) := by decide +kernel
theorem dR_barred_88 : decode prog_14_method_154_code 88 = .ok (.aload_n 0, 1) := by decide +kernel
theorem dR_barred_89 : decode prog_14_method_154_code 89 = .ok (.invokevirtual 348, 3) := by decide +kernel
theorem dR_barred_92 : decode prog_14_method_154_code 92 = .ok (.aload_n 0, 1) := by decide +kernel
theorem dR_barred_93 : decode prog_14_method_154_code 93 = .ok (.iload_n 3, 1) := by decide +kernel
theorem dR_barred_94 : decode prog_14_method_154_code 94 = .ok (.invokevirtual 576, 3) := by decide +kernel
theorem dR_barred_97 : decode prog_14_method_154_code 97 = .ok (.istore 4, 2) := by decide +kernel
theorem dR_barred_99 : decode prog_14_method_154_code 99 = .ok (.aload_n 0, 1) := by decide +kernel
theorem dR_barred_100 : decode prog_14_method_154_code 100 = .ok (.aload_n 0, 1) := by decide +kernel
theorem dR_barred_101 : decode prog_14_method_154_code 101 = .ok (.getfield 35, 3) := by decide +kernel
theorem dR_barred_104 : decode prog_14_method_154_code 104 = .ok (.bipush 127, 2) := by decide +kernel
theorem dR_barred_106 : decode prog_14_method_154_code 106 = .ok (.iload_n 1, 1) := by decide +kernel
theorem dR_barred_107 : decode prog_14_method_154_code 107 = .ok (.iconst 1, 1) := by decide +kernel
theorem dR_barred_108 : decode prog_14_method_154_code 108 = .ok (.iadd, 1) := by decide +kernel
theorem dR_barred_109 : decode prog_14_method_154_code 109 = .ok (.imul, 1) := by decide +kernel
theorem dR_barred_110 : decode prog_14_method_154_code 110 = .ok (.invokevirtual 256, 3) := by decide +kernel
theorem dR_barred_113 : decode prog_14_method_154_code 113 = .ok (.aload_n 0, 1) := by decide +kernel
theorem dR_barred_114 : decode prog_14_method_154_code 114 = .ok (.iload_n 3, 1) := by decide +kernel
theorem dR_barred_115 : decode prog_14_method_154_code 115 = .ok (.invokevirtual 576, 3) := by decide +kernel
theorem dR_barred_118 : decode prog_14_method_154_code 118 = .ok (.istore 5, 2) := by decide +kernel
theorem dR_barred_120 : decode prog_14_method_154_code 120 = .ok (.iload_n 2, 1) := by decide +kernel
theorem dR_barred_121 : decode prog_14_method_154_code 121 = .ok (.iconst 2, 1) := by decide +kernel
theorem dR_barred_122 : decode prog_14_method_154_code 122 = .ok (.if_icmp .ne 13, 3) := by decide +kernel
theorem dR_barred_125 : decode prog_14_method_154_code 125 = .ok (.iload 5, 2) := by decide +kernel
theorem dR_barred_127 : decode prog_14_method_154_code 127 = .ok (.iload 4, 2) := by decide +kernel
theorem dR_barred_129 : decode prog_14_method_154_code 129 = .ok (.if_icmp .le 15, 3) := by decide +kernel
theorem dR_barred_132 : decode prog_14_method_154_code 132 = .ok (.goto 10, 3) := by decide +kernel
theorem dR_barred_135 : decode prog_14_method_154_code 135 = .ok (.iload 5, 2) := by decide +kernel
theorem dR_barred_137 : decode prog_14_method_154_code 137 = .ok (.iload 4, 2) := by decide +kernel
theorem dR_barred_139 : decode prog_14_method_154_code 139 = .ok (.if_icmp .ge 5, 3) := by decide +kernel
theorem dR_barred_142 : decode prog_14_method_154_code 142 = .ok (.iload_n 2, 1) := by decide +kernel
theorem dR_barred_143 : decode prog_14_method_154_code 143 = .ok (.ireturn, 1) := by decide +kernel
theorem dR_barred_144 : decode prog_14_method_154_code 144 = .ok (.iinc 2 1, 3) := by decide +kernel
theorem dR_barred_147 : decode prog_14_method_154_code 147 = .ok (.goto (-84), 3) := by decide +kernel
theorem dR_barred_150 : decode prog_14_method_154_code 150 = .ok (.iconst 0, 1) := by decide +kernel
theorem dR_barred_151 : decode prog_14_method_154_code 151 = .ok (.ireturn, 1) := by decide +kernel
theorem t_R_barred {d : Nat} {x1 : Int} {σ : SG} {Q : Int → SG → Prop} (h : inI x1 → ((∀ σ1, σ1 = up σ 161 1 0 → (∀ σ2, σ2 = up σ1 161 0 0 → Tri d M_R_isShelf [vI x1] σ2 (fun r3 σ3 => (r3 ≠ 0 → Tri d M_R_isEmpty [vA 161, vI x1] σ3 (fun r5 σ5 => (r5 = 0 → Tri d M_R_isUnlike [vA 161, vA 166, vI (w32 (127 * (w32 (x1 + 1))))] σ5 (fun r7 σ7 => (r7 = 0 → L (d + 1) M_R_barred 63 [vA 161, vI x1, vI 1, vU, vU, vU] [] σ7 Q) ∧ (r7 ≠ 0 → Tri d M_R_refuse [vA 161, vI 5] σ7 (fun r9 σ9 => Q r9 σ9)))) ∧ (r5 ≠ 0 → Tri d M_R_refuse [vA 161, vI 8] σ5 (fun r10 σ10 => Q r10 σ10)))) ∧ (r3 = 0 → Tri d M_R_refuse [vA 161, vI 2] σ3 (fun r11 σ11 => Q r11 σ11))))))) : Tri (d + 1) M_R_barred [vA 161, vI x1] σ Q :=
  Tri_intro rfl (Nat.le_of_ble_eq_true rfl) (ls := [vA 161, vI x1, vU, vU, vU, vU]) rfl (fun hok => L_aload_n dR_barred_0 rfl (L_iconst dR_barred_1 in_0 (L_putfN fp_R_132 rfl rfl (fun _ => ⟨rfl, rfl⟩) dR_barred_2 ⟨ob_161, fun σ1 e1 => L_aload_n dR_barred_5 rfl (L_iconst dR_barred_6 in_0 (L_putfN fp_R_135 rfl rfl (fun _ => ⟨rfl, rfl⟩) dR_barred_7 ⟨ob_161, fun σ2 e2 => L_iload_n dR_barred_10 rfl (L_callSI rfl cs_R_isShelf (As := [vI x1]) rfl (tk8 198 rfl rfl) rfl (Nat.le_of_ble_eq_true rfl) dR_barred_11 (Tri.mono (((h (hok _ (List.mem_of_getElem? (i := 1) rfl))) σ1 e1) σ2 e2) (fun r3 σ3 q3 => L_if_ne dR_barred_14 (by decide) ⟨fun c4 => L_aload_n dR_barred_23 rfl (L_iload_n dR_barred_24 rfl (L_callVI rfl cv_R_isEmpty (As := [vI x1]) rfl (tk8 205 rfl rfl) rfl (Nat.le_of_ble_eq_true rfl) dR_barred_25 ⟨ob_161, Tri.mono (q3.1 c4) (fun r5 σ5 q5 => L_if_eq dR_barred_28 (by decide) ⟨fun c6 => L_aload_n dR_barred_38 rfl (L_aload_n dR_barred_39 rfl (L_getF (b := 166) fw_R_35 rfl rfl (by decide) dR_barred_40 ⟨ob_161, L_bipush dR_barred_43 bp_127 in_127 (L_iload_n dR_barred_45 rfl (L_iconst dR_barred_46 in_1 (L_iadd dR_barred_47 (L_imul dR_barred_48 (L_callVI rfl cv_R_isUnlike (As := [vA 166, vI (w32 (127 * (w32 (x1 + 1))))]) rfl (tk9 235 rfl rfl) rfl (Nat.le_of_ble_eq_true rfl) dR_barred_49 ⟨ob_161, Tri.mono (q5.1 c6) (fun r7 σ7 q7 => L_if_eq dR_barred_52 (by decide) ⟨fun c8 => L_iconst dR_barred_61 in_1 (L_istore_n dR_barred_62 (by decide) (q7.1 c8)), fun c8 => L_aload_n dR_barred_55 rfl (L_iconst dR_barred_56 in_5 (L_callVI rfl cv_R_refuse (As := [vI 5]) rfl (tk8 117 rfl rfl) rfl (Nat.le_of_ble_eq_true rfl) dR_barred_57 ⟨ob_161, Tri.mono (q7.2 c8) (fun r9 σ9 q9 => L_ireturn rfl dR_barred_60 q9)⟩))⟩)⟩)))))⟩)), fun c6 => L_aload_n dR_barred_31 rfl (L_bipush dR_barred_32 bp_8 in_8 (L_callVI rfl cv_R_refuse (As := [vI 8]) rfl (tk8 117 rfl rfl) rfl (Nat.le_of_ble_eq_true rfl) dR_barred_34 ⟨ob_161, Tri.mono (q5.2 c6) (fun r10 σ10 q10 => L_ireturn rfl dR_barred_37 q10)⟩))⟩)⟩)), fun c4 => L_aload_n dR_barred_17 rfl (L_iconst dR_barred_18 in_2 (L_callVI rfl cv_R_refuse (As := [vI 2]) rfl (tk8 117 rfl rfl) rfl (Nat.le_of_ble_eq_true rfl) dR_barred_19 ⟨ob_161, Tri.mono (q3.2 c4) (fun r11 σ11 q11 => L_ireturn rfl dR_barred_22 q11)⟩))⟩)))⟩))⟩)))
theorem s_R_barred_63 {d : Nat} {x1 x2 : Int} {σ : SG} {Q : Int → SG → Prop} (h : (4 ≤ x2 → Q 0 σ) ∧ (x2 < 4 → (x2 ≠ 1 → (x2 ≠ 2 → L (d + 1) M_R_barred 87 [vA 161, vI x1, vI x2, vU, vU, vU] [vI 4] σ Q) ∧ (x2 = 2 → L (d + 1) M_R_barred 87 [vA 161, vI x1, vI x2, vU, vU, vU] [vI 1] σ Q)) ∧ (x2 = 1 → L (d + 1) M_R_barred 87 [vA 161, vI x1, vI x2, vU, vU, vU] [vI 5] σ Q))) : L (d + 1) M_R_barred 63 [vA 161, vI x1, vI x2, vU, vU, vU] [] σ Q :=
  L_iload_n dR_barred_63 rfl (L_iconst dR_barred_64 in_4 (L_icmp_ge dR_barred_65 (by decide) ⟨fun c1 => L_iconst dR_barred_150 in_0 (L_ireturn rfl dR_barred_151 (h.1 c1)), fun c1 => L_iload_n dR_barred_68 rfl (L_iconst dR_barred_69 in_1 (L_icmp_ne dR_barred_70 (by decide) ⟨fun c2 => L_iload_n dR_barred_77 rfl (L_iconst dR_barred_78 in_2 (L_icmp_ne dR_barred_79 (by decide) ⟨fun c3 => L_iconst dR_barred_86 in_4 (((h.2 c1).1 c2).1 c3), fun c3 => L_iconst dR_barred_82 in_1 (L_goto dR_barred_83 (by decide) (((h.2 c1).1 c2).2 c3))⟩)), fun c2 => L_iconst dR_barred_73 in_5 (L_goto dR_barred_74 (by decide) ((h.2 c1).2 c2))⟩))⟩))
theorem s_R_barred_87 {d : Nat} {x1 x2 y0 : Int} {σ : SG} {Q : Int → SG → Prop} (h : Tri d M_R_askNow [vA 161] σ (fun r1 σ1 => Tri d M_R_markBy [vA 161, vI y0] σ1 (fun r2 σ2 => Tri d M_R_ask [vA 161, vA 166, vI (w32 (127 * (w32 (x1 + 1))))] σ2 (fun r3 σ3 => Tri d M_R_markBy [vA 161, vI y0] σ3 (fun r4 σ4 => (x2 ≠ 2 → (r2 ≤ r4 → L (d + 1) M_R_barred 63 [vA 161, vI x1, vI (w32 (x2 + 1)), vU, vU, vU] [] σ4 Q) ∧ (r4 < r2 → Q x2 σ4)) ∧ (x2 = 2 → (r4 ≤ r2 → L (d + 1) M_R_barred 63 [vA 161, vI x1, vI (w32 (x2 + 1)), vU, vU, vU] [] σ4 Q) ∧ (r2 < r4 → Q x2 σ4))))))) : L (d + 1) M_R_barred 87 [vA 161, vI x1, vI x2, vU, vU, vU] [vI y0] σ Q :=
  L_istore_n dR_barred_87 (by decide) (L_aload_n dR_barred_88 rfl (L_callVV rfl cv_R_askNow (As := []) rfl (tk8 108 rfl rfl) rfl (Nat.le_of_ble_eq_true rfl) dR_barred_89 ⟨ob_161, Tri.mono h (fun r1 σ1 q1 => L_aload_n dR_barred_92 rfl (L_iload_n dR_barred_93 rfl (L_callVI rfl cv_R_markBy (As := [vI y0]) rfl (tk10 7 rfl rfl) rfl (Nat.le_of_ble_eq_true rfl) dR_barred_94 ⟨ob_161, Tri.mono q1 (fun r2 σ2 q2 => L_istore dR_barred_97 (by decide) (L_aload_n dR_barred_99 rfl (L_aload_n dR_barred_100 rfl (L_getF (b := 166) fw_R_35 rfl rfl (by decide) dR_barred_101 ⟨ob_161, L_bipush dR_barred_104 bp_127 in_127 (L_iload_n dR_barred_106 rfl (L_iconst dR_barred_107 in_1 (L_iadd dR_barred_108 (L_imul dR_barred_109 (L_callVV rfl cv_R_ask (As := [vA 166, vI (w32 (127 * (w32 (x1 + 1))))]) rfl (tk8 112 rfl rfl) rfl (Nat.le_of_ble_eq_true rfl) dR_barred_110 ⟨ob_161, Tri.mono q2 (fun r3 σ3 q3 => L_aload_n dR_barred_113 rfl (L_iload_n dR_barred_114 rfl (L_callVI rfl cv_R_markBy (As := [vI y0]) rfl (tk10 7 rfl rfl) rfl (Nat.le_of_ble_eq_true rfl) dR_barred_115 ⟨ob_161, Tri.mono q3 (fun r4 σ4 q4 => L_istore dR_barred_118 (by decide) (L_iload_n dR_barred_120 rfl (L_iconst dR_barred_121 in_2 (L_icmp_ne dR_barred_122 (by decide) ⟨fun c5 => L_iload dR_barred_135 rfl (L_iload dR_barred_137 rfl (L_icmp_ge dR_barred_139 (by decide) ⟨fun c6 => L_iinc dR_barred_144 rfl (by decide) (L_goto dR_barred_147 (by decide) (L_weak [true, true, true, false, false, false] ((q4.1 c5).1 c6))), fun c6 => L_iload_n dR_barred_142 rfl (L_ireturn rfl dR_barred_143 ((q4.1 c5).2 c6))⟩)), fun c5 => L_iload dR_barred_125 rfl (L_iload dR_barred_127 rfl (L_icmp_le dR_barred_129 (by decide) ⟨fun c7 => L_iinc dR_barred_144 rfl (by decide) (L_goto dR_barred_147 (by decide) (L_weak [true, true, true, false, false, false] ((q4.2 c5).1 c7))), fun c7 => L_goto dR_barred_132 (by decide) (L_iload_n dR_barred_142 rfl (L_ireturn rfl dR_barred_143 ((q4.2 c5).2 c7)))⟩))⟩))))⟩)))⟩)))))⟩))))⟩)))⟩))
theorem dR_couples_0 : decode prog_14_method_155_code 0 = .ok (.aload_n 0, 1) := by decide +kernel
theorem dR_couples_1 : decode prog_14_method_155_code 1 = .ok (.getfield 253, 3) := by decide +kernel
theorem dR_couples_4 : decode prog_14_method_155_code 4 = .ok (.aload_n 0, 1) := by decide +kernel
theorem dR_couples_5 : decode prog_14_method_155_code 5 = .ok (.getfield 253, 3) := by decide +kernel
theorem dR_couples_8 : decode prog_14_method_155_code 8 = .ok (.iconst 1, 1) := by decide +kernel
theorem dR_couples_9 : decode prog_14_method_155_code 9 = .ok (.isub, 1) := by decide +kernel
theorem dR_couples_10 : decode prog_14_method_155_code 10 = .ok (.imul, 1) := by decide +kernel
theorem dR_couples_11 : decode prog_14_method_155_code 11 = .ok (.iconst 2, 1) := by decide +kernel
theorem dR_couples_12 : decode prog_14_method_155_code 12 = .ok (.idiv, 1) := by decide +kernel
theorem dR_couples_13 : decode prog_14_method_155_code 13 = .ok (.ireturn, 1) := by decide +kernel
theorem t_R_couples {d : Nat} {σ : SG} {Q : Int → SG → Prop} (h : Q (w32 ((w32 ((σ 161 27) * (w32 ((σ 161 27) - 1)))).tdiv 2)) σ) : Tri (d + 1) M_R_couples [vA 161] σ Q :=
  Tri_intro rfl (Nat.le_of_ble_eq_true rfl) (ls := [vA 161]) rfl (fun hok => L_aload_n dR_couples_0 rfl (L_getf fw_R_253 rfl dR_couples_1 ⟨ob_161, L_aload_n dR_couples_4 rfl (L_getf fw_R_253 rfl dR_couples_5 ⟨ob_161, L_iconst dR_couples_8 in_1 (L_isub dR_couples_9 (L_imul dR_couples_10 (L_iconst dR_couples_11 in_2 (L_idiv dR_couples_12 ⟨by decide, L_ireturn rfl dR_couples_13 (h)⟩))))⟩)⟩))
theorem dR_coupleOf_0 : decode prog_14_method_156_code 0 = .ok (.iload_n 1, 1) := by decide +kernel
theorem dR_coupleOf_1 : decode prog_14_method_156_code 1 = .ok (.aload_n 0, 1) := by decide +kernel
theorem dR_coupleOf_2 : decode prog_14_method_156_code 2 = .ok (.getfield 253, 3) := by decide +kernel
theorem dR_coupleOf_5 : decode prog_14_method_156_code 5 = .ok (.imul, 1) := by decide +kernel
theorem dR_coupleOf_6 : decode prog_14_method_156_code 6 = .ok (.iload_n 1, 1) := by decide +kernel
theorem dR_coupleOf_7 : decode prog_14_method_156_code 7 = .ok (.iload_n 1, 1) := by decide +kernel
theorem dR_coupleOf_8 : decode prog_14_method_156_code 8 = .ok (.iconst 1, 1) := by decide +kernel
theorem dR_coupleOf_9 : decode prog_14_method_156_code 9 = .ok (.iadd, 1) := by decide +kernel
theorem dR_coupleOf_10 : decode prog_14_method_156_code 10 = .ok (.imul, 1) := by decide +kernel
theorem dR_coupleOf_11 : decode prog_14_method_156_code 11 = .ok (.iconst 2, 1) := by decide +kernel
theorem dR_coupleOf_12 : decode prog_14_method_156_code 12 = .ok (.idiv, 1) := by decide +kernel
theorem dR_coupleOf_13 : decode prog_14_method_156_code 13 = .ok (.isub, 1) := by decide +kernel
theorem dR_coupleOf_14 : decode prog_14_method_156_code 14 = .ok (.iload_n 2, 1) := by decide +kernel
theorem dR_coupleOf_15 : decode prog_14_method_156_code 15 = .ok (.iadd, 1) := by decide +kernel
theorem dR_coupleOf_16 : decode prog_14_method_156_code 16 = .ok (.iload_n 1, 1) := by decide +kernel
theorem dR_coupleOf_17 : decode prog_14_method_156_code 17 = .ok (.isub, 1) := by decide +kernel
theorem dR_coupleOf_18 : decode prog_14_method_156_code 18 = .ok (.iconst 1, 1) := by decide +kernel
theorem dR_coupleOf_19 : decode prog_14_method_156_code 19 = .ok (.isub, 1) := by decide +kernel
theorem dR_coupleOf_20 : decode prog_14_method_156_code 20 = .ok (.ireturn, 1) := by decide +kernel
theorem t_R_coupleOf {d : Nat} {x1 x2 : Int} {σ : SG} {Q : Int → SG → Prop} (h : inI x1 → inI x2 → (Q (w32 ((w32 ((w32 ((w32 ((w32 (x1 * (σ 161 27))) - (w32 ((w32 (x1 * (w32 (x1 + 1)))).tdiv 2)))) + x2)) - x1)) - 1)) σ)) : Tri (d + 1) M_R_coupleOf [vA 161, vI x1, vI x2] σ Q :=
  Tri_intro rfl (Nat.le_of_ble_eq_true rfl) (ls := [vA 161, vI x1, vI x2]) rfl (fun hok => L_iload_n dR_coupleOf_0 rfl (L_aload_n dR_coupleOf_1 rfl (L_getf fw_R_253 rfl dR_coupleOf_2 ⟨ob_161, L_imul dR_coupleOf_5 (L_iload_n dR_coupleOf_6 rfl (L_iload_n dR_coupleOf_7 rfl (L_iconst dR_coupleOf_8 in_1 (L_iadd dR_coupleOf_9 (L_imul dR_coupleOf_10 (L_iconst dR_coupleOf_11 in_2 (L_idiv dR_coupleOf_12 ⟨by decide, L_isub dR_coupleOf_13 (L_iload_n dR_coupleOf_14 rfl (L_iadd dR_coupleOf_15 (L_iload_n dR_coupleOf_16 rfl (L_isub dR_coupleOf_17 (L_iconst dR_coupleOf_18 in_1 (L_isub dR_coupleOf_19 (L_ireturn rfl dR_coupleOf_20 ((h (hok _ (List.mem_of_getElem? (i := 1) rfl)) (hok _ (List.mem_of_getElem? (i := 2) rfl)))))))))))⟩)))))))⟩)))
theorem dR_wrongForm_0 : decode prog_14_method_157_code 0 = .ok (.aload_n 0, 1) := by decide +kernel
theorem dR_wrongForm_1 : decode prog_14_method_157_code 1 = .ok (.getfield 17, 3) := by decide +kernel
theorem dR_wrongForm_4 : decode prog_14_method_157_code 4 = .ok (.iload_n 1, 1) := by decide +kernel
theorem dR_wrongForm_5 : decode prog_14_method_157_code 5 = .ok (.iaload, 1) := by decide +kernel
theorem dR_wrongForm_6 : decode prog_14_method_157_code 6 = .ok (.aload_n 0, 1) := by decide +kernel
theorem dR_wrongForm_7 : decode prog_14_method_157_code 7 = .ok (.invokevirtual 594, 3) := by decide +kernel
theorem dR_wrongForm_10 : decode prog_14_method_157_code 10 = .ok (.if_icmp .ge 5, 3) := by decide +kernel
theorem dR_wrongForm_13 : decode prog_14_method_157_code 13 = .ok (.iconst 4, 1) := by decide +kernel
theorem dR_wrongForm_14 : decode prog_14_method_157_code 14 = .ok (.ireturn, 1) := by decide +kernel
theorem dR_wrongForm_15 : decode prog_14_method_157_code 15 = .ok (.iconst 0, 1) := by decide +kernel
theorem dR_wrongForm_16 : decode prog_14_method_157_code 16 = .ok (.istore_n 2, 1) := by decide +kernel
theorem dR_wrongForm_17 : decode prog_14_method_157_code 17 = .ok (.iload_n 2, 1) := by decide +kernel
theorem dR_wrongForm_18 : decode prog_14_method_157_code 18 = .ok (.aload_n 0, 1) := by decide +kernel
theorem dR_wrongForm_19 : decode prog_14_method_157_code 19 = .ok (.invokevirtual 594, 3) := by decide +kernel
theorem dR_wrongForm_22 : decode prog_14_method_157_code 22 = .ok (.if_icmp .ge 31, 3) := by decide +kernel
theorem dR_wrongForm_25 : decode prog_14_method_157_code 25 = .ok (.aload_n 0, 1) := by decide +kernel
theorem dR_wrongForm_26 : decode prog_14_method_157_code 26 = .ok (.iload_n 1, 1) := by decide +kernel
theorem dR_wrongForm_27 : decode prog_14_method_157_code 27 = .ok (.iload_n 2, 1) := by decide +kernel
theorem dR_wrongForm_28 : decode prog_14_method_157_code 28 = .ok (.invokevirtual 390, 3) := by decide +kernel
theorem dR_wrongForm_31 : decode prog_14_method_157_code 31 = .ok (.lconst 0, 1) := by decide +kernel
theorem dR_wrongForm_32 : decode prog_14_method_157_code 32 = .ok (.aload_n 0, 1) := by decide +kernel
theorem dR_wrongForm_33 : decode prog_14_method_157_code 33 = .ok (.getfield 250, 3) := by decide +kernel
theorem dR_wrongForm_36 : decode prog_14_method_157_code 36 = .ok (.iconst 1, 1) := by decide +kernel
theorem dR_wrongForm_37 : decode prog_14_method_157_code 37 = .ok (.isub, 1) := by decide +kernel
theorem dR_wrongForm_38 : decode prog_14_method_157_code 38 = .ok (.i2l, 1) := by decide +kernel
theorem dR_wrongForm_39 : decode prog_14_method_157_code 39 = .ok (.invokestatic 167, 3) := by decide +kernel
theorem dR_wrongForm_42 : decode prog_14_method_157_code 42 = .ok (.ifCond .ne 5, 3) := by decide +kernel
theorem dR_wrongForm_45 : decode prog_14_method_157_code 45 = .ok (.iconst 5, 1) := by decide +kernel
theorem dR_wrongForm_46 : decode prog_14_method_157_code 46 = .ok (.ireturn, 1) := by decide +kernel
theorem dR_wrongForm_47 : decode prog_14_method_157_code 47 = .ok (.iinc 2 1, 3) := by decide +kernel
theorem dR_wrongForm_50 : decode prog_14_method_157_code 50 = .ok (.goto (-33), 3) := by decide +kernel
theorem dR_wrongForm_53 : decode prog_14_method_157_code 53 = .ok (.iconst 0, 1) := by decide +kernel
theorem dR_wrongForm_54 : decode prog_14_method_157_code 54 = .ok (.ireturn, 1) := by decide +kernel
theorem t_R_wrongForm {d : Nat} {x1 : Int} {σ : SG} {Q : Int → SG → Prop} (h : inI x1 → ((0 ≤ x1 ∧ x1 < 4) ∧ Tri d M_R_couples [vA 161] σ (fun r1 σ1 => (r1 ≤ σ 163 x1 → L (d + 1) M_R_wrongForm 17 [vA 161, vI x1, vI 0] [] σ1 Q) ∧ (σ 163 x1 < r1 → Q 4 σ1)))) : Tri (d + 1) M_R_wrongForm [vA 161, vI x1] σ Q :=
  Tri_intro rfl (Nat.le_of_ble_eq_true rfl) (ls := [vA 161, vI x1, vU]) rfl (fun hok => L_aload_n dR_wrongForm_0 rfl (L_getF (b := 163) fw_R_17 rfl rfl (by decide) dR_wrongForm_1 ⟨ob_161, L_iload_n dR_wrongForm_4 rfl (L_ialoadL kd_163 dR_wrongForm_5 ⟨(h (hok _ (List.mem_of_getElem? (i := 1) rfl))).1, L_aload_n dR_wrongForm_6 rfl (L_callVI rfl cv_R_couples (As := []) rfl (tk10 48 rfl rfl) rfl (Nat.le_of_ble_eq_true rfl) dR_wrongForm_7 ⟨ob_161, Tri.mono ((h (hok _ (List.mem_of_getElem? (i := 1) rfl))).2) (fun r1 σ1 q1 => L_icmp_ge dR_wrongForm_10 (by decide) ⟨fun c2 => L_iconst dR_wrongForm_15 in_0 (L_istore_n dR_wrongForm_16 (by decide) (q1.1 c2)), fun c2 => L_iconst dR_wrongForm_13 in_4 (L_ireturn rfl dR_wrongForm_14 (q1.2 c2))⟩)⟩)⟩)⟩))
theorem s_R_wrongForm_17 {d : Nat} {x1 x2 : Int} {σ : SG} {Q : Int → SG → Prop} (h : Tri d M_R_couples [vA 161] σ (fun r1 σ1 => (r1 ≤ x2 → Q 0 σ1) ∧ (x2 < r1 → Tri d M_R_numberOf [vA 161, vI x1, vI x2] σ1 (fun r3 σ3 => Tri d M_R_isIn [vJ r3, vJ 0, vJ (w32 ((σ3 161 26) - 1))] σ3 (fun r4 σ4 => (r4 ≠ 0 → L (d + 1) M_R_wrongForm 17 [vA 161, vI x1, vI (w32 (x2 + 1))] [] σ4 Q) ∧ (r4 = 0 → Q 5 σ4)))))) : L (d + 1) M_R_wrongForm 17 [vA 161, vI x1, vI x2] [] σ Q :=
  L_iload_n dR_wrongForm_17 rfl (L_aload_n dR_wrongForm_18 rfl (L_callVI rfl cv_R_couples (As := []) rfl (tk10 48 rfl rfl) rfl (Nat.le_of_ble_eq_true rfl) dR_wrongForm_19 ⟨ob_161, Tri.mono h (fun r1 σ1 q1 => L_icmp_ge dR_wrongForm_22 (by decide) ⟨fun c2 => L_iconst dR_wrongForm_53 in_0 (L_ireturn rfl dR_wrongForm_54 (q1.1 c2)), fun c2 => L_aload_n dR_wrongForm_25 rfl (L_iload_n dR_wrongForm_26 rfl (L_iload_n dR_wrongForm_27 rfl (L_callVJ rfl cv_R_numberOf (As := [vI x1, vI x2]) rfl (tk8 222 rfl rfl) rfl (Nat.le_of_ble_eq_true rfl) dR_wrongForm_28 ⟨ob_161, Tri.mono (q1.2 c2) (fun r3 σ3 q3 => L_lconst (x := 0) dR_wrongForm_31 rfl inJ_0 (L_aload_n dR_wrongForm_32 rfl (L_getf fw_R_250 rfl dR_wrongForm_33 ⟨ob_161, L_iconst dR_wrongForm_36 in_1 (L_isub dR_wrongForm_37 (L_i2l dR_wrongForm_38 (L_callSI rfl cs_R_isIn (As := [vJ r3, vJ 0, vJ (w32 ((σ3 161 26) - 1))]) rfl (tk8 47 rfl rfl) rfl (Nat.le_of_ble_eq_true rfl) dR_wrongForm_39 (Tri.mono q3 (fun r4 σ4 q4 => L_if_ne dR_wrongForm_42 (by decide) ⟨fun c5 => L_iinc dR_wrongForm_47 rfl (by decide) (L_goto dR_wrongForm_50 (by decide) (q4.1 c5)), fun c5 => L_iconst dR_wrongForm_45 in_5 (L_ireturn rfl dR_wrongForm_46 (q4.2 c5))⟩)))))⟩)))⟩)))⟩)⟩))
theorem dR_formOf_0 : decode prog_14_method_158_code 0 = .ok (.iload_n 2, 1) := by decide +kernel
theorem dR_formOf_1 : decode prog_14_method_158_code 1 = .ok (.iload_n 3, 1) := by decide +kernel
theorem dR_formOf_2 : decode prog_14_method_158_code 2 = .ok (.if_icmp .ne 7, 3) := by decide +kernel
theorem dR_formOf_5 : decode prog_14_method_158_code 5 = .ok (.iconst 0, 1) := by decide +kernel
theorem dR_formOf_6 : decode prog_14_method_158_code 6 = .ok (.goto 36, 3) := by decide +kernel
theorem dR_formOf_9 : decode prog_14_method_158_code 9 = .ok (.iload_n 2, 1) := by decide +kernel
theorem dR_formOf_10 : decode prog_14_method_158_code 10 = .ok (.iload_n 3, 1) := by decide +kernel
theorem dR_formOf_11 : decode prog_14_method_158_code 11 = .ok (.if_icmp .ge 18, 3) := by decide +kernel
theorem dR_formOf_14 : decode prog_14_method_158_code 14 = .ok (.aload_n 0, 1) := by decide +kernel
theorem dR_formOf_15 : decode prog_14_method_158_code 15 = .ok (.iload_n 1, 1) := by decide +kernel
theorem dR_formOf_16 : decode prog_14_method_158_code 16 = .ok (.aload_n 0, 1) := by decide +kernel
theorem dR_formOf_17 : decode prog_14_method_158_code 17 = .ok (.iload_n 2, 1) := by decide +kernel
theorem dR_formOf_18 : decode prog_14_method_158_code 18 = .ok (.iload_n 3, 1) := by decide +kernel
theorem dR_formOf_19 : decode prog_14_method_158_code 19 = .ok (.invokevirtual 597, 3) := by decide +kernel
theorem dR_formOf_22 : decode prog_14_method_158_code 22 = .ok (.invokevirtual 390, 3) := by decide +kernel
theorem dR_formOf_25 : decode prog_14_method_158_code 25 = .ok (.l2i, 1) := by decide +kernel
theorem dR_formOf_26 : decode prog_14_method_158_code 26 = .ok (.goto 16, 3) := by decide +kernel
theorem dR_formOf_29 : decode prog_14_method_158_code 29 = .ok (.aload_n 0, 1) := by decide +kernel
theorem dR_formOf_30 : decode prog_14_method_158_code 30 = .ok (.iload_n 1, 1) := by decide +kernel
theorem dR_formOf_31 : decode prog_14_method_158_code 31 = .ok (.aload_n 0, 1) := by decide +kernel
theorem dR_formOf_32 : decode prog_14_method_158_code 32 = .ok (.iload_n 3, 1) := by decide +kernel
theorem dR_formOf_33 : decode prog_14_method_158_code 33 = .ok (.iload_n 2, 1) := by decide +kernel
theorem dR_formOf_34 : decode prog_14_method_158_code 34 = .ok (.invokevirtual 597, 3) := by decide +kernel
theorem dR_formOf_37 : decode prog_14_method_158_code 37 = .ok (.invokevirtual 390, 3) := by decide +kernel
theorem dR_formOf_40 : decode prog_14_method_158_code 40 = .ok (.l2i, 1) := by decide +kernel
theorem dR_formOf_41 : decode prog_14_method_158_code 41 = .ok (.ineg, 1) := by decide +kernel
theorem dR_formOf_42 : decode prog_14_method_158_code 42 = .ok (.ireturn, 1) := by decide +kernel
theorem t_R_formOf {d : Nat} {x1 x2 x3 : Int} {σ : SG} {Q : Int → SG → Prop} (h : inI x1 → inI x2 → inI x3 → ((x2 ≠ x3 → (x3 ≤ x2 → Tri d M_R_coupleOf [vA 161, vI x3, vI x2] σ (fun r3 σ3 => Tri d M_R_numberOf [vA 161, vI x1, vI r3] σ3 (fun r4 σ4 => Q (w32 (-(w32 r4))) σ4))) ∧ (x2 < x3 → Tri d M_R_coupleOf [vA 161, vI x2, vI x3] σ (fun r5 σ5 => Tri d M_R_numberOf [vA 161, vI x1, vI r5] σ5 (fun r6 σ6 => Q (w32 r6) σ6)))) ∧ (x2 = x3 → Q 0 σ))) : Tri (d + 1) M_R_formOf [vA 161, vI x1, vI x2, vI x3] σ Q :=
  Tri_intro rfl (Nat.le_of_ble_eq_true rfl) (ls := [vA 161, vI x1, vI x2, vI x3]) rfl (fun hok => L_iload_n dR_formOf_0 rfl (L_iload_n dR_formOf_1 rfl (L_icmp_ne dR_formOf_2 (by decide) ⟨fun c1 => L_iload_n dR_formOf_9 rfl (L_iload_n dR_formOf_10 rfl (L_icmp_ge dR_formOf_11 (by decide) ⟨fun c2 => L_aload_n dR_formOf_29 rfl (L_iload_n dR_formOf_30 rfl (L_aload_n dR_formOf_31 rfl (L_iload_n dR_formOf_32 rfl (L_iload_n dR_formOf_33 rfl (L_callVI rfl cv_R_coupleOf (As := [vI x3, vI x2]) rfl (tk10 64 rfl rfl) rfl (Nat.le_of_ble_eq_true rfl) dR_formOf_34 ⟨ob_161, Tri.mono (((h (hok _ (List.mem_of_getElem? (i := 1) rfl)) (hok _ (List.mem_of_getElem? (i := 2) rfl)) (hok _ (List.mem_of_getElem? (i := 3) rfl))).1 c1).1 c2) (fun r3 σ3 q3 => L_callVJ rfl cv_R_numberOf (As := [vI x1, vI r3]) rfl (tk8 222 rfl rfl) rfl (Nat.le_of_ble_eq_true rfl) dR_formOf_37 ⟨ob_161, Tri.mono q3 (fun r4 σ4 q4 => L_l2i dR_formOf_40 (L_ineg dR_formOf_41 (L_ireturn rfl dR_formOf_42 q4)))⟩)⟩))))), fun c2 => L_aload_n dR_formOf_14 rfl (L_iload_n dR_formOf_15 rfl (L_aload_n dR_formOf_16 rfl (L_iload_n dR_formOf_17 rfl (L_iload_n dR_formOf_18 rfl (L_callVI rfl cv_R_coupleOf (As := [vI x2, vI x3]) rfl (tk10 64 rfl rfl) rfl (Nat.le_of_ble_eq_true rfl) dR_formOf_19 ⟨ob_161, Tri.mono (((h (hok _ (List.mem_of_getElem? (i := 1) rfl)) (hok _ (List.mem_of_getElem? (i := 2) rfl)) (hok _ (List.mem_of_getElem? (i := 3) rfl))).1 c1).2 c2) (fun r5 σ5 q5 => L_callVJ rfl cv_R_numberOf (As := [vI x1, vI r5]) rfl (tk8 222 rfl rfl) rfl (Nat.le_of_ble_eq_true rfl) dR_formOf_22 ⟨ob_161, Tri.mono q5 (fun r6 σ6 q6 => L_l2i dR_formOf_25 (L_goto dR_formOf_26 (by decide) (L_ireturn rfl dR_formOf_42 q6)))⟩)⟩)))))⟩)), fun c1 => L_iconst dR_formOf_5 in_0 (L_goto dR_formOf_6 (by decide) (L_ireturn rfl dR_formOf_42 ((h (hok _ (List.mem_of_getElem? (i := 1) rfl)) (hok _ (List.mem_of_getElem? (i := 2) rfl)) (hok _ (List.mem_of_getElem? (i := 3) rfl))).2 c1)))⟩)))
theorem dR_formOfBracket_0 : decode prog_14_method_159_code 0 = .ok (.iconst 0, 1) := by decide +kernel
theorem dR_formOfBracket_1 : decode prog_14_method_159_code 1 = .ok (.istore 5, 2) := by decide +kernel
theorem dR_formOfBracket_3 : decode prog_14_method_159_code 3 = .ok (.iconst 0, 1) := by decide +kernel
theorem dR_formOfBracket_4 : decode prog_14_method_159_code 4 = .ok (.istore 6, 2) := by decide +kernel
theorem dR_formOfBracket_6 : decode prog_14_method_159_code 6 = .ok (.iload 6, 2) := by decide +kernel
theorem dR_formOfBracket_8 : decode prog_14_method_159_code 8 = .ok (.aload_n 0, 1) := by decide +kernel
theorem dR_formOfBracket_9 : decode prog_14_method_159_code 9 = .ok (.getfield 253, 3) := by decide +kernel
theorem dR_formOfBracket_12 : decode prog_14_method_159_code 12 = .ok (.if_icmp .ge 32, 3) := by decide +kernel
theorem dR_formOfBracket_15 : decode prog_14_method_159_code 15 = .ok (.iload 5, 2) := by decide +kernel
theorem dR_formOfBracket_17 : decode prog_14_method_159_code 17 = .ok (.aload_n 0, 1) := by decide +kernel
theorem dR_formOfBracket_18 : decode prog_14_method_159_code 18 = .ok (.iload_n 2, 1) := by decide +kernel
theorem dR_formOfBracket_19 : decode prog_14_method_159_code 19 = .ok (.iload_n 3, 1) := by decide +kernel
theorem dR_formOfBracket_20 : decode prog_14_method_159_code 20 = .ok (.iload 6, 2) := by decide +kernel
theorem dR_formOfBracket_22 : decode prog_14_method_159_code 22 = .ok (.invokevirtual 327, 3) := by decide +kernel
theorem dR_formOfBracket_25 : decode prog_14_method_159_code 25 = .ok (.aload_n 0, 1) := by decide +kernel
theorem dR_formOfBracket_26 : decode prog_14_method_159_code 26 = .ok (.iload_n 1, 1) := by decide +kernel
theorem dR_formOfBracket_27 : decode prog_14_method_159_code 27 = .ok (.iload 6, 2) := by decide +kernel
theorem dR_formOfBracket_29 : decode prog_14_method_159_code 29 = .ok (.iload 4, 2) := by decide +kernel
theorem dR_formOfBracket_31 : decode prog_14_method_159_code 31 = .ok (.invokevirtual 600, 3) := by decide +kernel
theorem dR_formOfBracket_34 : decode prog_14_method_159_code 34 = .ok (.imul, 1) := by decide +kernel
theorem dR_formOfBracket_35 : decode prog_14_method_159_code 35 = .ok (.iadd, 1) := by decide +kernel
theorem dR_formOfBracket_36 : decode prog_14_method_159_code 36 = .ok (.istore 5, 2) := by decide +kernel
theorem dR_formOfBracket_38 : decode prog_14_method_159_code 38 = .ok (.iinc 6 1, 3) := by decide +kernel
theorem dR_formOfBracket_41 : decode prog_14_method_159_code 41 = .ok (.goto (-35), 3) := by decide +kernel
theorem dR_formOfBracket_44 : decode prog_14_method_159_code 44 = .ok (.iload 5, 2) := by decide +kernel
theorem dR_formOfBracket_46 : decode prog_14_method_159_code 46 = .ok (.ireturn, 1) := by decide +kernel
theorem t_R_formOfBracket {d : Nat} {x1 x2 x3 x4 : Int} {σ : SG} {Q : Int → SG → Prop} (h : inI x1 → inI x2 → inI x3 → inI x4 → (L (d + 1) M_R_formOfBracket 6 [vA 161, vI x1, vI x2, vI x3, vI x4, vI 0, vI 0] [] σ Q)) : Tri (d + 1) M_R_formOfBracket [vA 161, vI x1, vI x2, vI x3, vI x4] σ Q :=
  Tri_intro rfl (Nat.le_of_ble_eq_true rfl) (ls := [vA 161, vI x1, vI x2, vI x3, vI x4, vU, vU]) rfl (fun hok => L_iconst dR_formOfBracket_0 in_0 (L_istore dR_formOfBracket_1 (by decide) (L_iconst dR_formOfBracket_3 in_0 (L_istore dR_formOfBracket_4 (by decide) ((h (hok _ (List.mem_of_getElem? (i := 1) rfl)) (hok _ (List.mem_of_getElem? (i := 2) rfl)) (hok _ (List.mem_of_getElem? (i := 3) rfl)) (hok _ (List.mem_of_getElem? (i := 4) rfl))))))))
theorem s_R_formOfBracket_6 {d : Nat} {x1 x2 x3 x4 x5 x6 : Int} {σ : SG} {Q : Int → SG → Prop} (h : (σ 161 27 ≤ x6 → Q x5 σ) ∧ (x6 < σ 161 27 → Tri d M_R_table [vA 161, vI x2, vI x3, vI x6] σ (fun r2 σ2 => Tri d M_R_formOf [vA 161, vI x1, vI x6, vI x4] σ2 (fun r3 σ3 => L (d + 1) M_R_formOfBracket 6 [vA 161, vI x1, vI x2, vI x3, vI x4, vI (w32 (x5 + (w32 (r2 * r3)))), vI (w32 (x6 + 1))] [] σ3 Q)))) : L (d + 1) M_R_formOfBracket 6 [vA 161, vI x1, vI x2, vI x3, vI x4, vI x5, vI x6] [] σ Q :=
  L_iload dR_formOfBracket_6 rfl (L_aload_n dR_formOfBracket_8 rfl (L_getf fw_R_253 rfl dR_formOfBracket_9 ⟨ob_161, L_icmp_ge dR_formOfBracket_12 (by decide) ⟨fun c1 => L_iload dR_formOfBracket_44 rfl (L_ireturn rfl dR_formOfBracket_46 (h.1 c1)), fun c1 => L_iload dR_formOfBracket_15 rfl (L_aload_n dR_formOfBracket_17 rfl (L_iload_n dR_formOfBracket_18 rfl (L_iload_n dR_formOfBracket_19 rfl (L_iload dR_formOfBracket_20 rfl (L_callVI rfl cv_R_table (As := [vI x2, vI x3, vI x6]) rfl (tk8 121 rfl rfl) rfl (Nat.le_of_ble_eq_true rfl) dR_formOfBracket_22 ⟨ob_161, Tri.mono (h.2 c1) (fun r2 σ2 q2 => L_aload_n dR_formOfBracket_25 rfl (L_iload_n dR_formOfBracket_26 rfl (L_iload dR_formOfBracket_27 rfl (L_iload dR_formOfBracket_29 rfl (L_callVI rfl cv_R_formOf (As := [vI x1, vI x6, vI x4]) rfl (tk10 60 rfl rfl) rfl (Nat.le_of_ble_eq_true rfl) dR_formOfBracket_31 ⟨ob_161, Tri.mono q2 (fun r3 σ3 q3 => L_imul dR_formOfBracket_34 (L_iadd dR_formOfBracket_35 (L_istore dR_formOfBracket_36 (by decide) (L_iinc dR_formOfBracket_38 rfl (by decide) (L_goto dR_formOfBracket_41 (by decide) q3)))))⟩)))))⟩)))))⟩⟩))
theorem dR_isClosed_0 : decode prog_14_method_160_code 0 = .ok (.iconst 0, 1) := by decide +kernel
theorem dR_isClosed_1 : decode prog_14_method_160_code 1 = .ok (.istore_n 2, 1) := by decide +kernel
theorem dR_isClosed_2 : decode prog_14_method_160_code 2 = .ok (.iload_n 2, 1) := by decide +kernel
theorem dR_isClosed_3 : decode prog_14_method_160_code 3 = .ok (.aload_n 0, 1) := by decide +kernel
theorem dR_isClosed_4 : decode prog_14_method_160_code 4 = .ok (.getfield 253, 3) := by decide +kernel
theorem dR_isClosed_7 : decode prog_14_method_160_code 7 = .ok (.if_icmp .ge 89, 3) := by decide +kernel
theorem dR_isClosed_10 : decode prog_14_method_160_code 10 = .ok (.iload_n 2, 1) := by decide +kernel
theorem dR_isClosed_11 : decode prog_14_method_160_code 11 = .ok (.iconst 1, 1) := by decide +kernel
theorem dR_isClosed_12 : decode prog_14_method_160_code 12 = .ok (.iadd, 1) := by decide +kernel
theorem dR_isClosed_13 : decode prog_14_method_160_code 13 = .ok (.istore_n 3, 1) := by decide +kernel
theorem dR_isClosed_14 : decode prog_14_method_160_code 14 = .ok (.iload_n 3, 1) := by decide +kernel
theorem dR_isClosed_15 : decode prog_14_method_160_code 15 = .ok (.aload_n 0, 1) := by decide +kernel
theorem dR_isClosed_16 : decode prog_14_method_160_code 16 = .ok (.getfield 253, 3) := by decide +kernel
theorem dR_isClosed_19 : decode prog_14_method_160_code 19 = .ok (.if_icmp .ge 71, 3) := by decide +kernel
theorem dR_isClosed_22 : decode prog_14_method_160_code 22 = .ok (.iload_n 3, 1) := by decide +kernel
theorem dR_isClosed_23 : decode prog_14_method_160_code 23 = .ok (.iconst 1, 1) := by decide +kernel
theorem dR_isClosed_24 : decode prog_14_method_160_code 24 = .ok (.iadd, 1) := by decide +kernel
theorem dR_isClosed_25 : decode prog_14_method_160_code 25 = .ok (.istore 4, 2) := by decide +kernel
theorem dR_isClosed_27 : decode prog_14_method_160_code 27 = .ok (.iload 4, 2) := by decide +kernel
theorem dR_isClosed_29 : decode prog_14_method_160_code 29 = .ok (.aload_n 0, 1) := by decide +kernel
theorem dR_isClosed_30 : decode prog_14_method_160_code 30 = .ok (.getfield 253, 3) := by decide +kernel
theorem dR_isClosed_33 : decode prog_14_method_160_code 33 = .ok (.if_icmp .ge 51, 3) := by decide +kernel
theorem dR_isClosed_36 : decode prog_14_method_160_code 36 = .ok (.aload_n 0, 1) := by decide +kernel
theorem dR_isClosed_37 : decode prog_14_method_160_code 37 = .ok (.iload_n 1, 1) := by decide +kernel
theorem dR_isClosed_38 : decode prog_14_method_160_code 38 = .ok (.iload_n 2, 1) := by decide +kernel
theorem dR_isClosed_39 : decode prog_14_method_160_code 39 = .ok (.iload_n 3, 1) := by decide +kernel
theorem dR_isClosed_40 : decode prog_14_method_160_code 40 = .ok (.iload 4, 2) := by decide +kernel
theorem dR_isClosed_42 : decode prog_14_method_160_code 42 = .ok (.invokevirtual 603, 3) := by decide +kernel
theorem dR_isClosed_45 : decode prog_14_method_160_code 45 = .ok (.ineg, 1) := by decide +kernel
theorem dR_isClosed_46 : decode prog_14_method_160_code 46 = .ok (.aload_n 0, 1) := by decide +kernel
theorem dR_isClosed_47 : decode prog_14_method_160_code 47 = .ok (.iload_n 1, 1) := by decide +kernel
theorem dR_isClosed_48 : decode prog_14_method_160_code 48 = .ok (.iload_n 2, 1) := by decide +kernel
theorem dR_isClosed_49 : decode prog_14_method_160_code 49 = .ok (.iload 4, 2) := by decide +kernel
theorem dR_isClosed_51 : decode prog_14_method_160_code 51 = .ok (.iload_n 3, 1) := by decide +kernel
theorem dR_isClosed_52 : decode prog_14_method_160_code 52 = .ok (.invokevirtual 603, 3) := by decide +kernel
theorem dR_isClosed_55 : decode prog_14_method_160_code 55 = .ok (.iadd, 1) := by decide +kernel
theorem dR_isClosed_56 : decode prog_14_method_160_code 56 = .ok (.aload_n 0, 1) := by decide +kernel
theorem dR_isClosed_57 : decode prog_14_method_160_code 57 = .ok (.iload_n 1, 1) := by decide +kernel
theorem dR_isClosed_58 : decode prog_14_method_160_code 58 = .ok (.iload_n 3, 1) := by decide +kernel
theorem dR_isClosed_59 : decode prog_14_method_160_code 59 = .ok (.iload 4, 2) := by decide +kernel
theorem dR_isClosed_61 : decode prog_14_method_160_code 61 = .ok (.iload_n 2, 1) := by decide +kernel
theorem dR_isClosed_62 : decode prog_14_method_160_code 62 = .ok (.invokevirtual 603, 3) := by decide +kernel
theorem dR_isClosed_65 : decode prog_14_method_160_code 65 = .ok (.isub, 1) := by decide +kernel
theorem dR_isClosed_66 : decode prog_14_method_160_code 66 = .ok (.aload_n 0, 1) := by decide +kernel
theorem dR_isClosed_67 : decode prog_14_method_160_code 67 = .ok (.getfield 250, 3) := by decide +kernel
theorem dR_isClosed_70 : decode prog_14_method_160_code 70 = .ok (.invokestatic 264, 3) := by decide +kernel
theorem dR_isClosed_73 : decode prog_14_method_160_code 73 = .ok (.ifCond .eq 5, 3) := by decide +kernel
theorem dR_isClosed_76 : decode prog_14_method_160_code 76 = .ok (.iconst 0, 1) := by decide +kernel
theorem dR_isClosed_77 : decode prog_14_method_160_code 77 = .ok (.ireturn, 1) := by decide +kernel
theorem dR_isClosed_78 : decode prog_14_method_160_code 78 = .ok (.iinc 4 1, 3) := by decide +kernel
theorem dR_isClosed_81 : decode prog_14_method_160_code 81 = .ok (.goto (-54), 3) := by decide +kernel
theorem dR_isClosed_84 : decode prog_14_method_160_code 84 = .ok (.iinc 3 1, 3) := by decide +kernel
theorem dR_isClosed_87 : decode prog_14_method_160_code 87 = .ok (.goto (-73), 3) := by decide +kernel
theorem dR_isClosed_90 : decode prog_14_method_160_code 90 = .ok (.iinc 2 1, 3) := by decide +kernel
theorem dR_isClosed_93 : decode prog_14_method_160_code 93 = .ok (.goto (-91), 3) := by decide +kernel
theorem dR_isClosed_96 : decode prog_14_method_160_code 96 = .ok (.iconst 1, 1) := by decide +kernel
theorem dR_isClosed_97 : decode prog_14_method_160_code 97 = .ok (.ireturn, 1) := by decide +kernel
theorem t_R_isClosed {d : Nat} {x1 : Int} {σ : SG} {Q : Int → SG → Prop} (h : inI x1 → (L (d + 1) M_R_isClosed 2 [vA 161, vI x1, vI 0, vU, vU] [] σ Q)) : Tri (d + 1) M_R_isClosed [vA 161, vI x1] σ Q :=
  Tri_intro rfl (Nat.le_of_ble_eq_true rfl) (ls := [vA 161, vI x1, vU, vU, vU]) rfl (fun hok => L_iconst dR_isClosed_0 in_0 (L_istore_n dR_isClosed_1 (by decide) ((h (hok _ (List.mem_of_getElem? (i := 1) rfl))))))
theorem s_R_isClosed_2 {d : Nat} {x1 x2 : Int} {σ : SG} {Q : Int → SG → Prop} (h : (σ 161 27 ≤ x2 → Q 1 σ) ∧ (x2 < σ 161 27 → L (d + 1) M_R_isClosed 14 [vA 161, vI x1, vI x2, vI (w32 (x2 + 1)), vU] [] σ Q)) : L (d + 1) M_R_isClosed 2 [vA 161, vI x1, vI x2, vU, vU] [] σ Q :=
  L_iload_n dR_isClosed_2 rfl (L_aload_n dR_isClosed_3 rfl (L_getf fw_R_253 rfl dR_isClosed_4 ⟨ob_161, L_icmp_ge dR_isClosed_7 (by decide) ⟨fun c1 => L_iconst dR_isClosed_96 in_1 (L_zreturn1 rfl dR_isClosed_97 (h.1 c1)), fun c1 => L_iload_n dR_isClosed_10 rfl (L_iconst dR_isClosed_11 in_1 (L_iadd dR_isClosed_12 (L_istore_n dR_isClosed_13 (by decide) (h.2 c1))))⟩⟩))
theorem s_R_isClosed_14 {d : Nat} {x1 x2 x3 : Int} {σ : SG} {Q : Int → SG → Prop} (h : (σ 161 27 ≤ x3 → L (d + 1) M_R_isClosed 2 [vA 161, vI x1, vI (w32 (x2 + 1)), vU, vU] [] σ Q) ∧ (x3 < σ 161 27 → L (d + 1) M_R_isClosed 27 [vA 161, vI x1, vI x2, vI x3, vI (w32 (x3 + 1))] [] σ Q)) : L (d + 1) M_R_isClosed 14 [vA 161, vI x1, vI x2, vI x3, vU] [] σ Q :=
  L_iload_n dR_isClosed_14 rfl (L_aload_n dR_isClosed_15 rfl (L_getf fw_R_253 rfl dR_isClosed_16 ⟨ob_161, L_icmp_ge dR_isClosed_19 (by decide) ⟨fun c1 => L_iinc dR_isClosed_90 rfl (by decide) (L_goto dR_isClosed_93 (by decide) (L_weak [true, true, true, false, true] (h.1 c1))), fun c1 => L_iload_n dR_isClosed_22 rfl (L_iconst dR_isClosed_23 in_1 (L_iadd dR_isClosed_24 (L_istore dR_isClosed_25 (by decide) (h.2 c1))))⟩⟩))
theorem s_R_isClosed_27 {d : Nat} {x1 x2 x3 x4 : Int} {σ : SG} {Q : Int → SG → Prop} (h : (σ 161 27 ≤ x4 → L (d + 1) M_R_isClosed 14 [vA 161, vI x1, vI x2, vI (w32 (x3 + 1)), vU] [] σ Q) ∧ (x4 < σ 161 27 → Tri d M_R_formOfBracket [vA 161, vI x1, vI x2, vI x3, vI x4] σ (fun r2 σ2 => Tri d M_R_formOfBracket [vA 161, vI x1, vI x2, vI x4, vI x3] σ2 (fun r3 σ3 => Tri d M_R_formOfBracket [vA 161, vI x1, vI x3, vI x4, vI x2] σ3 (fun r4 σ4 => Tri d M_R_left [vI (w32 ((w32 ((w32 (-r2)) + r3)) - r4)), vI (σ4 161 26)] σ4 (fun r5 σ5 => (r5 = 0 → L (d + 1) M_R_isClosed 27 [vA 161, vI x1, vI x2, vI x3, vI (w32 (x4 + 1))] [] σ5 Q) ∧ (r5 ≠ 0 → Q 0 σ5))))))) : L (d + 1) M_R_isClosed 27 [vA 161, vI x1, vI x2, vI x3, vI x4] [] σ Q :=
  L_iload dR_isClosed_27 rfl (L_aload_n dR_isClosed_29 rfl (L_getf fw_R_253 rfl dR_isClosed_30 ⟨ob_161, L_icmp_ge dR_isClosed_33 (by decide) ⟨fun c1 => L_iinc dR_isClosed_84 rfl (by decide) (L_goto dR_isClosed_87 (by decide) (L_weak [true, true, true, true, false] (h.1 c1))), fun c1 => L_aload_n dR_isClosed_36 rfl (L_iload_n dR_isClosed_37 rfl (L_iload_n dR_isClosed_38 rfl (L_iload_n dR_isClosed_39 rfl (L_iload dR_isClosed_40 rfl (L_callVI rfl cv_R_formOfBracket (As := [vI x1, vI x2, vI x3, vI x4]) rfl (tk10 56 rfl rfl) rfl (Nat.le_of_ble_eq_true rfl) dR_isClosed_42 ⟨ob_161, Tri.mono (h.2 c1) (fun r2 σ2 q2 => L_ineg dR_isClosed_45 (L_aload_n dR_isClosed_46 rfl (L_iload_n dR_isClosed_47 rfl (L_iload_n dR_isClosed_48 rfl (L_iload dR_isClosed_49 rfl (L_iload_n dR_isClosed_51 rfl (L_callVI rfl cv_R_formOfBracket (As := [vI x1, vI x2, vI x4, vI x3]) rfl (tk10 56 rfl rfl) rfl (Nat.le_of_ble_eq_true rfl) dR_isClosed_52 ⟨ob_161, Tri.mono q2 (fun r3 σ3 q3 => L_iadd dR_isClosed_55 (L_aload_n dR_isClosed_56 rfl (L_iload_n dR_isClosed_57 rfl (L_iload_n dR_isClosed_58 rfl (L_iload dR_isClosed_59 rfl (L_iload_n dR_isClosed_61 rfl (L_callVI rfl cv_R_formOfBracket (As := [vI x1, vI x3, vI x4, vI x2]) rfl (tk10 56 rfl rfl) rfl (Nat.le_of_ble_eq_true rfl) dR_isClosed_62 ⟨ob_161, Tri.mono q3 (fun r4 σ4 q4 => L_isub dR_isClosed_65 (L_aload_n dR_isClosed_66 rfl (L_getf fw_R_250 rfl dR_isClosed_67 ⟨ob_161, L_callSI rfl cs_R_left (As := [vI (w32 ((w32 ((w32 (-r2)) + r3)) - r4)), vI (σ4 161 26)]) rfl (tk8 93 rfl rfl) rfl (Nat.le_of_ble_eq_true rfl) dR_isClosed_70 (Tri.mono q4 (fun r5 σ5 q5 => L_if_eq dR_isClosed_73 (by decide) ⟨fun c6 => L_iinc dR_isClosed_78 rfl (by decide) (L_goto dR_isClosed_81 (by decide) (q5.1 c6)), fun c6 => L_iconst dR_isClosed_76 in_0 (L_zreturn0 rfl dR_isClosed_77 (q5.2 c6))⟩))⟩)))⟩)))))))⟩)))))))⟩)))))⟩⟩))
theorem dR_cocycle_0 : decode prog_14_method_161_code 0 = .ok (.aload_n 0, 1) := by decide +kernel
theorem dR_cocycle_1 : decode prog_14_method_161_code 1 = .ok (.iconst 0, 1) := by decide +kernel
theorem dR_cocycle_2 : decode prog_14_method_161_code 2 = .ok (.putfield 132, 3) := by decide +kernel
theorem dR_cocycle_5 : decode prog_14_method_161_code 5 = .ok (.aload_n 0, 1) := by decide +kernel
theorem dR_cocycle_6 : decode prog_14_method_161_code 6 = .ok (.iconst 0, 1) := by decide +kernel
theorem dR_cocycle_7 : decode prog_14_method_161_code 7 = .ok (.putfield 135, 3) := by decide +kernel
theorem dR_cocycle_10 : decode prog_14_method_161_code 10 = .ok (.aload_n 0, 1) := by decide +kernel
theorem dR_cocycle_11 : decode prog_14_method_161_code 11 = .ok (.invokevirtual 348, 3) := by decide +kernel
theorem dR_cocycle_14 : decode prog_14_method_161_code 14 = .ok (.aload_n 0, 1) := by decide +kernel
theorem dR_cocycle_15 : decode prog_14_method_161_code 15 = .ok (.iload_n 1, 1) := by decide +kernel
theorem dR_cocycle_16 : decode prog_14_method_161_code 16 = .ok (.invokevirtual 402, 3) := by decide +kernel
theorem dR_cocycle_19 : decode prog_14_method_161_code 19 = .ok (.ifCond .ne 9, 3) := by decide +kernel
theorem dR_cocycle_22 : decode prog_14_method_161_code 22 = .ok (.aload_n 0, 1) := by decide +kernel
theorem dR_cocycle_23 : decode prog_14_method_161_code 23 = .ok (.iconst 1, 1) := by decide +kernel
theorem dR_cocycle_24 : decode prog_14_method_161_code 24 = .ok (.invokevirtual 351, 3) := by decide +kernel
theorem dR_cocycle_27 : decode prog_14_method_161_code 27 = .ok (.ireturn, 1) := by decide +kernel
theorem dR_cocycle_28 : decode prog_14_method_161_code 28 = .ok (.aload_n 0, 1) := by decide +kernel
theorem dR_cocycle_29 : decode prog_14_method_161_code 29 = .ok (.getfield 17, 3) := by decide +kernel
theorem dR_cocycle_32 : decode prog_14_method_161_code 32 = .ok (.iload_n 1, 1) := by decide +kernel
theorem dR_cocycle_33 : decode prog_14_method_161_code 33 = .ok (.iaload, 1) := by decide +kernel
theorem dR_cocycle_34 : decode prog_14_method_161_code 34 = .ok (.ifCond .ge 9, 3) := by decide +kernel
theorem dR_cocycle_37 : decode prog_14_method_161_code 37 = .ok (.aload_n 0, 1) := by decide +kernel
theorem dR_cocycle_38 : decode prog_14_method_161_code 38 = .ok (.iconst 3, 1) := by decide +kernel
theorem dR_cocycle_39 : decode prog_14_method_161_code 39 = .ok (.invokevirtual 351, 3) := by decide +kernel
theorem dR_cocycle_42 : decode prog_14_method_161_code 42 = .ok (.ireturn, 1) := by decide +kernel
theorem dR_cocycle_43 : decode prog_14_method_161_code 43 = .ok (.aload_n 0, 1) := by decide +kernel
theorem dR_cocycle_44 : decode prog_14_method_161_code 44 = .ok (.iload_n 1, 1) := by decide +kernel
theorem dR_cocycle_45 : decode prog_14_method_161_code 45 = .ok (.invokevirtual 607, 3) := by decide +kernel
theorem dR_cocycle_48 : decode prog_14_method_161_code 48 = .ok (.istore_n 2, 1) := by decide +kernel
theorem dR_cocycle_49 : decode prog_14_method_161_code 49 = .ok (.iload_n 2, 1) := by decide +kernel
theorem dR_cocycle_50 : decode prog_14_method_161_code 50 = .ok (.ifCond .le 11, 3) := by decide +kernel
theorem dR_cocycle_53 : decode prog_14_method_161_code 53 = .ok (.aload_n 0, 1) := by decide +kernel
theorem dR_cocycle_54 : decode prog_14_method_161_code 54 = .ok (.iload_n 2, 1) := by decide +kernel
theorem dR_cocycle_55 : decode prog_14_method_161_code 55 = .ok (.invokevirtual 351, 3) := by decide +kernel
theorem dR_cocycle_58 : decode prog_14_method_161_code 58 = .ok (.goto 16, 3) := by decide +kernel
theorem dR_cocycle_61 : decode prog_14_method_161_code 61 = .ok (.aload_n 0, 1) := by decide +kernel
theorem dR_cocycle_62 : decode prog_14_method_161_code 62 = .ok (.iload_n 1, 1) := by decide +kernel
theorem dR_cocycle_63 : decode prog_14_method_161_code 63 = .ok (.invokevirtual 610, 3) := by decide +kernel
theorem dR_cocycle_66 : decode prog_14_method_161_code 66 = .ok (.ifCond .eq 7, 3) := by decide +kernel
theorem dR_cocycle_69 : decode prog_14_method_161_code 69 = .ok (.iconst 1, 1) := by decide +kernel
theorem dR_cocycle_70 : decode prog_14_method_161_code 70 = .ok (.goto 4, 3) := by decide +kernel
theorem dR_cocycle_73 : decode prog_14_method_161_code 73 = .ok (.iconst 0, 1) := by decide +kernel
theorem dR_cocycle_74 : decode prog_14_method_161_code 74 = .ok (.ireturn, 1) := by decide +kernel
theorem t_R_cocycle {d : Nat} {x1 : Int} {σ : SG} {Q : Int → SG → Prop} (h : inI x1 → ((∀ σ1, σ1 = up σ 161 1 0 → (∀ σ2, σ2 = up σ1 161 0 0 → Tri d M_R_askNow [vA 161] σ2 (fun r3 σ3 => Tri d M_R_isTray [vA 161, vI x1] σ3 (fun r4 σ4 => (r4 ≠ 0 → (0 ≤ x1 ∧ x1 < 4) ∧ (0 ≤ σ4 163 x1 → Tri d M_R_wrongForm [vA 161, vI x1] σ4 (fun r7 σ7 => (r7 ≤ 0 → Tri d M_R_isClosed [vA 161, vI x1] σ7 (fun r9 σ9 => (r9 = 0 → Q 0 σ9) ∧ (r9 ≠ 0 → Q 1 σ9))) ∧ (0 < r7 → Tri d M_R_refuse [vA 161, vI r7] σ7 (fun r11 σ11 => Q r11 σ11)))) ∧ (σ4 163 x1 < 0 → Tri d M_R_refuse [vA 161, vI 3] σ4 (fun r12 σ12 => Q r12 σ12))) ∧ (r4 = 0 → Tri d M_R_refuse [vA 161, vI 1] σ4 (fun r13 σ13 => Q r13 σ13)))))))) : Tri (d + 1) M_R_cocycle [vA 161, vI x1] σ Q :=
  Tri_intro rfl (Nat.le_of_ble_eq_true rfl) (ls := [vA 161, vI x1, vU]) rfl (fun hok => L_aload_n dR_cocycle_0 rfl (L_iconst dR_cocycle_1 in_0 (L_putfN fp_R_132 rfl rfl (fun _ => ⟨rfl, rfl⟩) dR_cocycle_2 ⟨ob_161, fun σ1 e1 => L_aload_n dR_cocycle_5 rfl (L_iconst dR_cocycle_6 in_0 (L_putfN fp_R_135 rfl rfl (fun _ => ⟨rfl, rfl⟩) dR_cocycle_7 ⟨ob_161, fun σ2 e2 => L_aload_n dR_cocycle_10 rfl (L_callVV rfl cv_R_askNow (As := []) rfl (tk8 108 rfl rfl) rfl (Nat.le_of_ble_eq_true rfl) dR_cocycle_11 ⟨ob_161, Tri.mono (((h (hok _ (List.mem_of_getElem? (i := 1) rfl))) σ1 e1) σ2 e2) (fun r3 σ3 q3 => L_aload_n dR_cocycle_14 rfl (L_iload_n dR_cocycle_15 rfl (L_callVI rfl cv_R_isTray (As := [vI x1]) rfl (tk8 213 rfl rfl) rfl (Nat.le_of_ble_eq_true rfl) dR_cocycle_16 ⟨ob_161, Tri.mono q3 (fun r4 σ4 q4 => L_if_ne dR_cocycle_19 (by decide) ⟨fun c5 => L_aload_n dR_cocycle_28 rfl (L_getF (b := 163) fw_R_17 rfl rfl (by decide) dR_cocycle_29 ⟨ob_161, L_iload_n dR_cocycle_32 rfl (L_ialoadL kd_163 dR_cocycle_33 ⟨(q4.1 c5).1, L_if_ge dR_cocycle_34 (by decide) ⟨fun c6 => L_aload_n dR_cocycle_43 rfl (L_iload_n dR_cocycle_44 rfl (L_callVI rfl cv_R_wrongForm (As := [vI x1]) rfl (tk10 44 rfl rfl) rfl (Nat.le_of_ble_eq_true rfl) dR_cocycle_45 ⟨ob_161, Tri.mono ((q4.1 c5).2.1 c6) (fun r7 σ7 q7 => L_istore_n dR_cocycle_48 (by decide) (L_iload_n dR_cocycle_49 rfl (L_if_le dR_cocycle_50 (by decide) ⟨fun c8 => L_aload_n dR_cocycle_61 rfl (L_iload_n dR_cocycle_62 rfl (L_callVI rfl cv_R_isClosed (As := [vI x1]) rfl (tk10 52 rfl rfl) rfl (Nat.le_of_ble_eq_true rfl) dR_cocycle_63 ⟨ob_161, Tri.mono (q7.1 c8) (fun r9 σ9 q9 => L_if_eq dR_cocycle_66 (by decide) ⟨fun c10 => L_iconst dR_cocycle_73 in_0 (L_ireturn rfl dR_cocycle_74 (q9.1 c10)), fun c10 => L_iconst dR_cocycle_69 in_1 (L_goto dR_cocycle_70 (by decide) (L_ireturn rfl dR_cocycle_74 (q9.2 c10)))⟩)⟩)), fun c8 => L_aload_n dR_cocycle_53 rfl (L_iload_n dR_cocycle_54 rfl (L_callVI rfl cv_R_refuse (As := [vI r7]) rfl (tk8 117 rfl rfl) rfl (Nat.le_of_ble_eq_true rfl) dR_cocycle_55 ⟨ob_161, Tri.mono (q7.2 c8) (fun r11 σ11 q11 => L_goto dR_cocycle_58 (by decide) (L_ireturn rfl dR_cocycle_74 q11))⟩))⟩)))⟩)), fun c6 => L_aload_n dR_cocycle_37 rfl (L_iconst dR_cocycle_38 in_3 (L_callVI rfl cv_R_refuse (As := [vI 3]) rfl (tk8 117 rfl rfl) rfl (Nat.le_of_ble_eq_true rfl) dR_cocycle_39 ⟨ob_161, Tri.mono ((q4.1 c5).2.2 c6) (fun r12 σ12 q12 => L_ireturn rfl dR_cocycle_42 q12)⟩))⟩⟩)⟩), fun c5 => L_aload_n dR_cocycle_22 rfl (L_iconst dR_cocycle_23 in_1 (L_callVI rfl cv_R_refuse (As := [vI 1]) rfl (tk8 117 rfl rfl) rfl (Nat.le_of_ble_eq_true rfl) dR_cocycle_24 ⟨ob_161, Tri.mono (q4.2 c5) (fun r13 σ13 q13 => L_ireturn rfl dR_cocycle_27 q13)⟩))⟩)⟩)))⟩)⟩))⟩)))
theorem dR_grow_0 : decode prog_14_method_162_code 0 = .ok (.aload_n 0, 1) := by decide +kernel
theorem dR_grow_1 : decode prog_14_method_162_code 1 = .ok (.iconst 0, 1) := by decide +kernel
theorem dR_grow_2 : decode prog_14_method_162_code 2 = .ok (.putfield 132, 3) := by decide +kernel
theorem dR_grow_5 : decode prog_14_method_162_code 5 = .ok (.aload_n 0, 1) := by decide +kernel
theorem dR_grow_6 : decode prog_14_method_162_code 6 = .ok (.iconst 0, 1) := by decide +kernel
theorem dR_grow_7 : decode prog_14_method_162_code 7 = .ok (.putfield 135, 3) := by decide +kernel
theorem dR_grow_10 : decode prog_14_method_162_code 10 = .ok (.aload_n 0, 1) := by decide +kernel
theorem dR_grow_11 : decode prog_14_method_162_code 11 = .ok (.invokevirtual 348, 3) := by decide +kernel
theorem dR_grow_14 : decode prog_14_method_162_code 14 = .ok (.aload_n 0, 1) := by decide +kernel
theorem dR_grow_15 : decode prog_14_method_162_code 15 = .ok (.getfield 253, 3) := by decide +kernel
theorem dR_grow_18 : decode prog_14_method_162_code 18 = .ok (.aload_n 0, 1) := by decide +kernel
theorem dR_grow_19 : decode prog_14_method_162_code 19 = .ok (.getfield 250, 3) := by decide +kernel
theorem dR_grow_22 : decode prog_14_method_162_code 22 = .ok (.invokestatic 300, 3) := by decide +kernel
theorem dR_grow_25 : decode prog_14_method_162_code 25 = .ok (.if_icmp .ne 10, 3) := by decide +kernel
theorem dR_grow_28 : decode prog_14_method_162_code 28 = .ok (.aload_n 0, 1) := by decide +kernel
theorem dR_grow_29 : decode prog_14_method_162_code 29 = .ok (.bipush 7, 2) := by decide +kernel
theorem dR_grow_31 : decode prog_14_method_162_code 31 = .ok (.invokevirtual 351, 3) := by decide +kernel
theorem dR_grow_34 : decode prog_14_method_162_code 34 = .ok (.ireturn, 1) := by decide +kernel
theorem dR_grow_35 : decode prog_14_method_162_code 35 = .ok (.aload_n 0, 1) := by decide +kernel
theorem dR_grow_36 : decode prog_14_method_162_code 36 = .ok (.iload_n 1, 1) := by decide +kernel
theorem dR_grow_37 : decode prog_14_method_162_code 37 = .ok (.invokevirtual 402, 3) := by decide +kernel
theorem dR_grow_40 : decode prog_14_method_162_code 40 = .ok (.ifCond .ne 9, 3) := by decide +kernel
theorem dR_grow_43 : decode prog_14_method_162_code 43 = .ok (.aload_n 0, 1) := by decide +kernel
theorem dR_grow_44 : decode prog_14_method_162_code 44 = .ok (.iconst 1, 1) := by decide +kernel
theorem dR_grow_45 : decode prog_14_method_162_code 45 = .ok (.invokevirtual 351, 3) := by decide +kernel
theorem dR_grow_48 : decode prog_14_method_162_code 48 = .ok (.ireturn, 1) := by decide +kernel
theorem dR_grow_49 : decode prog_14_method_162_code 49 = .ok (.aload_n 0, 1) := by decide +kernel
theorem dR_grow_50 : decode prog_14_method_162_code 50 = .ok (.getfield 17, 3) := by decide +kernel
theorem dR_grow_53 : decode prog_14_method_162_code 53 = .ok (.iload_n 1, 1) := by decide +kernel
theorem dR_grow_54 : decode prog_14_method_162_code 54 = .ok (.iaload, 1) := by decide +kernel
theorem dR_grow_55 : decode prog_14_method_162_code 55 = .ok (.ifCond .ge 9, 3) := by decide +kernel
theorem dR_grow_58 : decode prog_14_method_162_code 58 = .ok (.aload_n 0, 1) := by decide +kernel
theorem dR_grow_59 : decode prog_14_method_162_code 59 = .ok (.iconst 3, 1) := by decide +kernel
theorem dR_grow_60 : decode prog_14_method_162_code 60 = .ok (.invokevirtual 351, 3) := by decide +kernel
theorem dR_grow_63 : decode prog_14_method_162_code 63 = .ok (.ireturn, 1) := by decide +kernel
theorem dR_grow_64 : decode prog_14_method_162_code 64 = .ok (.aload_n 0, 1) := by decide +kernel
theorem dR_grow_65 : decode prog_14_method_162_code 65 = .ok (.iload_n 1, 1) := by decide +kernel
theorem dR_grow_66 : decode prog_14_method_162_code 66 = .ok (.invokevirtual 607, 3) := by decide +kernel
theorem dR_grow_69 : decode prog_14_method_162_code 69 = .ok (.istore_n 2, 1) := by decide +kernel
theorem dR_grow_70 : decode prog_14_method_162_code 70 = .ok (.iload_n 2, 1) := by decide +kernel
theorem dR_grow_71 : decode prog_14_method_162_code 71 = .ok (.ifCond .le 9, 3) := by decide +kernel
theorem dR_grow_74 : decode prog_14_method_162_code 74 = .ok (.aload_n 0, 1) := by decide +kernel
theorem dR_grow_75 : decode prog_14_method_162_code 75 = .ok (.iload_n 2, 1) := by decide +kernel
theorem dR_grow_76 : decode prog_14_method_162_code 76 = .ok (.invokevirtual 351, 3) := by decide +kernel
theorem dR_grow_79 : decode prog_14_method_162_code 79 = .ok (.ireturn, 1) := by decide +kernel
theorem dR_grow_80 : decode prog_14_method_162_code 80 = .ok (.aload_n 0, 1) := by decide +kernel
theorem dR_grow_81 : decode prog_14_method_162_code 81 = .ok (.iload_n 1, 1) := by decide +kernel
theorem dR_grow_82 : decode prog_14_method_162_code 82 = .ok (.invokevirtual 610, 3) := by decide +kernel
theorem dR_grow_85 : decode prog_14_method_162_code 85 = .ok (.ifCond .ne 10, 3) := by decide +kernel
theorem dR_grow_88 : decode prog_14_method_162_code 88 = .ok (.aload_n 0, 1) := by decide +kernel
theorem dR_grow_89 : decode prog_14_method_162_code 89 = .ok (.bipush 9, 2) := by decide +kernel
theorem dR_grow_91 : decode prog_14_method_162_code 91 = .ok (.invokevirtual 351, 3) := by decide +kernel
theorem dR_grow_94 : decode prog_14_method_162_code 94 = .ok (.ireturn, 1) := by decide +kernel
theorem dR_grow_95 : decode prog_14_method_162_code 95 = .ok (.aload_n 0, 1) := by decide +kernel
theorem dR_grow_96 : decode prog_14_method_162_code 96 = .ok (.getfield 253, 3) := by decide +kernel
theorem dR_grow_99 : decode prog_14_method_162_code 99 = .ok (.istore_n 3, 1) := by decide +kernel
theorem dR_grow_100 : decode prog_14_method_162_code 100 = .ok (.iconst 0, 1) := by decide +kernel
theorem dR_grow_101 : decode prog_14_method_162_code 101 = .ok (.istore 4, 2) := by decide +kernel
theorem dR_grow_103 : decode prog_14_method_162_code 103 = .ok (.iload 4, 2) := by decide +kernel
theorem dR_grow_105 : decode prog_14_method_162_code 105 = .ok (.iload_n 3, 1) := by decide +kernel
theorem dR_grow_106 : decode prog_14_method_162_code 106 = .ok (.if_icmp .ge 54, 3) := by decide +kernel
theorem dR_grow_109 : decode prog_14_method_162_code 109 = .ok (.iload 4, 2) := by decide +kernel
theorem dR_grow_111 : decode prog_14_method_162_code 111 = .ok (.iconst 1, 1) := by decide +kernel
theorem dR_grow_112 : decode prog_14_method_162_code 112 = .ok (.iadd, 1) := by decide +kernel
theorem dR_grow_113 : decode prog_14_method_162_code 113 = .ok (.istore 5, 2) := by decide +kernel
theorem dR_grow_115 : decode prog_14_method_162_code 115 = .ok (.iload 5, 2) := by decide +kernel
theorem dR_grow_117 : decode prog_14_method_162_code 117 = .ok (.iload_n 3, 1) := by decide +kernel
theorem dR_grow_118 : decode prog_14_method_162_code 118 = .ok (.if_icmp .ge 36, 3) := by decide +kernel
theorem dR_grow_121 : decode prog_14_method_162_code 121 = .ok (.aload_n 0, 1) := by decide +kernel
theorem dR_grow_122 : decode prog_14_method_162_code 122 = .ok (.getfield 35, 3) := by decide +kernel
theorem dR_grow_125 : decode prog_14_method_162_code 125 = .ok (.iconst 0, 1) := by decide +kernel
theorem dR_grow_126 : decode prog_14_method_162_code 126 = .ok (.iload 4, 2) := by decide +kernel
theorem dR_grow_128 : decode prog_14_method_162_code 128 = .ok (.iload 5, 2) := by decide +kernel
theorem dR_grow_130 : decode prog_14_method_162_code 130 = .ok (.iload_n 3, 1) := by decide +kernel
theorem dR_grow_131 : decode prog_14_method_162_code 131 = .ok (.aload_n 0, 1) := by decide +kernel
theorem dR_grow_132 : decode prog_14_method_162_code 132 = .ok (.iload_n 1, 1) := by decide +kernel
theorem dR_grow_133 : decode prog_14_method_162_code 133 = .ok (.aload_n 0, 1) := by decide +kernel
theorem dR_grow_134 : decode prog_14_method_162_code 134 = .ok (.iload 4, 2) := by decide +kernel
theorem dR_grow_136 : decode prog_14_method_162_code 136 = .ok (.iload 5, 2) := by decide +kernel
theorem dR_grow_138 : decode prog_14_method_162_code 138 = .ok (.invokevirtual 597, 3) := by decide +kernel
theorem dR_grow_141 : decode prog_14_method_162_code 141 = .ok (.invokevirtual 390, 3) := by decide +kernel
theorem dR_grow_144 : decode prog_14_method_162_code 144 = .ok (.l2i, 1) := by decide +kernel
theorem dR_grow_145 : decode prog_14_method_162_code 145 = .ok (.invokestatic 283, 3) := by decide +kernel
theorem dR_grow_148 : decode prog_14_method_162_code 148 = .ok (.iinc 5 1, 3) := by decide +kernel
theorem dR_grow_151 : decode prog_14_method_162_code 151 = .ok (.goto (-36), 3) := by decide +kernel
theorem dR_grow_154 : decode prog_14_method_162_code 154 = .ok (.iinc 4 1, 3) := by decide +kernel
theorem dR_grow_157 : decode prog_14_method_162_code 157 = .ok (.goto (-54), 3) := by decide +kernel
theorem dR_grow_160 : decode prog_14_method_162_code 160 = .ok (.aload_n 0, 1) := by decide +kernel
theorem dR_grow_161 : decode prog_14_method_162_code 161 = .ok (.getfield 35, 3) := by decide +kernel
theorem dR_grow_164 : decode prog_14_method_162_code 164 = .ok (.iconst 1, 1) := by decide +kernel
theorem dR_grow_165 : decode prog_14_method_162_code 165 = .ok (.iload_n 3, 1) := by decide +kernel
theorem dR_grow_166 : decode prog_14_method_162_code 166 = .ok (.iconst 1, 1) := by decide +kernel
theorem dR_grow_167 : decode prog_14_method_162_code 167 = .ok (.iadd, 1) := by decide +kernel
theorem dR_grow_168 : decode prog_14_method_162_code 168 = .ok (.iastore, 1) := by decide +kernel
theorem dR_grow_169 : decode prog_14_method_162_code 169 = .ok (.iload_n 3, 1) := by decide +kernel
theorem dR_grow_170 : decode prog_14_method_162_code 170 = .ok (.iconst 1, 1) := by decide +kernel
theorem dR_grow_171 : decode prog_14_method_162_code 171 = .ok (.iadd, 1) := by decide +kernel
theorem dR_grow_172 : decode prog_14_method_162_code 172 = .ok (.ireturn, 1) := by decide +kernel
theorem t_R_grow {d : Nat} {x1 : Int} {σ : SG} {Q : Int → SG → Prop} (h : inI x1 → ((∀ σ1, σ1 = up σ 161 1 0 → (∀ σ2, σ2 = up σ1 161 0 0 → Tri d M_R_askNow [vA 161] σ2 (fun r3 σ3 => Tri d M_R_greatest [vI (σ3 161 26)] σ3 (fun r4 σ4 => (σ3 161 27 ≠ r4 → Tri d M_R_isTray [vA 161, vI x1] σ4 (fun r6 σ6 => (r6 ≠ 0 → (0 ≤ x1 ∧ x1 < 4) ∧ (0 ≤ σ6 163 x1 → Tri d M_R_wrongForm [vA 161, vI x1] σ6 (fun r9 σ9 => (r9 ≤ 0 → Tri d M_R_isClosed [vA 161, vI x1] σ9 (fun r11 σ11 => (r11 ≠ 0 → L (d + 1) M_R_grow 103 [vA 161, vI x1, vU, vI (σ11 161 27), vI 0, vU] [] σ11 Q) ∧ (r11 = 0 → Tri d M_R_refuse [vA 161, vI 9] σ11 (fun r13 σ13 => Q r13 σ13)))) ∧ (0 < r9 → Tri d M_R_refuse [vA 161, vI r9] σ9 (fun r14 σ14 => Q r14 σ14)))) ∧ (σ6 163 x1 < 0 → Tri d M_R_refuse [vA 161, vI 3] σ6 (fun r15 σ15 => Q r15 σ15))) ∧ (r6 = 0 → Tri d M_R_refuse [vA 161, vI 1] σ6 (fun r16 σ16 => Q r16 σ16)))) ∧ (σ3 161 27 = r4 → Tri d M_R_refuse [vA 161, vI 7] σ4 (fun r17 σ17 => Q r17 σ17)))))))) : Tri (d + 1) M_R_grow [vA 161, vI x1] σ Q :=
  Tri_intro rfl (Nat.le_of_ble_eq_true rfl) (ls := [vA 161, vI x1, vU, vU, vU, vU]) rfl (fun hok => L_aload_n dR_grow_0 rfl (L_iconst dR_grow_1 in_0 (L_putfN fp_R_132 rfl rfl (fun _ => ⟨rfl, rfl⟩) dR_grow_2 ⟨ob_161, fun σ1 e1 => L_aload_n dR_grow_5 rfl (L_iconst dR_grow_6 in_0 (L_putfN fp_R_135 rfl rfl (fun _ => ⟨rfl, rfl⟩) dR_grow_7 ⟨ob_161, fun σ2 e2 => L_aload_n dR_grow_10 rfl (L_callVV rfl cv_R_askNow (As := []) rfl (tk8 108 rfl rfl) rfl (Nat.le_of_ble_eq_true rfl) dR_grow_11 ⟨ob_161, Tri.mono (((h (hok _ (List.mem_of_getElem? (i := 1) rfl))) σ1 e1) σ2 e2) (fun r3 σ3 q3 => L_aload_n dR_grow_14 rfl (L_getf fw_R_253 rfl dR_grow_15 ⟨ob_161, L_aload_n dR_grow_18 rfl (L_getf fw_R_250 rfl dR_grow_19 ⟨ob_161, L_callSI rfl cs_R_greatest (As := [vI (σ3 161 26)]) rfl (tk8 58 rfl rfl) rfl (Nat.le_of_ble_eq_true rfl) dR_grow_22 (Tri.mono q3 (fun r4 σ4 q4 => L_icmp_ne dR_grow_25 (by decide) ⟨fun c5 => L_aload_n dR_grow_35 rfl (L_iload_n dR_grow_36 rfl (L_callVI rfl cv_R_isTray (As := [vI x1]) rfl (tk8 213 rfl rfl) rfl (Nat.le_of_ble_eq_true rfl) dR_grow_37 ⟨ob_161, Tri.mono (q4.1 c5) (fun r6 σ6 q6 => L_if_ne dR_grow_40 (by decide) ⟨fun c7 => L_aload_n dR_grow_49 rfl (L_getF (b := 163) fw_R_17 rfl rfl (by decide) dR_grow_50 ⟨ob_161, L_iload_n dR_grow_53 rfl (L_ialoadL kd_163 dR_grow_54 ⟨(q6.1 c7).1, L_if_ge dR_grow_55 (by decide) ⟨fun c8 => L_aload_n dR_grow_64 rfl (L_iload_n dR_grow_65 rfl (L_callVI rfl cv_R_wrongForm (As := [vI x1]) rfl (tk10 44 rfl rfl) rfl (Nat.le_of_ble_eq_true rfl) dR_grow_66 ⟨ob_161, Tri.mono ((q6.1 c7).2.1 c8) (fun r9 σ9 q9 => L_istore_n dR_grow_69 (by decide) (L_iload_n dR_grow_70 rfl (L_if_le dR_grow_71 (by decide) ⟨fun c10 => L_aload_n dR_grow_80 rfl (L_iload_n dR_grow_81 rfl (L_callVI rfl cv_R_isClosed (As := [vI x1]) rfl (tk10 52 rfl rfl) rfl (Nat.le_of_ble_eq_true rfl) dR_grow_82 ⟨ob_161, Tri.mono (q9.1 c10) (fun r11 σ11 q11 => L_if_ne dR_grow_85 (by decide) ⟨fun c12 => L_aload_n dR_grow_95 rfl (L_getf fw_R_253 rfl dR_grow_96 ⟨ob_161, L_istore_n dR_grow_99 (by decide) (L_iconst dR_grow_100 in_0 (L_istore dR_grow_101 (by decide) (L_weak [true, true, false, true, true, true] (q11.1 c12))))⟩), fun c12 => L_aload_n dR_grow_88 rfl (L_bipush dR_grow_89 bp_9 in_9 (L_callVI rfl cv_R_refuse (As := [vI 9]) rfl (tk8 117 rfl rfl) rfl (Nat.le_of_ble_eq_true rfl) dR_grow_91 ⟨ob_161, Tri.mono (q11.2 c12) (fun r13 σ13 q13 => L_ireturn rfl dR_grow_94 q13)⟩))⟩)⟩)), fun c10 => L_aload_n dR_grow_74 rfl (L_iload_n dR_grow_75 rfl (L_callVI rfl cv_R_refuse (As := [vI r9]) rfl (tk8 117 rfl rfl) rfl (Nat.le_of_ble_eq_true rfl) dR_grow_76 ⟨ob_161, Tri.mono (q9.2 c10) (fun r14 σ14 q14 => L_ireturn rfl dR_grow_79 q14)⟩))⟩)))⟩)), fun c8 => L_aload_n dR_grow_58 rfl (L_iconst dR_grow_59 in_3 (L_callVI rfl cv_R_refuse (As := [vI 3]) rfl (tk8 117 rfl rfl) rfl (Nat.le_of_ble_eq_true rfl) dR_grow_60 ⟨ob_161, Tri.mono ((q6.1 c7).2.2 c8) (fun r15 σ15 q15 => L_ireturn rfl dR_grow_63 q15)⟩))⟩⟩)⟩), fun c7 => L_aload_n dR_grow_43 rfl (L_iconst dR_grow_44 in_1 (L_callVI rfl cv_R_refuse (As := [vI 1]) rfl (tk8 117 rfl rfl) rfl (Nat.le_of_ble_eq_true rfl) dR_grow_45 ⟨ob_161, Tri.mono (q6.2 c7) (fun r16 σ16 q16 => L_ireturn rfl dR_grow_48 q16)⟩))⟩)⟩)), fun c5 => L_aload_n dR_grow_28 rfl (L_bipush dR_grow_29 bp_7 in_7 (L_callVI rfl cv_R_refuse (As := [vI 7]) rfl (tk8 117 rfl rfl) rfl (Nat.le_of_ble_eq_true rfl) dR_grow_31 ⟨ob_161, Tri.mono (q4.2 c5) (fun r17 σ17 q17 => L_ireturn rfl dR_grow_34 q17)⟩))⟩))⟩)⟩))⟩)⟩))⟩)))
theorem s_R_grow_103 {d : Nat} {x1 x3 x4 : Int} {σ : SG} {Q : Int → SG → Prop} (h : (x3 ≤ x4 → (∀ σ2, σ2 = up σ 166 1 (w32 (x3 + 1)) → Q (w32 (x3 + 1)) σ2)) ∧ (x4 < x3 → L (d + 1) M_R_grow 115 [vA 161, vI x1, vU, vI x3, vI x4, vI (w32 (x4 + 1))] [] σ Q)) : L (d + 1) M_R_grow 103 [vA 161, vI x1, vU, vI x3, vI x4, vU] [] σ Q :=
  L_iload dR_grow_103 rfl (L_iload_n dR_grow_105 rfl (L_icmp_ge dR_grow_106 (by decide) ⟨fun c1 => L_aload_n dR_grow_160 rfl (L_getF (b := 166) fw_R_35 rfl rfl (by decide) dR_grow_161 ⟨ob_161, L_iconst dR_grow_164 in_1 (L_iload_n dR_grow_165 rfl (L_iconst dR_grow_166 in_1 (L_iadd dR_grow_167 (L_iastoreL (by decide) kd_166 dR_grow_168 ⟨⟨by decide, by decide⟩, fun σ2 e2 => L_iload_n dR_grow_169 rfl (L_iconst dR_grow_170 in_1 (L_iadd dR_grow_171 (L_ireturn rfl dR_grow_172 ((h.1 c1) σ2 e2))))⟩))))⟩), fun c1 => L_iload dR_grow_109 rfl (L_iconst dR_grow_111 in_1 (L_iadd dR_grow_112 (L_istore dR_grow_113 (by decide) (h.2 c1))))⟩))
theorem s_R_grow_115 {d : Nat} {x1 x3 x4 x5 : Int} {σ : SG} {Q : Int → SG → Prop} (h : (x3 ≤ x5 → L (d + 1) M_R_grow 103 [vA 161, vI x1, vU, vI x3, vI (w32 (x4 + 1)), vU] [] σ Q) ∧ (x5 < x3 → Tri d M_R_coupleOf [vA 161, vI x4, vI x5] σ (fun r2 σ2 => Tri d M_R_numberOf [vA 161, vI x1, vI r2] σ2 (fun r3 σ3 => Tri d M_R_set [vA 166, vI 0, vI x4, vI x5, vI x3, vI (w32 r3)] σ3 (fun r4 σ4 => L (d + 1) M_R_grow 115 [vA 161, vI x1, vU, vI x3, vI x4, vI (w32 (x5 + 1))] [] σ4 Q))))) : L (d + 1) M_R_grow 115 [vA 161, vI x1, vU, vI x3, vI x4, vI x5] [] σ Q :=
  L_iload dR_grow_115 rfl (L_iload_n dR_grow_117 rfl (L_icmp_ge dR_grow_118 (by decide) ⟨fun c1 => L_iinc dR_grow_154 rfl (by decide) (L_goto dR_grow_157 (by decide) (L_weak [true, true, true, true, true, false] (h.1 c1))), fun c1 => L_aload_n dR_grow_121 rfl (L_getF (b := 166) fw_R_35 rfl rfl (by decide) dR_grow_122 ⟨ob_161, L_iconst dR_grow_125 in_0 (L_iload dR_grow_126 rfl (L_iload dR_grow_128 rfl (L_iload_n dR_grow_130 rfl (L_aload_n dR_grow_131 rfl (L_iload_n dR_grow_132 rfl (L_aload_n dR_grow_133 rfl (L_iload dR_grow_134 rfl (L_iload dR_grow_136 rfl (L_callVI rfl cv_R_coupleOf (As := [vI x4, vI x5]) rfl (tk10 64 rfl rfl) rfl (Nat.le_of_ble_eq_true rfl) dR_grow_138 ⟨ob_161, Tri.mono (h.2 c1) (fun r2 σ2 q2 => L_callVJ rfl cv_R_numberOf (As := [vI x1, vI r2]) rfl (tk8 222 rfl rfl) rfl (Nat.le_of_ble_eq_true rfl) dR_grow_141 ⟨ob_161, Tri.mono q2 (fun r3 σ3 q3 => L_l2i dR_grow_144 (L_callSV rfl cs_R_set (As := [vA 166, vI 0, vI x4, vI x5, vI x3, vI (w32 r3)]) rfl (tk8 90 rfl rfl) rfl (Nat.le_of_ble_eq_true rfl) dR_grow_145 (Tri.mono q3 (fun r4 σ4 q4 => L_iinc dR_grow_148 rfl (by decide) (L_goto dR_grow_151 (by decide) q4)))))⟩)⟩)))))))))⟩)⟩))
theorem dR_sumWith_0 : decode prog_14_method_163_code 0 = .ok (.bipush 127, 2) := by decide +kernel
theorem dR_sumWith_2 : decode prog_14_method_163_code 2 = .ok (.iload_n 1, 1) := by decide +kernel
theorem dR_sumWith_3 : decode prog_14_method_163_code 3 = .ok (.iconst 1, 1) := by decide +kernel
theorem dR_sumWith_4 : decode prog_14_method_163_code 4 = .ok (.iadd, 1) := by decide +kernel
theorem dR_sumWith_5 : decode prog_14_method_163_code 5 = .ok (.imul, 1) := by decide +kernel
theorem dR_sumWith_6 : decode prog_14_method_163_code 6 = .ok (.istore_n 2, 1) := by decide +kernel
theorem dR_sumWith_7 : decode prog_14_method_163_code 7 = .ok (.aload_n 0, 1) := by decide +kernel
theorem dR_sumWith_8 : decode prog_14_method_163_code 8 = .ok (.getfield 35, 3) := by decide +kernel
theorem dR_sumWith_11 : decode prog_14_method_163_code 11 = .ok (.iload_n 2, 1) := by decide +kernel
theorem dR_sumWith_12 : decode prog_14_method_163_code 12 = .ok (.iaload, 1) := by decide +kernel
theorem dR_sumWith_13 : decode prog_14_method_163_code 13 = .ok (.aload_n 0, 1) := by decide +kernel
theorem dR_sumWith_14 : decode prog_14_method_163_code 14 = .ok (.getfield 250, 3) := by decide +kernel
theorem dR_sumWith_17 : decode prog_14_method_163_code 17 = .ok (.if_icmp .eq 5, 3) := by decide +kernel
theorem dR_sumWith_20 : decode prog_14_method_163_code 20 = .ok (.iconst 5, 1) := by decide +kernel
theorem dR_sumWith_21 : decode prog_14_method_163_code 21 = .ok (.ireturn, 1) := by decide +kernel
theorem dR_sumWith_22 : decode prog_14_method_163_code 22 = .ok (.aload_n 0, 1) := by decide +kernel
theorem dR_sumWith_23 : decode prog_14_method_163_code 23 = .ok (.getfield 35, 3) := by decide +kernel
theorem dR_sumWith_26 : decode prog_14_method_163_code 26 = .ok (.iload_n 2, 1) := by decide +kernel
theorem dR_sumWith_27 : decode prog_14_method_163_code 27 = .ok (.iconst 1, 1) := by decide +kernel
theorem dR_sumWith_28 : decode prog_14_method_163_code 28 = .ok (.iadd, 1) := by decide +kernel
theorem dR_sumWith_29 : decode prog_14_method_163_code 29 = .ok (.iaload, 1) := by decide +kernel
theorem dR_sumWith_30 : decode prog_14_method_163_code 30 = .ok (.istore_n 3, 1) := by decide +kernel
theorem dR_sumWith_31 : decode prog_14_method_163_code 31 = .ok (.aload_n 0, 1) := by decide +kernel
theorem dR_sumWith_32 : decode prog_14_method_163_code 32 = .ok (.getfield 253, 3) := by decide +kernel
theorem dR_sumWith_35 : decode prog_14_method_163_code 35 = .ok (.iload_n 3, 1) := by decide +kernel
theorem dR_sumWith_36 : decode prog_14_method_163_code 36 = .ok (.iadd, 1) := by decide +kernel
theorem dR_sumWith_37 : decode prog_14_method_163_code 37 = .ok (.aload_n 0, 1) := by decide +kernel
theorem dR_sumWith_38 : decode prog_14_method_163_code 38 = .ok (.getfield 250, 3) := by decide +kernel
theorem dR_sumWith_41 : decode prog_14_method_163_code 41 = .ok (.invokestatic 300, 3) := by decide +kernel
theorem dR_sumWith_44 : decode prog_14_method_163_code 44 = .ok (.if_icmp .le 6, 3) := by decide +kernel
theorem dR_sumWith_47 : decode prog_14_method_163_code 47 = .ok (.bipush 7, 2) := by decide +kernel
theorem dR_sumWith_49 : decode prog_14_method_163_code 49 = .ok (.ireturn, 1) := by decide +kernel
theorem dR_sumWith_50 : decode prog_14_method_163_code 50 = .ok (.iconst 0, 1) := by decide +kernel
theorem dR_sumWith_51 : decode prog_14_method_163_code 51 = .ok (.istore 4, 2) := by decide +kernel
theorem dR_sumWith_53 : decode prog_14_method_163_code 53 = .ok (.iload 4, 2) := by decide +kernel
theorem dR_sumWith_55 : decode prog_14_method_163_code 55 = .ok (.iload_n 3, 1) := by decide +kernel
theorem dR_sumWith_56 : decode prog_14_method_163_code 56 = .ok (.if_icmp .ge 87, 3) := by decide +kernel
theorem dR_sumWith_59 : decode prog_14_method_163_code 59 = .ok (.iload 4, 2) := by decide +kernel
theorem dR_sumWith_61 : decode prog_14_method_163_code 61 = .ok (.iconst 1, 1) := by decide +kernel
theorem dR_sumWith_62 : decode prog_14_method_163_code 62 = .ok (.iadd, 1) := by decide +kernel
theorem dR_sumWith_63 : decode prog_14_method_163_code 63 = .ok (.istore 5, 2) := by decide +kernel
theorem dR_sumWith_65 : decode prog_14_method_163_code 65 = .ok (.iload 5, 2) := by decide +kernel
theorem dR_sumWith_67 : decode prog_14_method_163_code 67 = .ok (.iload_n 3, 1) := by decide +kernel
theorem dR_sumWith_68 : decode prog_14_method_163_code 68 = .ok (.if_icmp .ge 69, 3) := by decide +kernel
theorem dR_sumWith_71 : decode prog_14_method_163_code 71 = .ok (.iconst 0, 1) := by decide +kernel
theorem dR_sumWith_72 : decode prog_14_method_163_code 72 = .ok (.istore 6, 2) := by decide +kernel
theorem dR_sumWith_74 : decode prog_14_method_163_code 74 = .ok (.iload 6, 2) := by decide +kernel
theorem dR_sumWith_76 : decode prog_14_method_163_code 76 = .ok (.iload_n 3, 1) := by decide +kernel
theorem dR_sumWith_77 : decode prog_14_method_163_code 77 = .ok (.if_icmp .ge 54, 3) := by decide +kernel
theorem dR_sumWith_80 : decode prog_14_method_163_code 80 = .ok (.aload_n 0, 1) := by decide +kernel
theorem dR_sumWith_81 : decode prog_14_method_163_code 81 = .ok (.getfield 35, 3) := by decide +kernel
theorem dR_sumWith_84 : decode prog_14_method_163_code 84 = .ok (.iconst 0, 1) := by decide +kernel
theorem dR_sumWith_85 : decode prog_14_method_163_code 85 = .ok (.aload_n 0, 1) := by decide +kernel
theorem dR_sumWith_86 : decode prog_14_method_163_code 86 = .ok (.getfield 253, 3) := by decide +kernel
theorem dR_sumWith_89 : decode prog_14_method_163_code 89 = .ok (.iload 4, 2) := by decide +kernel
theorem dR_sumWith_91 : decode prog_14_method_163_code 91 = .ok (.iadd, 1) := by decide +kernel
theorem dR_sumWith_92 : decode prog_14_method_163_code 92 = .ok (.aload_n 0, 1) := by decide +kernel
theorem dR_sumWith_93 : decode prog_14_method_163_code 93 = .ok (.getfield 253, 3) := by decide +kernel
theorem dR_sumWith_96 : decode prog_14_method_163_code 96 = .ok (.iload 5, 2) := by decide +kernel
theorem dR_sumWith_98 : decode prog_14_method_163_code 98 = .ok (.iadd, 1) := by decide +kernel
theorem dR_sumWith_99 : decode prog_14_method_163_code 99 = .ok (.aload_n 0, 1) := by decide +kernel
theorem dR_sumWith_100 : decode prog_14_method_163_code 100 = .ok (.getfield 253, 3) := by decide +kernel
theorem dR_sumWith_103 : decode prog_14_method_163_code 103 = .ok (.iload 6, 2) := by decide +kernel
theorem dR_sumWith_105 : decode prog_14_method_163_code 105 = .ok (.iadd, 1) := by decide +kernel
theorem dR_sumWith_106 : decode prog_14_method_163_code 106 = .ok (.aload_n 0, 1) := by decide +kernel
theorem dR_sumWith_107 : decode prog_14_method_163_code 107 = .ok (.getfield 35, 3) := by decide +kernel
theorem dR_sumWith_110 : decode prog_14_method_163_code 110 = .ok (.iload_n 2, 1) := by decide +kernel
theorem dR_sumWith_111 : decode prog_14_method_163_code 111 = .ok (.iload 4, 2) := by decide +kernel
theorem dR_sumWith_113 : decode prog_14_method_163_code 113 = .ok (.iload 5, 2) := by decide +kernel
theorem dR_sumWith_115 : decode prog_14_method_163_code 115 = .ok (.iload 6, 2) := by decide +kernel
theorem dR_sumWith_117 : decode prog_14_method_163_code 117 = .ok (.invokestatic 260, 3) := by decide +kernel
theorem dR_sumWith_120 : decode prog_14_method_163_code 120 = .ok (.iadd, 1) := by decide +kernel
theorem dR_sumWith_121 : decode prog_14_method_163_code 121 = .ok (.iaload, 1) := by decide +kernel
theorem dR_sumWith_122 : decode prog_14_method_163_code 122 = .ok (.invokestatic 283, 3) := by decide +kernel
theorem dR_sumWith_125 : decode prog_14_method_163_code 125 = .ok (.iinc 6 1, 3) := by decide +kernel
theorem dR_sumWith_128 : decode prog_14_method_163_code 128 = .ok (.goto (-54), 3) := by decide +kernel
theorem dR_sumWith_131 : decode prog_14_method_163_code 131 = .ok (.iinc 5 1, 3) := by decide +kernel
theorem dR_sumWith_134 : decode prog_14_method_163_code 134 = .ok (.goto (-69), 3) := by decide +kernel
theorem dR_sumWith_137 : decode prog_14_method_163_code 137 = .ok (.iinc 4 1, 3) := by decide +kernel
theorem dR_sumWith_140 : decode prog_14_method_163_code 140 = .ok (.goto (-87), 3) := by decide +kernel
theorem dR_sumWith_143 : decode prog_14_method_163_code 143 = .ok (.aload_n 0, 1) := by decide +kernel
theorem dR_sumWith_144 : decode prog_14_method_163_code 144 = .ok (.getfield 35, 3) := by decide +kernel
theorem dR_sumWith_147 : decode prog_14_method_163_code 147 = .ok (.iconst 1, 1) := by decide +kernel
theorem dR_sumWith_148 : decode prog_14_method_163_code 148 = .ok (.aload_n 0, 1) := by decide +kernel
theorem dR_sumWith_149 : decode prog_14_method_163_code 149 = .ok (.getfield 253, 3) := by decide +kernel
theorem dR_sumWith_152 : decode prog_14_method_163_code 152 = .ok (.iload_n 3, 1) := by decide +kernel
theorem dR_sumWith_153 : decode prog_14_method_163_code 153 = .ok (.iadd, 1) := by decide +kernel
theorem dR_sumWith_154 : decode prog_14_method_163_code 154 = .ok (.iastore, 1) := by decide +kernel
theorem dR_sumWith_155 : decode prog_14_method_163_code 155 = .ok (.iconst 0, 1) := by decide +kernel
theorem dR_sumWith_156 : decode prog_14_method_163_code 156 = .ok (.ireturn, 1) := by decide +kernel
theorem t_R_sumWith {d : Nat} {x1 : Int} {σ : SG} {Q : Int → SG → Prop} (h : inI x1 → ((0 ≤ w32 (127 * (w32 (x1 + 1))) ∧ w32 (127 * (w32 (x1 + 1))) < 3440) ∧ (σ 166 (w32 (127 * (w32 (x1 + 1)))) = σ 161 26 → (0 ≤ w32 ((w32 (127 * (w32 (x1 + 1)))) + 1) ∧ w32 ((w32 (127 * (w32 (x1 + 1)))) + 1) < 3440) ∧ Tri d M_R_greatest [vI (σ 161 26)] σ (fun r2 σ2 => (w32 ((σ 161 27) + (σ 166 (w32 ((w32 (127 * (w32 (x1 + 1)))) + 1)))) ≤ r2 → L (d + 1) M_R_sumWith 53 [vA 161, vU, vI (w32 (127 * (w32 (x1 + 1)))), vI (σ 166 (w32 ((w32 (127 * (w32 (x1 + 1)))) + 1))), vI 0, vU, vU] [] σ2 Q) ∧ (r2 < w32 ((σ 161 27) + (σ 166 (w32 ((w32 (127 * (w32 (x1 + 1)))) + 1)))) → Q 7 σ2))) ∧ (σ 166 (w32 (127 * (w32 (x1 + 1)))) ≠ σ 161 26 → Q 5 σ))) : Tri (d + 1) M_R_sumWith [vA 161, vI x1] σ Q :=
  Tri_intro rfl (Nat.le_of_ble_eq_true rfl) (ls := [vA 161, vI x1, vU, vU, vU, vU, vU]) rfl (fun hok => L_bipush dR_sumWith_0 bp_127 in_127 (L_iload_n dR_sumWith_2 rfl (L_iconst dR_sumWith_3 in_1 (L_iadd dR_sumWith_4 (L_imul dR_sumWith_5 (L_istore_n dR_sumWith_6 (by decide) (L_aload_n dR_sumWith_7 rfl (L_getF (b := 166) fw_R_35 rfl rfl (by decide) dR_sumWith_8 ⟨ob_161, L_iload_n dR_sumWith_11 rfl (L_ialoadL kd_166 dR_sumWith_12 ⟨(h (hok _ (List.mem_of_getElem? (i := 1) rfl))).1, L_aload_n dR_sumWith_13 rfl (L_getf fw_R_250 rfl dR_sumWith_14 ⟨ob_161, L_icmp_eq dR_sumWith_17 (by decide) ⟨fun c1 => L_aload_n dR_sumWith_22 rfl (L_getF (b := 166) fw_R_35 rfl rfl (by decide) dR_sumWith_23 ⟨ob_161, L_iload_n dR_sumWith_26 rfl (L_iconst dR_sumWith_27 in_1 (L_iadd dR_sumWith_28 (L_ialoadL kd_166 dR_sumWith_29 ⟨((h (hok _ (List.mem_of_getElem? (i := 1) rfl))).2.1 c1).1, L_istore_n dR_sumWith_30 (by decide) (L_aload_n dR_sumWith_31 rfl (L_getf fw_R_253 rfl dR_sumWith_32 ⟨ob_161, L_iload_n dR_sumWith_35 rfl (L_iadd dR_sumWith_36 (L_aload_n dR_sumWith_37 rfl (L_getf fw_R_250 rfl dR_sumWith_38 ⟨ob_161, L_callSI rfl cs_R_greatest (As := [vI (σ 161 26)]) rfl (tk8 58 rfl rfl) rfl (Nat.le_of_ble_eq_true rfl) dR_sumWith_41 (Tri.mono (((h (hok _ (List.mem_of_getElem? (i := 1) rfl))).2.1 c1).2) (fun r2 σ2 q2 => L_icmp_le dR_sumWith_44 (by decide) ⟨fun c3 => L_iconst dR_sumWith_50 in_0 (L_istore dR_sumWith_51 (by decide) (L_weak [true, false, true, true, true, true, true] (q2.1 c3))), fun c3 => L_bipush dR_sumWith_47 bp_7 in_7 (L_ireturn rfl dR_sumWith_49 (q2.2 c3))⟩))⟩)))⟩))⟩)))⟩), fun c1 => L_iconst dR_sumWith_20 in_5 (L_ireturn rfl dR_sumWith_21 ((h (hok _ (List.mem_of_getElem? (i := 1) rfl))).2.2 c1))⟩⟩)⟩)⟩))))))))
theorem s_R_sumWith_53 {d : Nat} {x2 x3 x4 : Int} {σ : SG} {Q : Int → SG → Prop} (h : (x3 ≤ x4 → (∀ σ2, σ2 = up σ 166 1 (w32 ((σ 161 27) + x3)) → Q 0 σ2)) ∧ (x4 < x3 → L (d + 1) M_R_sumWith 65 [vA 161, vU, vI x2, vI x3, vI x4, vI (w32 (x4 + 1)), vU] [] σ Q)) : L (d + 1) M_R_sumWith 53 [vA 161, vU, vI x2, vI x3, vI x4, vU, vU] [] σ Q :=
  L_iload dR_sumWith_53 rfl (L_iload_n dR_sumWith_55 rfl (L_icmp_ge dR_sumWith_56 (by decide) ⟨fun c1 => L_aload_n dR_sumWith_143 rfl (L_getF (b := 166) fw_R_35 rfl rfl (by decide) dR_sumWith_144 ⟨ob_161, L_iconst dR_sumWith_147 in_1 (L_aload_n dR_sumWith_148 rfl (L_getf fw_R_253 rfl dR_sumWith_149 ⟨ob_161, L_iload_n dR_sumWith_152 rfl (L_iadd dR_sumWith_153 (L_iastoreL (by decide) kd_166 dR_sumWith_154 ⟨⟨by decide, by decide⟩, fun σ2 e2 => L_iconst dR_sumWith_155 in_0 (L_ireturn rfl dR_sumWith_156 ((h.1 c1) σ2 e2))⟩))⟩))⟩), fun c1 => L_iload dR_sumWith_59 rfl (L_iconst dR_sumWith_61 in_1 (L_iadd dR_sumWith_62 (L_istore dR_sumWith_63 (by decide) (h.2 c1))))⟩))
theorem s_R_sumWith_65 {d : Nat} {x2 x3 x4 x5 : Int} {σ : SG} {Q : Int → SG → Prop} (h : (x3 ≤ x5 → L (d + 1) M_R_sumWith 53 [vA 161, vU, vI x2, vI x3, vI (w32 (x4 + 1)), vU, vU] [] σ Q) ∧ (x5 < x3 → L (d + 1) M_R_sumWith 74 [vA 161, vU, vI x2, vI x3, vI x4, vI x5, vI 0] [] σ Q)) : L (d + 1) M_R_sumWith 65 [vA 161, vU, vI x2, vI x3, vI x4, vI x5, vU] [] σ Q :=
  L_iload dR_sumWith_65 rfl (L_iload_n dR_sumWith_67 rfl (L_icmp_ge dR_sumWith_68 (by decide) ⟨fun c1 => L_iinc dR_sumWith_137 rfl (by decide) (L_goto dR_sumWith_140 (by decide) (L_weak [true, true, true, true, true, false, true] (h.1 c1))), fun c1 => L_iconst dR_sumWith_71 in_0 (L_istore dR_sumWith_72 (by decide) (h.2 c1))⟩))
theorem s_R_sumWith_74 {d : Nat} {x2 x3 x4 x5 x6 : Int} {σ : SG} {Q : Int → SG → Prop} (h : (x3 ≤ x6 → L (d + 1) M_R_sumWith 65 [vA 161, vU, vI x2, vI x3, vI x4, vI (w32 (x5 + 1)), vU] [] σ Q) ∧ (x6 < x3 → Tri d M_R_cell [vI x4, vI x5, vI x6] σ (fun r2 σ2 => (0 ≤ w32 (x2 + r2) ∧ w32 (x2 + r2) < 3440) ∧ Tri d M_R_set [vA 166, vI 0, vI (w32 ((σ 161 27) + x4)), vI (w32 ((σ 161 27) + x5)), vI (w32 ((σ 161 27) + x6)), vI (σ2 166 (w32 (x2 + r2)))] σ2 (fun r3 σ3 => L (d + 1) M_R_sumWith 74 [vA 161, vU, vI x2, vI x3, vI x4, vI x5, vI (w32 (x6 + 1))] [] σ3 Q)))) : L (d + 1) M_R_sumWith 74 [vA 161, vU, vI x2, vI x3, vI x4, vI x5, vI x6] [] σ Q :=
  L_iload dR_sumWith_74 rfl (L_iload_n dR_sumWith_76 rfl (L_icmp_ge dR_sumWith_77 (by decide) ⟨fun c1 => L_iinc dR_sumWith_131 rfl (by decide) (L_goto dR_sumWith_134 (by decide) (L_weak [true, true, true, true, true, true, false] (h.1 c1))), fun c1 => L_aload_n dR_sumWith_80 rfl (L_getF (b := 166) fw_R_35 rfl rfl (by decide) dR_sumWith_81 ⟨ob_161, L_iconst dR_sumWith_84 in_0 (L_aload_n dR_sumWith_85 rfl (L_getf fw_R_253 rfl dR_sumWith_86 ⟨ob_161, L_iload dR_sumWith_89 rfl (L_iadd dR_sumWith_91 (L_aload_n dR_sumWith_92 rfl (L_getf fw_R_253 rfl dR_sumWith_93 ⟨ob_161, L_iload dR_sumWith_96 rfl (L_iadd dR_sumWith_98 (L_aload_n dR_sumWith_99 rfl (L_getf fw_R_253 rfl dR_sumWith_100 ⟨ob_161, L_iload dR_sumWith_103 rfl (L_iadd dR_sumWith_105 (L_aload_n dR_sumWith_106 rfl (L_getF (b := 166) fw_R_35 rfl rfl (by decide) dR_sumWith_107 ⟨ob_161, L_iload_n dR_sumWith_110 rfl (L_iload dR_sumWith_111 rfl (L_iload dR_sumWith_113 rfl (L_iload dR_sumWith_115 rfl (L_callSI rfl cs_R_cell (As := [vI x4, vI x5, vI x6]) rfl (tk8 75 rfl rfl) rfl (Nat.le_of_ble_eq_true rfl) dR_sumWith_117 (Tri.mono (h.2 c1) (fun r2 σ2 q2 => L_iadd dR_sumWith_120 (L_ialoadL kd_166 dR_sumWith_121 ⟨q2.1, L_callSV rfl cs_R_set (As := [vA 166, vI 0, vI (w32 ((σ 161 27) + x4)), vI (w32 ((σ 161 27) + x5)), vI (w32 ((σ 161 27) + x6)), vI (σ2 166 (w32 (x2 + r2)))]) rfl (tk8 90 rfl rfl) rfl (Nat.le_of_ble_eq_true rfl) dR_sumWith_122 (Tri.mono q2.2 (fun r3 σ3 q3 => L_iinc dR_sumWith_125 rfl (by decide) (L_goto dR_sumWith_128 (by decide) q3)))⟩)))))))⟩)))⟩)))⟩)))⟩))⟩)⟩))
theorem dR_sum_0 : decode prog_14_method_164_code 0 = .ok (.aload_n 0, 1) := by decide +kernel
theorem dR_sum_1 : decode prog_14_method_164_code 1 = .ok (.iconst 0, 1) := by decide +kernel
theorem dR_sum_2 : decode prog_14_method_164_code 2 = .ok (.putfield 132, 3) := by decide +kernel
theorem dR_sum_5 : decode prog_14_method_164_code 5 = .ok (.aload_n 0, 1) := by decide +kernel
theorem dR_sum_6 : decode prog_14_method_164_code 6 = .ok (.iconst 0, 1) := by decide +kernel
theorem dR_sum_7 : decode prog_14_method_164_code 7 = .ok (.putfield 135, 3) := by decide +kernel
theorem dR_sum_10 : decode prog_14_method_164_code 10 = .ok (.aload_n 0, 1) := by decide +kernel
theorem dR_sum_11 : decode prog_14_method_164_code 11 = .ok (.invokevirtual 348, 3) := by decide +kernel
theorem dR_sum_14 : decode prog_14_method_164_code 14 = .ok (.iload_n 1, 1) := by decide +kernel
theorem dR_sum_15 : decode prog_14_method_164_code 15 = .ok (.invokestatic 384, 3) := by decide +kernel
theorem dR_sum_18 : decode prog_14_method_164_code 18 = .ok (.ifCond .ne 9, 3) := by decide +kernel
theorem dR_sum_21 : decode prog_14_method_164_code 21 = .ok (.aload_n 0, 1) := by decide +kernel
theorem dR_sum_22 : decode prog_14_method_164_code 22 = .ok (.iconst 2, 1) := by decide +kernel
theorem dR_sum_23 : decode prog_14_method_164_code 23 = .ok (.invokevirtual 351, 3) := by decide +kernel
theorem dR_sum_26 : decode prog_14_method_164_code 26 = .ok (.ireturn, 1) := by decide +kernel
theorem dR_sum_27 : decode prog_14_method_164_code 27 = .ok (.aload_n 0, 1) := by decide +kernel
theorem dR_sum_28 : decode prog_14_method_164_code 28 = .ok (.iload_n 1, 1) := by decide +kernel
theorem dR_sum_29 : decode prog_14_method_164_code 29 = .ok (.invokevirtual 387, 3) := by decide +kernel
theorem dR_sum_32 : decode prog_14_method_164_code 32 = .ok (.ifCond .eq 10, 3) := by decide +kernel
theorem dR_sum_35 : decode prog_14_method_164_code 35 = .ok (.aload_n 0, 1) := by decide +kernel
theorem dR_sum_36 : decode prog_14_method_164_code 36 = .ok (.bipush 8, 2) := by decide +kernel
theorem dR_sum_38 : decode prog_14_method_164_code 38 = .ok (.invokevirtual 351, 3) := by decide +kernel
theorem dR_sum_41 : decode prog_14_method_164_code 41 = .ok (.ireturn, 1) := by decide +kernel
theorem dR_sum_42 : decode prog_14_method_164_code 42 = .ok (.aload_n 0, 1) := by decide +kernel
theorem dR_sum_43 : decode prog_14_method_164_code 43 = .ok (.iload_n 1, 1) := by decide +kernel
theorem dR_sum_44 : decode prog_14_method_164_code 44 = .ok (.invokevirtual 613, 3) := by decide +kernel
theorem dR_sum_47 : decode prog_14_method_164_code 47 = .ok (.istore_n 2, 1) := by decide +kernel
theorem dR_sum_48 : decode prog_14_method_164_code 48 = .ok (.iload_n 2, 1) := by decide +kernel
theorem dR_sum_49 : decode prog_14_method_164_code 49 = .ok (.ifCond .le 11, 3) := by decide +kernel
theorem dR_sum_52 : decode prog_14_method_164_code 52 = .ok (.aload_n 0, 1) := by decide +kernel
theorem dR_sum_53 : decode prog_14_method_164_code 53 = .ok (.iload_n 2, 1) := by decide +kernel
theorem dR_sum_54 : decode prog_14_method_164_code 54 = .ok (.invokevirtual 351, 3) := by decide +kernel
theorem dR_sum_57 : decode prog_14_method_164_code 57 = .ok (.goto 9, 3) := by decide +kernel
theorem dR_sum_60 : decode prog_14_method_164_code 60 = .ok (.aload_n 0, 1) := by decide +kernel
theorem dR_sum_61 : decode prog_14_method_164_code 61 = .ok (.getfield 35, 3) := by decide +kernel
theorem dR_sum_64 : decode prog_14_method_164_code 64 = .ok (.iconst 1, 1) := by decide +kernel
theorem dR_sum_65 : decode prog_14_method_164_code 65 = .ok (.iaload, 1) := by decide +kernel
theorem dR_sum_66 : decode prog_14_method_164_code 66 = .ok (.ireturn, 1) := by decide +kernel
theorem t_R_sum {d : Nat} {x1 : Int} {σ : SG} {Q : Int → SG → Prop} (h : inI x1 → ((∀ σ1, σ1 = up σ 161 1 0 → (∀ σ2, σ2 = up σ1 161 0 0 → Tri d M_R_askNow [vA 161] σ2 (fun r3 σ3 => Tri d M_R_isShelf [vI x1] σ3 (fun r4 σ4 => (r4 ≠ 0 → Tri d M_R_isEmpty [vA 161, vI x1] σ4 (fun r6 σ6 => (r6 = 0 → Tri d M_R_sumWith [vA 161, vI x1] σ6 (fun r8 σ8 => (r8 ≤ 0 → Q (σ8 166 1) σ8) ∧ (0 < r8 → Tri d M_R_refuse [vA 161, vI r8] σ8 (fun r10 σ10 => Q r10 σ10)))) ∧ (r6 ≠ 0 → Tri d M_R_refuse [vA 161, vI 8] σ6 (fun r11 σ11 => Q r11 σ11)))) ∧ (r4 = 0 → Tri d M_R_refuse [vA 161, vI 2] σ4 (fun r12 σ12 => Q r12 σ12)))))))) : Tri (d + 1) M_R_sum [vA 161, vI x1] σ Q :=
  Tri_intro rfl (Nat.le_of_ble_eq_true rfl) (ls := [vA 161, vI x1, vU]) rfl (fun hok => L_aload_n dR_sum_0 rfl (L_iconst dR_sum_1 in_0 (L_putfN fp_R_132 rfl rfl (fun _ => ⟨rfl, rfl⟩) dR_sum_2 ⟨ob_161, fun σ1 e1 => L_aload_n dR_sum_5 rfl (L_iconst dR_sum_6 in_0 (L_putfN fp_R_135 rfl rfl (fun _ => ⟨rfl, rfl⟩) dR_sum_7 ⟨ob_161, fun σ2 e2 => L_aload_n dR_sum_10 rfl (L_callVV rfl cv_R_askNow (As := []) rfl (tk8 108 rfl rfl) rfl (Nat.le_of_ble_eq_true rfl) dR_sum_11 ⟨ob_161, Tri.mono (((h (hok _ (List.mem_of_getElem? (i := 1) rfl))) σ1 e1) σ2 e2) (fun r3 σ3 q3 => L_iload_n dR_sum_14 rfl (L_callSI rfl cs_R_isShelf (As := [vI x1]) rfl (tk8 198 rfl rfl) rfl (Nat.le_of_ble_eq_true rfl) dR_sum_15 (Tri.mono q3 (fun r4 σ4 q4 => L_if_ne dR_sum_18 (by decide) ⟨fun c5 => L_aload_n dR_sum_27 rfl (L_iload_n dR_sum_28 rfl (L_callVI rfl cv_R_isEmpty (As := [vI x1]) rfl (tk8 205 rfl rfl) rfl (Nat.le_of_ble_eq_true rfl) dR_sum_29 ⟨ob_161, Tri.mono (q4.1 c5) (fun r6 σ6 q6 => L_if_eq dR_sum_32 (by decide) ⟨fun c7 => L_aload_n dR_sum_42 rfl (L_iload_n dR_sum_43 rfl (L_callVI rfl cv_R_sumWith (As := [vI x1]) rfl (tk10 76 rfl rfl) rfl (Nat.le_of_ble_eq_true rfl) dR_sum_44 ⟨ob_161, Tri.mono (q6.1 c7) (fun r8 σ8 q8 => L_istore_n dR_sum_47 (by decide) (L_iload_n dR_sum_48 rfl (L_if_le dR_sum_49 (by decide) ⟨fun c9 => L_aload_n dR_sum_60 rfl (L_getF (b := 166) fw_R_35 rfl rfl (by decide) dR_sum_61 ⟨ob_161, L_iconst dR_sum_64 in_1 (L_ialoadL kd_166 dR_sum_65 ⟨⟨by decide, by decide⟩, L_ireturn rfl dR_sum_66 (q8.1 c9)⟩)⟩), fun c9 => L_aload_n dR_sum_52 rfl (L_iload_n dR_sum_53 rfl (L_callVI rfl cv_R_refuse (As := [vI r8]) rfl (tk8 117 rfl rfl) rfl (Nat.le_of_ble_eq_true rfl) dR_sum_54 ⟨ob_161, Tri.mono (q8.2 c9) (fun r10 σ10 q10 => L_goto dR_sum_57 (by decide) (L_ireturn rfl dR_sum_66 q10))⟩))⟩)))⟩)), fun c7 => L_aload_n dR_sum_35 rfl (L_bipush dR_sum_36 bp_8 in_8 (L_callVI rfl cv_R_refuse (As := [vI 8]) rfl (tk8 117 rfl rfl) rfl (Nat.le_of_ble_eq_true rfl) dR_sum_38 ⟨ob_161, Tri.mono (q6.2 c7) (fun r11 σ11 q11 => L_ireturn rfl dR_sum_41 q11)⟩))⟩)⟩)), fun c5 => L_aload_n dR_sum_21 rfl (L_iconst dR_sum_22 in_2 (L_callVI rfl cv_R_refuse (As := [vI 2]) rfl (tk8 117 rfl rfl) rfl (Nat.le_of_ble_eq_true rfl) dR_sum_23 ⟨ob_161, Tri.mono (q4.2 c5) (fun r12 σ12 q12 => L_ireturn rfl dR_sum_26 q12)⟩))⟩))))⟩)⟩))⟩)))
theorem dR_wrongMade_0 : decode prog_14_method_165_code 0 = .ok (.aload_n 0, 1) := by decide +kernel
theorem dR_wrongMade_1 : decode prog_14_method_165_code 1 = .ok (.iload_n 1, 1) := by decide +kernel
theorem dR_wrongMade_2 : decode prog_14_method_165_code 2 = .ok (.invokevirtual 402, 3) := by decide +kernel
theorem dR_wrongMade_5 : decode prog_14_method_165_code 5 = .ok (.ifCond .ne 5, 3) := by decide +kernel
theorem dR_wrongMade_8 : decode prog_14_method_165_code 8 = .ok (.iconst 1, 1) := by decide +kernel
theorem dR_wrongMade_9 : decode prog_14_method_165_code 9 = .ok (.ireturn, 1) := by decide +kernel
theorem dR_wrongMade_10 : decode prog_14_method_165_code 10 = .ok (.aload_n 0, 1) := by decide +kernel
theorem dR_wrongMade_11 : decode prog_14_method_165_code 11 = .ok (.getfield 17, 3) := by decide +kernel
theorem dR_wrongMade_14 : decode prog_14_method_165_code 14 = .ok (.iload_n 1, 1) := by decide +kernel
theorem dR_wrongMade_15 : decode prog_14_method_165_code 15 = .ok (.iaload, 1) := by decide +kernel
theorem dR_wrongMade_16 : decode prog_14_method_165_code 16 = .ok (.ifCond .ge 5, 3) := by decide +kernel
theorem dR_wrongMade_19 : decode prog_14_method_165_code 19 = .ok (.iconst 3, 1) := by decide +kernel
theorem dR_wrongMade_20 : decode prog_14_method_165_code 20 = .ok (.ireturn, 1) := by decide +kernel
theorem dR_wrongMade_21 : decode prog_14_method_165_code 21 = .ok (.iload_n 2, 1) := by decide +kernel
theorem dR_wrongMade_22 : decode prog_14_method_165_code 22 = .ok (.i2l, 1) := by decide +kernel
theorem dR_wrongMade_23 : decode prog_14_method_165_code 23 = .ok (.lconst 1, 1) := by decide +kernel
theorem dR_wrongMade_24 : decode prog_14_method_165_code 24 = .ok (.ldc2_w 405, 3) := by decide +kernel
theorem dR_wrongMade_27 : decode prog_14_method_165_code 27 = .ok (.invokestatic 167, 3) := by decide +kernel
theorem dR_wrongMade_30 : decode prog_14_method_165_code 30 = .ok (.ifCond .ne 5, 3) := by decide +kernel
theorem dR_wrongMade_33 : decode prog_14_method_165_code 33 = .ok (.iconst 5, 1) := by decide +kernel
theorem dR_wrongMade_34 : decode prog_14_method_165_code 34 = .ok (.ireturn, 1) := by decide +kernel
theorem dR_wrongMade_35 : decode prog_14_method_165_code 35 = .ok (.aload_n 0, 1) := by decide +kernel
theorem dR_wrongMade_36 : decode prog_14_method_165_code 36 = .ok (.iload_n 1, 1) := by decide +kernel
theorem dR_wrongMade_37 : decode prog_14_method_165_code 37 = .ok (.iload_n 2, 1) := by decide +kernel
theorem dR_wrongMade_38 : decode prog_14_method_165_code 38 = .ok (.invokevirtual 407, 3) := by decide +kernel
theorem dR_wrongMade_41 : decode prog_14_method_165_code 41 = .ok (.ireturn, 1) := by decide +kernel
theorem t_R_wrongMade {d : Nat} {x1 x2 : Int} {σ : SG} {Q : Int → SG → Prop} (h : inI x1 → inI x2 → (Tri d M_R_isTray [vA 161, vI x1] σ (fun r1 σ1 => (r1 ≠ 0 → (0 ≤ x1 ∧ x1 < 4) ∧ (0 ≤ σ1 163 x1 → Tri d M_R_isIn [vJ x2, vJ 1, vJ 20] σ1 (fun r4 σ4 => (r4 ≠ 0 → Tri d M_R_wrongVectors [vA 161, vI x1, vI x2] σ4 (fun r6 σ6 => Q r6 σ6)) ∧ (r4 = 0 → Q 5 σ4))) ∧ (σ1 163 x1 < 0 → Q 3 σ1)) ∧ (r1 = 0 → Q 1 σ1)))) : Tri (d + 1) M_R_wrongMade [vA 161, vI x1, vI x2] σ Q :=
  Tri_intro rfl (Nat.le_of_ble_eq_true rfl) (ls := [vA 161, vI x1, vI x2]) rfl (fun hok => L_aload_n dR_wrongMade_0 rfl (L_iload_n dR_wrongMade_1 rfl (L_callVI rfl cv_R_isTray (As := [vI x1]) rfl (tk8 213 rfl rfl) rfl (Nat.le_of_ble_eq_true rfl) dR_wrongMade_2 ⟨ob_161, Tri.mono ((h (hok _ (List.mem_of_getElem? (i := 1) rfl)) (hok _ (List.mem_of_getElem? (i := 2) rfl)))) (fun r1 σ1 q1 => L_if_ne dR_wrongMade_5 (by decide) ⟨fun c2 => L_aload_n dR_wrongMade_10 rfl (L_getF (b := 163) fw_R_17 rfl rfl (by decide) dR_wrongMade_11 ⟨ob_161, L_iload_n dR_wrongMade_14 rfl (L_ialoadL kd_163 dR_wrongMade_15 ⟨(q1.1 c2).1, L_if_ge dR_wrongMade_16 (by decide) ⟨fun c3 => L_iload_n dR_wrongMade_21 rfl (L_i2l dR_wrongMade_22 (L_lconst (x := 1) dR_wrongMade_23 rfl inJ_1 (L_ldc2 (x := 20) (tk8 217 rfl rfl) rfl inJ_20 dR_wrongMade_24 (L_callSI rfl cs_R_isIn (As := [vJ x2, vJ 1, vJ 20]) rfl (tk8 47 rfl rfl) rfl (Nat.le_of_ble_eq_true rfl) dR_wrongMade_27 (Tri.mono ((q1.1 c2).2.1 c3) (fun r4 σ4 q4 => L_if_ne dR_wrongMade_30 (by decide) ⟨fun c5 => L_aload_n dR_wrongMade_35 rfl (L_iload_n dR_wrongMade_36 rfl (L_iload_n dR_wrongMade_37 rfl (L_callVI rfl cv_R_wrongVectors (As := [vI x1, vI x2]) rfl (tk8 218 rfl rfl) rfl (Nat.le_of_ble_eq_true rfl) dR_wrongMade_38 ⟨ob_161, Tri.mono (q4.1 c5) (fun r6 σ6 q6 => L_ireturn rfl dR_wrongMade_41 q6)⟩))), fun c5 => L_iconst dR_wrongMade_33 in_5 (L_ireturn rfl dR_wrongMade_34 (q4.2 c5))⟩)))))), fun c3 => L_iconst dR_wrongMade_19 in_3 (L_ireturn rfl dR_wrongMade_20 ((q1.1 c2).2.2 c3))⟩⟩)⟩), fun c2 => L_iconst dR_wrongMade_8 in_1 (L_ireturn rfl dR_wrongMade_9 (q1.2 c2))⟩)⟩)))
theorem dR_rest_0 : decode prog_14_method_166_code 0 = .ok (.aload_n 0, 1) := by decide +kernel
theorem dR_rest_1 : decode prog_14_method_166_code 1 = .ok (.iconst 0, 1) := by decide +kernel
theorem dR_rest_2 : decode prog_14_method_166_code 2 = .ok (.putfield 132, 3) := by decide +kernel
theorem dR_rest_5 : decode prog_14_method_166_code 5 = .ok (.aload_n 0, 1) := by decide +kernel
theorem dR_rest_6 : decode prog_14_method_166_code 6 = .ok (.iconst 0, 1) := by decide +kernel
theorem dR_rest_7 : decode prog_14_method_166_code 7 = .ok (.putfield 135, 3) := by decide +kernel
theorem dR_rest_10 : decode prog_14_method_166_code 10 = .ok (.aload_n 0, 1) := by decide +kernel
theorem dR_rest_11 : decode prog_14_method_166_code 11 = .ok (.invokevirtual 348, 3) := by decide +kernel
theorem dR_rest_14 : decode prog_14_method_166_code 14 = .ok (.aload_n 0, 1) := by decide +kernel
theorem dR_rest_15 : decode prog_14_method_166_code 15 = .ok (.iload_n 1, 1) := by decide +kernel
theorem dR_rest_16 : decode prog_14_method_166_code 16 = .ok (.iload_n 2, 1) := by decide +kernel
theorem dR_rest_17 : decode prog_14_method_166_code 17 = .ok (.invokevirtual 616, 3) := by decide +kernel
theorem dR_rest_20 : decode prog_14_method_166_code 20 = .ok (.istore_n 3, 1) := by decide +kernel
theorem dR_rest_21 : decode prog_14_method_166_code 21 = .ok (.iload_n 3, 1) := by decide +kernel
theorem dR_rest_22 : decode prog_14_method_166_code 22 = .ok (.ifCond .le 9, 3) := by decide +kernel
theorem dR_rest_25 : decode prog_14_method_166_code 25 = .ok (.aload_n 0, 1) := by decide +kernel
theorem dR_rest_26 : decode prog_14_method_166_code 26 = .ok (.iload_n 3, 1) := by decide +kernel
theorem dR_rest_27 : decode prog_14_method_166_code 27 = .ok (.invokevirtual 351, 3) := by decide +kernel
theorem dR_rest_30 : decode prog_14_method_166_code 30 = .ok (.ireturn, 1) := by decide +kernel
theorem dR_rest_31 : decode prog_14_method_166_code 31 = .ok (.aload_n 0, 1) := by decide +kernel
theorem dR_rest_32 : decode prog_14_method_166_code 32 = .ok (.iload_n 1, 1) := by decide +kernel
theorem dR_rest_33 : decode prog_14_method_166_code 33 = .ok (.iload_n 2, 1) := by decide +kernel
theorem dR_rest_34 : decode prog_14_method_166_code 34 = .ok (.iconst 2, 1) := by decide +kernel
theorem dR_rest_35 : decode prog_14_method_166_code 35 = .ok (.invokevirtual 410, 3) := by decide +kernel
theorem dR_rest_38 : decode prog_14_method_166_code 38 = .ok (.istore 4, 2) := by decide +kernel
theorem dR_rest_40 : decode prog_14_method_166_code 40 = .ok (.iload 4, 2) := by decide +kernel
theorem dR_rest_42 : decode prog_14_method_166_code 42 = .ok (.aload_n 0, 1) := by decide +kernel
theorem dR_rest_43 : decode prog_14_method_166_code 43 = .ok (.getfield 253, 3) := by decide +kernel
theorem dR_rest_46 : decode prog_14_method_166_code 46 = .ok (.if_icmp .ne 10, 3) := by decide +kernel
theorem dR_rest_49 : decode prog_14_method_166_code 49 = .ok (.aload_n 0, 1) := by decide +kernel
theorem dR_rest_50 : decode prog_14_method_166_code 50 = .ok (.bipush 9, 2) := by decide +kernel
theorem dR_rest_52 : decode prog_14_method_166_code 52 = .ok (.invokevirtual 351, 3) := by decide +kernel
theorem dR_rest_55 : decode prog_14_method_166_code 55 = .ok (.ireturn, 1) := by decide +kernel
theorem dR_rest_56 : decode prog_14_method_166_code 56 = .ok (.iconst 0, 1) := by decide +kernel
theorem dR_rest_57 : decode prog_14_method_166_code 57 = .ok (.istore 5, 2) := by decide +kernel
theorem dR_rest_59 : decode prog_14_method_166_code 59 = .ok (.iconst 0, 1) := by decide +kernel
theorem dR_rest_60 : decode prog_14_method_166_code 60 = .ok (.istore 6, 2) := by decide +kernel
theorem dR_rest_62 : decode prog_14_method_166_code 62 = .ok (.iload 6, 2) := by decide +kernel
theorem dR_rest_64 : decode prog_14_method_166_code 64 = .ok (.aload_n 0, 1) := by decide +kernel
theorem dR_rest_65 : decode prog_14_method_166_code 65 = .ok (.getfield 253, 3) := by decide +kernel
theorem dR_rest_68 : decode prog_14_method_166_code 68 = .ok (.if_icmp .ge 77, 3) := by decide +kernel
theorem dR_rest_71 : decode prog_14_method_166_code 71 = .ok (.iconst 0, 1) := by decide +kernel
theorem dR_rest_72 : decode prog_14_method_166_code 72 = .ok (.istore 7, 2) := by decide +kernel
theorem dR_rest_74 : decode prog_14_method_166_code 74 = .ok (.iconst 0, 1) := by decide +kernel
theorem dR_rest_75 : decode prog_14_method_166_code 75 = .ok (.istore 8, 2) := by decide +kernel
theorem dR_rest_77 : decode prog_14_method_166_code 77 = .ok (.iload 8, 2) := by decide +kernel
theorem dR_rest_79 : decode prog_14_method_166_code 79 = .ok (.iload 4, 2) := by decide +kernel
theorem dR_rest_81 : decode prog_14_method_166_code 81 = .ok (.if_icmp .ge 38, 3) := by decide +kernel
theorem dR_rest_84 : decode prog_14_method_166_code 84 = .ok (.iload 7, 2) := by decide +kernel
theorem dR_rest_86 : decode prog_14_method_166_code 86 = .ok (.ifCond .ne 20, 3) := by decide +kernel
theorem dR_rest_89 : decode prog_14_method_166_code 89 = .ok (.aload_n 0, 1) := by decide +kernel
theorem dR_rest_90 : decode prog_14_method_166_code 90 = .ok (.aload_n 0, 1) := by decide +kernel
theorem dR_rest_91 : decode prog_14_method_166_code 91 = .ok (.getfield 53, 3) := by decide +kernel
theorem dR_rest_94 : decode prog_14_method_166_code 94 = .ok (.iconst 5, 1) := by decide +kernel
theorem dR_rest_95 : decode prog_14_method_166_code 95 = .ok (.iload 8, 2) := by decide +kernel
theorem dR_rest_97 : decode prog_14_method_166_code 97 = .ok (.imul, 1) := by decide +kernel
theorem dR_rest_98 : decode prog_14_method_166_code 98 = .ok (.invokevirtual 330, 3) := by decide +kernel
theorem dR_rest_101 : decode prog_14_method_166_code 101 = .ok (.iload 6, 2) := by decide +kernel
theorem dR_rest_103 : decode prog_14_method_166_code 103 = .ok (.if_icmp .ne 7, 3) := by decide +kernel
theorem dR_rest_106 : decode prog_14_method_166_code 106 = .ok (.iconst 1, 1) := by decide +kernel
theorem dR_rest_107 : decode prog_14_method_166_code 107 = .ok (.goto 4, 3) := by decide +kernel
theorem dR_rest_110 : decode prog_14_method_166_code 110 = .ok (.iconst 0, 1) := by decide +kernel
theorem dR_rest_111 : decode prog_14_method_166_code 111 = .ok (.istore 7, 2) := by decide +kernel
theorem dR_rest_113 : decode prog_14_method_166_code 113 = .ok (.iinc 8 1, 3) := by decide +kernel
theorem dR_rest_116 : decode prog_14_method_166_code 116 = .ok (.goto (-39), 3) := by decide +kernel
theorem dR_rest_119 : decode prog_14_method_166_code 119 = .ok (.iload 7, 2) := by decide +kernel
theorem dR_rest_121 : decode prog_14_method_166_code 121 = .ok (.ifCond .eq 6, 3) := by decide +kernel
theorem dR_rest_124 : decode prog_14_method_166_code 124 = .ok (.goto 15, 3) := by decide +kernel
theorem dR_rest_127 : decode prog_14_method_166_code 127 = .ok (.aload_n 0, 1) := by decide +kernel
theorem dR_rest_128 : decode prog_14_method_166_code 128 = .ok (.getfield 101, 3) := by decide +kernel
theorem dR_rest_131 : decode prog_14_method_166_code 131 = .ok (.iload 5, 2) := by decide +kernel
theorem dR_rest_133 : decode prog_14_method_166_code 133 = .ok (.iload 6, 2) := by decide +kernel
theorem dR_rest_135 : decode prog_14_method_166_code 135 = .ok (.iastore, 1) := by decide +kernel
theorem dR_rest_136 : decode prog_14_method_166_code 136 = .ok (.iinc 5 1, 3) := by decide +kernel
theorem dR_rest_139 : decode prog_14_method_166_code 139 = .ok (.iinc 6 1, 3) := by decide +kernel
theorem dR_rest_142 : decode prog_14_method_166_code 142 = .ok (.goto (-80), 3) := by decide +kernel
theorem dR_rest_145 : decode prog_14_method_166_code 145 = .ok (.aload_n 0, 1) := by decide +kernel
theorem dR_rest_146 : decode prog_14_method_166_code 146 = .ok (.getfield 41, 3) := by decide +kernel
theorem dR_rest_149 : decode prog_14_method_166_code 149 = .ok (.iconst 0, 1) := by decide +kernel
theorem dR_rest_150 : decode prog_14_method_166_code 150 = .ok (.aload_n 0, 1) := by decide +kernel
theorem dR_rest_151 : decode prog_14_method_166_code 151 = .ok (.getfield 250, 3) := by decide +kernel
theorem dR_rest_154 : decode prog_14_method_166_code 154 = .ok (.iload 5, 2) := by decide +kernel
theorem dR_rest_156 : decode prog_14_method_166_code 156 = .ok (.invokestatic 303, 3) := by decide +kernel
theorem dR_rest_159 : decode prog_14_method_166_code 159 = .ok (.iconst 0, 1) := by decide +kernel
theorem dR_rest_160 : decode prog_14_method_166_code 160 = .ok (.istore 6, 2) := by decide +kernel
theorem dR_rest_162 : decode prog_14_method_166_code 162 = .ok (.iload 6, 2) := by decide +kernel
theorem dR_rest_164 : decode prog_14_method_166_code 164 = .ok (.iload 5, 2) := by decide +kernel
theorem dR_rest_166 : decode prog_14_method_166_code 166 = .ok (.if_icmp .ge 130, 3) := by decide +kernel
theorem dR_rest_169 : decode prog_14_method_166_code 169 = .ok (.iload 6, 2) := by decide +kernel
theorem dR_rest_171 : decode prog_14_method_166_code 171 = .ok (.iconst 1, 1) := by decide +kernel
theorem dR_rest_172 : decode prog_14_method_166_code 172 = .ok (.iadd, 1) := by decide +kernel
theorem dR_rest_173 : decode prog_14_method_166_code 173 = .ok (.istore 7, 2) := by decide +kernel
theorem dR_rest_175 : decode prog_14_method_166_code 175 = .ok (.iload 7, 2) := by decide +kernel
theorem dR_rest_177 : decode prog_14_method_166_code 177 = .ok (.iload 5, 2) := by decide +kernel
theorem dR_rest_179 : decode prog_14_method_166_code 179 = .ok (.if_icmp .ge 111, 3) := by decide +kernel
theorem dR_rest_182 : decode prog_14_method_166_code 182 = .ok (.iconst 0, 1) := by decide +kernel
theorem dR_rest_183 : decode prog_14_method_166_code 183 = .ok (.istore 8, 2) := by decide +kernel
theorem dR_rest_185 : decode prog_14_method_166_code 185 = .ok (.iload 8, 2) := by decide +kernel
theorem dR_rest_187 : decode prog_14_method_166_code 187 = .ok (.aload_n 0, 1) := by decide +kernel
theorem dR_rest_188 : decode prog_14_method_166_code 188 = .ok (.getfield 253, 3) := by decide +kernel
theorem dR_rest_191 : decode prog_14_method_166_code 191 = .ok (.if_icmp .ge 36, 3) := by decide +kernel
theorem dR_rest_194 : decode prog_14_method_166_code 194 = .ok (.aload_n 0, 1) := by decide +kernel
theorem dR_rest_195 : decode prog_14_method_166_code 195 = .ok (.getfield 62, 3) := by decide +kernel
theorem dR_rest_198 : decode prog_14_method_166_code 198 = .ok (.iload 8, 2) := by decide +kernel
theorem dR_rest_200 : decode prog_14_method_166_code 200 = .ok (.aload_n 0, 1) := by decide +kernel
theorem dR_rest_201 : decode prog_14_method_166_code 201 = .ok (.aload_n 0, 1) := by decide +kernel
theorem dR_rest_202 : decode prog_14_method_166_code 202 = .ok (.getfield 101, 3) := by decide +kernel
theorem dR_rest_205 : decode prog_14_method_166_code 205 = .ok (.iload 6, 2) := by decide +kernel
theorem dR_rest_207 : decode prog_14_method_166_code 207 = .ok (.iaload, 1) := by decide +kernel
theorem dR_rest_208 : decode prog_14_method_166_code 208 = .ok (.aload_n 0, 1) := by decide +kernel
theorem dR_rest_209 : decode prog_14_method_166_code 209 = .ok (.getfield 101, 3) := by decide +kernel
theorem dR_rest_212 : decode prog_14_method_166_code 212 = .ok (.iload 7, 2) := by decide +kernel
theorem dR_rest_214 : decode prog_14_method_166_code 214 = .ok (.iaload, 1) := by decide +kernel
theorem dR_rest_215 : decode prog_14_method_166_code 215 = .ok (.iload 8, 2) := by decide +kernel
theorem dR_rest_217 : decode prog_14_method_166_code 217 = .ok (.invokevirtual 327, 3) := by decide +kernel
theorem dR_rest_220 : decode prog_14_method_166_code 220 = .ok (.iastore, 1) := by decide +kernel
theorem dR_rest_221 : decode prog_14_method_166_code 221 = .ok (.iinc 8 1, 3) := by decide +kernel
theorem dR_rest_224 : decode prog_14_method_166_code 224 = .ok (.goto (-39), 3) := by decide +kernel
theorem dR_rest_227 : decode prog_14_method_166_code 227 = .ok (.aload_n 0, 1) := by decide +kernel
theorem dR_rest_228 : decode prog_14_method_166_code 228 = .ok (.aload_n 0, 1) := by decide +kernel
theorem dR_rest_229 : decode prog_14_method_166_code 229 = .ok (.getfield 53, 3) := by decide +kernel
theorem dR_rest_232 : decode prog_14_method_166_code 232 = .ok (.iload 4, 2) := by decide +kernel
theorem dR_rest_234 : decode prog_14_method_166_code 234 = .ok (.aload_n 0, 1) := by decide +kernel
theorem dR_rest_235 : decode prog_14_method_166_code 235 = .ok (.getfield 62, 3) := by decide +kernel
theorem dR_rest_238 : decode prog_14_method_166_code 238 = .ok (.iconst 0, 1) := by decide +kernel
theorem dR_rest_239 : decode prog_14_method_166_code 239 = .ok (.invokevirtual 334, 3) := by decide +kernel
theorem dR_rest_242 : decode prog_14_method_166_code 242 = .ok (.iconst 0, 1) := by decide +kernel
theorem dR_rest_243 : decode prog_14_method_166_code 243 = .ok (.istore 8, 2) := by decide +kernel
theorem dR_rest_245 : decode prog_14_method_166_code 245 = .ok (.iload 8, 2) := by decide +kernel
theorem dR_rest_247 : decode prog_14_method_166_code 247 = .ok (.iload 5, 2) := by decide +kernel
theorem dR_rest_249 : decode prog_14_method_166_code 249 = .ok (.if_icmp .ge 35, 3) := by decide +kernel
theorem dR_rest_252 : decode prog_14_method_166_code 252 = .ok (.aload_n 0, 1) := by decide +kernel
theorem dR_rest_253 : decode prog_14_method_166_code 253 = .ok (.getfield 41, 3) := by decide +kernel
theorem dR_rest_256 : decode prog_14_method_166_code 256 = .ok (.iconst 0, 1) := by decide +kernel
theorem dR_rest_257 : decode prog_14_method_166_code 257 = .ok (.iload 6, 2) := by decide +kernel
theorem dR_rest_259 : decode prog_14_method_166_code 259 = .ok (.iload 7, 2) := by decide +kernel
theorem dR_rest_261 : decode prog_14_method_166_code 261 = .ok (.iload 8, 2) := by decide +kernel
theorem dR_rest_263 : decode prog_14_method_166_code 263 = .ok (.aload_n 0, 1) := by decide +kernel
theorem dR_rest_264 : decode prog_14_method_166_code 264 = .ok (.getfield 95, 3) := by decide +kernel
theorem dR_rest_267 : decode prog_14_method_166_code 267 = .ok (.aload_n 0, 1) := by decide +kernel
theorem dR_rest_268 : decode prog_14_method_166_code 268 = .ok (.getfield 101, 3) := by decide +kernel
theorem dR_rest_271 : decode prog_14_method_166_code 271 = .ok (.iload 8, 2) := by decide +kernel
theorem dR_rest_273 : decode prog_14_method_166_code 273 = .ok (.iaload, 1) := by decide +kernel
theorem dR_rest_274 : decode prog_14_method_166_code 274 = .ok (.iaload, 1) := by decide +kernel
theorem dR_rest_275 : decode prog_14_method_166_code 275 = .ok (.invokestatic 283, 3) := by decide +kernel
theorem dR_rest_278 : decode prog_14_method_166_code 278 = .ok (.iinc 8 1, 3) := by decide +kernel
theorem dR_rest_281 : decode prog_14_method_166_code 281 = .ok (.goto (-36), 3) := by decide +kernel
theorem dR_rest_284 : decode prog_14_method_166_code 284 = .ok (.iinc 7 1, 3) := by decide +kernel
theorem dR_rest_287 : decode prog_14_method_166_code 287 = .ok (.goto (-112), 3) := by decide +kernel
theorem dR_rest_290 : decode prog_14_method_166_code 290 = .ok (.iinc 6 1, 3) := by decide +kernel
theorem dR_rest_293 : decode prog_14_method_166_code 293 = .ok (.goto (-131), 3) := by decide +kernel
theorem dR_rest_296 : decode prog_14_method_166_code 296 = .ok (.aload_n 0, 1) := by decide +kernel
theorem dR_rest_297 : decode prog_14_method_166_code 297 = .ok (.invokevirtual 589, 3) := by decide +kernel
theorem dR_rest_300 : decode prog_14_method_166_code 300 = .ok (.iload 5, 2) := by decide +kernel
theorem dR_rest_302 : decode prog_14_method_166_code 302 = .ok (.ireturn, 1) := by decide +kernel
theorem t_R_rest {d : Nat} {x1 x2 : Int} {σ : SG} {Q : Int → SG → Prop} (h : inI x1 → inI x2 → ((∀ σ1, σ1 = up σ 161 1 0 → (∀ σ2, σ2 = up σ1 161 0 0 → Tri d M_R_askNow [vA 161] σ2 (fun r3 σ3 => Tri d M_R_wrongMade [vA 161, vI x1, vI x2] σ3 (fun r4 σ4 => (r4 ≤ 0 → Tri d M_R_made [vA 161, vI x1, vI x2, vI 2] σ4 (fun r6 σ6 => (r6 ≠ σ6 161 27 → L (d + 1) M_R_rest 62 [vA 161, vU, vU, vU, vI r6, vI 0, vI 0, vU, vU] [] σ6 Q) ∧ (r6 = σ6 161 27 → Tri d M_R_refuse [vA 161, vI 9] σ6 (fun r8 σ8 => Q r8 σ8)))) ∧ (0 < r4 → Tri d M_R_refuse [vA 161, vI r4] σ4 (fun r9 σ9 => Q r9 σ9)))))))) : Tri (d + 1) M_R_rest [vA 161, vI x1, vI x2] σ Q :=
  Tri_intro rfl (Nat.le_of_ble_eq_true rfl) (ls := [vA 161, vI x1, vI x2, vU, vU, vU, vU, vU, vU]) rfl (fun hok => L_aload_n dR_rest_0 rfl (L_iconst dR_rest_1 in_0 (L_putfN fp_R_132 rfl rfl (fun _ => ⟨rfl, rfl⟩) dR_rest_2 ⟨ob_161, fun σ1 e1 => L_aload_n dR_rest_5 rfl (L_iconst dR_rest_6 in_0 (L_putfN fp_R_135 rfl rfl (fun _ => ⟨rfl, rfl⟩) dR_rest_7 ⟨ob_161, fun σ2 e2 => L_aload_n dR_rest_10 rfl (L_callVV rfl cv_R_askNow (As := []) rfl (tk8 108 rfl rfl) rfl (Nat.le_of_ble_eq_true rfl) dR_rest_11 ⟨ob_161, Tri.mono (((h (hok _ (List.mem_of_getElem? (i := 1) rfl)) (hok _ (List.mem_of_getElem? (i := 2) rfl))) σ1 e1) σ2 e2) (fun r3 σ3 q3 => L_aload_n dR_rest_14 rfl (L_iload_n dR_rest_15 rfl (L_iload_n dR_rest_16 rfl (L_callVI rfl cv_R_wrongMade (As := [vI x1, vI x2]) rfl (tk10 84 rfl rfl) rfl (Nat.le_of_ble_eq_true rfl) dR_rest_17 ⟨ob_161, Tri.mono q3 (fun r4 σ4 q4 => L_istore_n dR_rest_20 (by decide) (L_iload_n dR_rest_21 rfl (L_if_le dR_rest_22 (by decide) ⟨fun c5 => L_aload_n dR_rest_31 rfl (L_iload_n dR_rest_32 rfl (L_iload_n dR_rest_33 rfl (L_iconst dR_rest_34 in_2 (L_callVI rfl cv_R_made (As := [vI x1, vI x2, vI 2]) rfl (tk8 226 rfl rfl) rfl (Nat.le_of_ble_eq_true rfl) dR_rest_35 ⟨ob_161, Tri.mono (q4.1 c5) (fun r6 σ6 q6 => L_istore dR_rest_38 (by decide) (L_iload dR_rest_40 rfl (L_aload_n dR_rest_42 rfl (L_getf fw_R_253 rfl dR_rest_43 ⟨ob_161, L_icmp_ne dR_rest_46 (by decide) ⟨fun c7 => L_iconst dR_rest_56 in_0 (L_istore dR_rest_57 (by decide) (L_iconst dR_rest_59 in_0 (L_istore dR_rest_60 (by decide) (L_weak [true, false, false, false, true, true, true, true, true] (q6.1 c7))))), fun c7 => L_aload_n dR_rest_49 rfl (L_bipush dR_rest_50 bp_9 in_9 (L_callVI rfl cv_R_refuse (As := [vI 9]) rfl (tk8 117 rfl rfl) rfl (Nat.le_of_ble_eq_true rfl) dR_rest_52 ⟨ob_161, Tri.mono (q6.2 c7) (fun r8 σ8 q8 => L_ireturn rfl dR_rest_55 q8)⟩))⟩⟩))))⟩)))), fun c5 => L_aload_n dR_rest_25 rfl (L_iload_n dR_rest_26 rfl (L_callVI rfl cv_R_refuse (As := [vI r4]) rfl (tk8 117 rfl rfl) rfl (Nat.le_of_ble_eq_true rfl) dR_rest_27 ⟨ob_161, Tri.mono (q4.2 c5) (fun r9 σ9 q9 => L_ireturn rfl dR_rest_30 q9)⟩))⟩)))⟩))))⟩)⟩))⟩)))
theorem s_R_rest_62 {d : Nat} {x4 x5 x6 : Int} {σ : SG} {Q : Int → SG → Prop} (h : (σ 161 27 ≤ x6 → Tri d M_R_clear [vA 168, vI 0, vI (σ 161 26), vI x5] σ (fun r2 σ2 => L (d + 1) M_R_rest 162 [vA 161, vU, vU, vU, vI x4, vI x5, vI 0, vU, vU] [] σ2 Q)) ∧ (x6 < σ 161 27 → L (d + 1) M_R_rest 77 [vA 161, vU, vU, vU, vI x4, vI x5, vI x6, vI 0, vI 0] [] σ Q)) : L (d + 1) M_R_rest 62 [vA 161, vU, vU, vU, vI x4, vI x5, vI x6, vU, vU] [] σ Q :=
  L_iload dR_rest_62 rfl (L_aload_n dR_rest_64 rfl (L_getf fw_R_253 rfl dR_rest_65 ⟨ob_161, L_icmp_ge dR_rest_68 (by decide) ⟨fun c1 => L_aload_n dR_rest_145 rfl (L_getF (b := 168) fw_R_41 rfl rfl (by decide) dR_rest_146 ⟨ob_161, L_iconst dR_rest_149 in_0 (L_aload_n dR_rest_150 rfl (L_getf fw_R_250 rfl dR_rest_151 ⟨ob_161, L_iload dR_rest_154 rfl (L_callSV rfl cs_R_clear (As := [vA 168, vI 0, vI (σ 161 26), vI x5]) rfl (tk8 61 rfl rfl) rfl (Nat.le_of_ble_eq_true rfl) dR_rest_156 (Tri.mono (h.1 c1) (fun r2 σ2 q2 => L_iconst dR_rest_159 in_0 (L_istore dR_rest_160 (by decide) q2))))⟩))⟩), fun c1 => L_iconst dR_rest_71 in_0 (L_istore dR_rest_72 (by decide) (L_iconst dR_rest_74 in_0 (L_istore dR_rest_75 (by decide) (h.2 c1))))⟩⟩))
theorem s_R_rest_162 {d : Nat} {x4 x5 x6 : Int} {σ : SG} {Q : Int → SG → Prop} (h : (x5 ≤ x6 → Tri d M_R_takeOther [vA 161] σ (fun r2 σ2 => Q x5 σ2)) ∧ (x6 < x5 → L (d + 1) M_R_rest 175 [vA 161, vU, vU, vU, vI x4, vI x5, vI x6, vI (w32 (x6 + 1)), vU] [] σ Q)) : L (d + 1) M_R_rest 162 [vA 161, vU, vU, vU, vI x4, vI x5, vI x6, vU, vU] [] σ Q :=
  L_iload dR_rest_162 rfl (L_iload dR_rest_164 rfl (L_icmp_ge dR_rest_166 (by decide) ⟨fun c1 => L_aload_n dR_rest_296 rfl (L_callVV rfl cv_R_takeOther (As := []) rfl (tk10 27 rfl rfl) rfl (Nat.le_of_ble_eq_true rfl) dR_rest_297 ⟨ob_161, Tri.mono (h.1 c1) (fun r2 σ2 q2 => L_iload dR_rest_300 rfl (L_ireturn rfl dR_rest_302 q2))⟩), fun c1 => L_iload dR_rest_169 rfl (L_iconst dR_rest_171 in_1 (L_iadd dR_rest_172 (L_istore dR_rest_173 (by decide) (h.2 c1))))⟩))
theorem s_R_rest_77 {d : Nat} {x4 x5 x6 x7 x8 : Int} {σ : SG} {Q : Int → SG → Prop} (h : (x4 ≤ x8 → (x7 = 0 → (0 ≤ x5 ∧ x5 < 5) ∧ (∀ σ3, σ3 = up σ 187 x5 x6 → L (d + 1) M_R_rest 62 [vA 161, vU, vU, vU, vI x4, vI (w32 (x5 + 1)), vI (w32 (x6 + 1)), vU, vU] [] σ3 Q)) ∧ (x7 ≠ 0 → L (d + 1) M_R_rest 62 [vA 161, vU, vU, vU, vI x4, vI x5, vI (w32 (x6 + 1)), vU, vU] [] σ Q)) ∧ (x8 < x4 → (x7 ≠ 0 → L (d + 1) M_R_rest 77 [vA 161, vU, vU, vU, vI x4, vI x5, vI x6, vI 1, vI (w32 (x8 + 1))] [] σ Q) ∧ (x7 = 0 → Tri d M_R_leadOf [vA 161, vA 172, vI (w32 (5 * x8))] σ (fun r5 σ5 => (r5 ≠ x6 → L (d + 1) M_R_rest 77 [vA 161, vU, vU, vU, vI x4, vI x5, vI x6, vI 0, vI (w32 (x8 + 1))] [] σ5 Q) ∧ (r5 = x6 → L (d + 1) M_R_rest 77 [vA 161, vU, vU, vU, vI x4, vI x5, vI x6, vI 1, vI (w32 (x8 + 1))] [] σ5 Q))))) : L (d + 1) M_R_rest 77 [vA 161, vU, vU, vU, vI x4, vI x5, vI x6, vI x7, vI x8] [] σ Q :=
  L_iload dR_rest_77 rfl (L_iload dR_rest_79 rfl (L_icmp_ge dR_rest_81 (by decide) ⟨fun c1 => L_iload dR_rest_119 rfl (L_if_eq dR_rest_121 (by decide) ⟨fun c2 => L_aload_n dR_rest_127 rfl (L_getF (b := 187) fw_R_101 rfl rfl (by decide) dR_rest_128 ⟨ob_161, L_iload dR_rest_131 rfl (L_iload dR_rest_133 rfl (L_iastoreL (by decide) kd_187 dR_rest_135 ⟨((h.1 c1).1 c2).1, fun σ3 e3 => L_iinc dR_rest_136 rfl (by decide) (L_iinc dR_rest_139 rfl (by decide) (L_goto dR_rest_142 (by decide) (L_weak [true, true, true, true, true, true, true, false, false] (((h.1 c1).1 c2).2 σ3 e3))))⟩))⟩), fun c2 => L_goto dR_rest_124 (by decide) (L_iinc dR_rest_139 rfl (by decide) (L_goto dR_rest_142 (by decide) (L_weak [true, true, true, true, true, true, true, false, false] ((h.1 c1).2 c2))))⟩), fun c1 => L_iload dR_rest_84 rfl (L_if_ne dR_rest_86 (by decide) ⟨fun c4 => L_iconst dR_rest_106 in_1 (L_goto dR_rest_107 (by decide) (L_istore dR_rest_111 (by decide) (L_iinc dR_rest_113 rfl (by decide) (L_goto dR_rest_116 (by decide) ((h.2 c1).1 c4))))), fun c4 => L_aload_n dR_rest_89 rfl (L_aload_n dR_rest_90 rfl (L_getF (b := 172) fw_R_53 rfl rfl (by decide) dR_rest_91 ⟨ob_161, L_iconst dR_rest_94 in_5 (L_iload dR_rest_95 rfl (L_imul dR_rest_97 (L_callVI rfl cv_R_leadOf (As := [vA 172, vI (w32 (5 * x8))]) rfl (tk8 185 rfl rfl) rfl (Nat.le_of_ble_eq_true rfl) dR_rest_98 ⟨ob_161, Tri.mono ((h.2 c1).2 c4) (fun r5 σ5 q5 => L_iload dR_rest_101 rfl (L_icmp_ne dR_rest_103 (by decide) ⟨fun c6 => L_iconst dR_rest_110 in_0 (L_istore dR_rest_111 (by decide) (L_iinc dR_rest_113 rfl (by decide) (L_goto dR_rest_116 (by decide) (q5.1 c6)))), fun c6 => L_iconst dR_rest_106 in_1 (L_goto dR_rest_107 (by decide) (L_istore dR_rest_111 (by decide) (L_iinc dR_rest_113 rfl (by decide) (L_goto dR_rest_116 (by decide) (q5.2 c6)))))⟩))⟩)))⟩))⟩)⟩))
theorem s_R_rest_175 {d : Nat} {x4 x5 x6 x7 : Int} {σ : SG} {Q : Int → SG → Prop} (h : (x5 ≤ x7 → L (d + 1) M_R_rest 162 [vA 161, vU, vU, vU, vI x4, vI x5, vI (w32 (x6 + 1)), vU, vU] [] σ Q) ∧ (x7 < x5 → L (d + 1) M_R_rest 185 [vA 161, vU, vU, vU, vI x4, vI x5, vI x6, vI x7, vI 0] [] σ Q)) : L (d + 1) M_R_rest 175 [vA 161, vU, vU, vU, vI x4, vI x5, vI x6, vI x7, vU] [] σ Q :=
  L_iload dR_rest_175 rfl (L_iload dR_rest_177 rfl (L_icmp_ge dR_rest_179 (by decide) ⟨fun c1 => L_iinc dR_rest_290 rfl (by decide) (L_goto dR_rest_293 (by decide) (L_weak [true, true, true, true, true, true, true, false, true] (h.1 c1))), fun c1 => L_iconst dR_rest_182 in_0 (L_istore dR_rest_183 (by decide) (h.2 c1))⟩))
theorem s_R_rest_185 {d : Nat} {x4 x5 x6 x7 x8 : Int} {σ : SG} {Q : Int → SG → Prop} (h : (σ 161 27 ≤ x8 → Tri d M_R_reduce [vA 161, vA 172, vI x4, vA 175, vI 0] σ (fun r2 σ2 => L (d + 1) M_R_rest 245 [vA 161, vU, vU, vU, vI x4, vI x5, vI x6, vI x7, vI 0] [] σ2 Q)) ∧ (x8 < σ 161 27 → (0 ≤ x6 ∧ x6 < 5) ∧ (0 ≤ x7 ∧ x7 < 5) ∧ Tri d M_R_table [vA 161, vI (σ 187 x6), vI (σ 187 x7), vI x8] σ (fun r3 σ3 => (0 ≤ x8 ∧ x8 < 5) ∧ (∀ σ4, σ4 = up σ3 175 x8 r3 → L (d + 1) M_R_rest 185 [vA 161, vU, vU, vU, vI x4, vI x5, vI x6, vI x7, vI (w32 (x8 + 1))] [] σ4 Q)))) : L (d + 1) M_R_rest 185 [vA 161, vU, vU, vU, vI x4, vI x5, vI x6, vI x7, vI x8] [] σ Q :=
  L_iload dR_rest_185 rfl (L_aload_n dR_rest_187 rfl (L_getf fw_R_253 rfl dR_rest_188 ⟨ob_161, L_icmp_ge dR_rest_191 (by decide) ⟨fun c1 => L_aload_n dR_rest_227 rfl (L_aload_n dR_rest_228 rfl (L_getF (b := 172) fw_R_53 rfl rfl (by decide) dR_rest_229 ⟨ob_161, L_iload dR_rest_232 rfl (L_aload_n dR_rest_234 rfl (L_getF (b := 175) fw_R_62 rfl rfl (by decide) dR_rest_235 ⟨ob_161, L_iconst dR_rest_238 in_0 (L_callVV rfl cv_R_reduce (As := [vA 172, vI x4, vA 175, vI 0]) rfl (tk8 234 rfl rfl) rfl (Nat.le_of_ble_eq_true rfl) dR_rest_239 ⟨ob_161, Tri.mono (h.1 c1) (fun r2 σ2 q2 => L_iconst dR_rest_242 in_0 (L_istore dR_rest_243 (by decide) q2))⟩)⟩))⟩)), fun c1 => L_aload_n dR_rest_194 rfl (L_getF (b := 175) fw_R_62 rfl rfl (by decide) dR_rest_195 ⟨ob_161, L_iload dR_rest_198 rfl (L_aload_n dR_rest_200 rfl (L_aload_n dR_rest_201 rfl (L_getF (b := 187) fw_R_101 rfl rfl (by decide) dR_rest_202 ⟨ob_161, L_iload dR_rest_205 rfl (L_ialoadL kd_187 dR_rest_207 ⟨(h.2 c1).1, L_aload_n dR_rest_208 rfl (L_getF (b := 187) fw_R_101 rfl rfl (by decide) dR_rest_209 ⟨ob_161, L_iload dR_rest_212 rfl (L_ialoadL kd_187 dR_rest_214 ⟨(h.2 c1).2.1, L_iload dR_rest_215 rfl (L_callVI rfl cv_R_table (As := [vI (σ 187 x6), vI (σ 187 x7), vI x8]) rfl (tk8 121 rfl rfl) rfl (Nat.le_of_ble_eq_true rfl) dR_rest_217 ⟨ob_161, Tri.mono ((h.2 c1).2.2) (fun r3 σ3 q3 => L_iastoreL (by decide) kd_175 dR_rest_220 ⟨q3.1, fun σ4 e4 => L_iinc dR_rest_221 rfl (by decide) (L_goto dR_rest_224 (by decide) (q3.2 σ4 e4))⟩)⟩)⟩)⟩)⟩)⟩)))⟩)⟩⟩))
theorem s_R_rest_245 {d : Nat} {x4 x5 x6 x7 x8 : Int} {σ : SG} {Q : Int → SG → Prop} (h : (x5 ≤ x8 → L (d + 1) M_R_rest 175 [vA 161, vU, vU, vU, vI x4, vI x5, vI x6, vI (w32 (x7 + 1)), vU] [] σ Q) ∧ (x8 < x5 → (0 ≤ x8 ∧ x8 < 5) ∧ (0 ≤ σ 187 x8 ∧ σ 187 x8 < 5) ∧ Tri d M_R_set [vA 168, vI 0, vI x6, vI x7, vI x8, vI (σ 185 (σ 187 x8))] σ (fun r2 σ2 => L (d + 1) M_R_rest 245 [vA 161, vU, vU, vU, vI x4, vI x5, vI x6, vI x7, vI (w32 (x8 + 1))] [] σ2 Q))) : L (d + 1) M_R_rest 245 [vA 161, vU, vU, vU, vI x4, vI x5, vI x6, vI x7, vI x8] [] σ Q :=
  L_iload dR_rest_245 rfl (L_iload dR_rest_247 rfl (L_icmp_ge dR_rest_249 (by decide) ⟨fun c1 => L_iinc dR_rest_284 rfl (by decide) (L_goto dR_rest_287 (by decide) (L_weak [true, true, true, true, true, true, true, true, false] (h.1 c1))), fun c1 => L_aload_n dR_rest_252 rfl (L_getF (b := 168) fw_R_41 rfl rfl (by decide) dR_rest_253 ⟨ob_161, L_iconst dR_rest_256 in_0 (L_iload dR_rest_257 rfl (L_iload dR_rest_259 rfl (L_iload dR_rest_261 rfl (L_aload_n dR_rest_263 rfl (L_getF (b := 185) fw_R_95 rfl rfl (by decide) dR_rest_264 ⟨ob_161, L_aload_n dR_rest_267 rfl (L_getF (b := 187) fw_R_101 rfl rfl (by decide) dR_rest_268 ⟨ob_161, L_iload dR_rest_271 rfl (L_ialoadL kd_187 dR_rest_273 ⟨(h.2 c1).1, L_ialoadL kd_185 dR_rest_274 ⟨(h.2 c1).2.1, L_callSV rfl cs_R_set (As := [vA 168, vI 0, vI x6, vI x7, vI x8, vI (σ 185 (σ 187 x8))]) rfl (tk8 90 rfl rfl) rfl (Nat.le_of_ble_eq_true rfl) dR_rest_275 (Tri.mono ((h.2 c1).2.2) (fun r2 σ2 q2 => L_iinc dR_rest_278 rfl (by decide) (L_goto dR_rest_281 (by decide) q2)))⟩⟩)⟩)⟩)))))⟩)⟩))
theorem dR_takeOut_0 : decode prog_14_method_167_code 0 = .ok (.aload_n 0, 1) := by decide +kernel
theorem dR_takeOut_1 : decode prog_14_method_167_code 1 = .ok (.iconst 0, 1) := by decide +kernel
theorem dR_takeOut_2 : decode prog_14_method_167_code 2 = .ok (.putfield 132, 3) := by decide +kernel
theorem dR_takeOut_5 : decode prog_14_method_167_code 5 = .ok (.aload_n 0, 1) := by decide +kernel
theorem dR_takeOut_6 : decode prog_14_method_167_code 6 = .ok (.iconst 0, 1) := by decide +kernel
theorem dR_takeOut_7 : decode prog_14_method_167_code 7 = .ok (.putfield 135, 3) := by decide +kernel
theorem dR_takeOut_10 : decode prog_14_method_167_code 10 = .ok (.aload_n 0, 1) := by decide +kernel
theorem dR_takeOut_11 : decode prog_14_method_167_code 11 = .ok (.invokevirtual 348, 3) := by decide +kernel
theorem dR_takeOut_14 : decode prog_14_method_167_code 14 = .ok (.aload_n 0, 1) := by decide +kernel
theorem dR_takeOut_15 : decode prog_14_method_167_code 15 = .ok (.iload_n 1, 1) := by decide +kernel
theorem dR_takeOut_16 : decode prog_14_method_167_code 16 = .ok (.iload_n 2, 1) := by decide +kernel
theorem dR_takeOut_17 : decode prog_14_method_167_code 17 = .ok (.invokevirtual 616, 3) := by decide +kernel
theorem dR_takeOut_20 : decode prog_14_method_167_code 20 = .ok (.istore_n 3, 1) := by decide +kernel
theorem dR_takeOut_21 : decode prog_14_method_167_code 21 = .ok (.iload_n 3, 1) := by decide +kernel
theorem dR_takeOut_22 : decode prog_14_method_167_code 22 = .ok (.ifCond .le 9, 3) := by decide +kernel
theorem dR_takeOut_25 : decode prog_14_method_167_code 25 = .ok (.aload_n 0, 1) := by decide +kernel
theorem dR_takeOut_26 : decode prog_14_method_167_code 26 = .ok (.iload_n 3, 1) := by decide +kernel
theorem dR_takeOut_27 : decode prog_14_method_167_code 27 = .ok (.invokevirtual 351, 3) := by decide +kernel
theorem dR_takeOut_30 : decode prog_14_method_167_code 30 = .ok (.ireturn, 1) := by decide +kernel
theorem dR_takeOut_31 : decode prog_14_method_167_code 31 = .ok (.aload_n 0, 1) := by decide +kernel
theorem dR_takeOut_32 : decode prog_14_method_167_code 32 = .ok (.iload_n 1, 1) := by decide +kernel
theorem dR_takeOut_33 : decode prog_14_method_167_code 33 = .ok (.iload_n 2, 1) := by decide +kernel
theorem dR_takeOut_34 : decode prog_14_method_167_code 34 = .ok (.iconst 1, 1) := by decide +kernel
theorem dR_takeOut_35 : decode prog_14_method_167_code 35 = .ok (.invokevirtual 410, 3) := by decide +kernel
theorem dR_takeOut_38 : decode prog_14_method_167_code 38 = .ok (.istore 4, 2) := by decide +kernel
theorem dR_takeOut_40 : decode prog_14_method_167_code 40 = .ok (.iload 4, 2) := by decide +kernel
theorem dR_takeOut_42 : decode prog_14_method_167_code 42 = .ok (.ifCond .ne 10, 3) := by decide +kernel
theorem dR_takeOut_45 : decode prog_14_method_167_code 45 = .ok (.aload_n 0, 1) := by decide +kernel
theorem dR_takeOut_46 : decode prog_14_method_167_code 46 = .ok (.bipush 9, 2) := by decide +kernel
theorem dR_takeOut_48 : decode prog_14_method_167_code 48 = .ok (.invokevirtual 351, 3) := by decide +kernel
theorem dR_takeOut_51 : decode prog_14_method_167_code 51 = .ok (.ireturn, 1) := by decide +kernel
theorem dR_takeOut_52 : decode prog_14_method_167_code 52 = .ok (.aload_n 0, 1) := by decide +kernel
theorem dR_takeOut_53 : decode prog_14_method_167_code 53 = .ok (.getfield 41, 3) := by decide +kernel
theorem dR_takeOut_56 : decode prog_14_method_167_code 56 = .ok (.iconst 0, 1) := by decide +kernel
theorem dR_takeOut_57 : decode prog_14_method_167_code 57 = .ok (.aload_n 0, 1) := by decide +kernel
theorem dR_takeOut_58 : decode prog_14_method_167_code 58 = .ok (.getfield 250, 3) := by decide +kernel
theorem dR_takeOut_61 : decode prog_14_method_167_code 61 = .ok (.iload 4, 2) := by decide +kernel
theorem dR_takeOut_63 : decode prog_14_method_167_code 63 = .ok (.invokestatic 303, 3) := by decide +kernel
theorem dR_takeOut_66 : decode prog_14_method_167_code 66 = .ok (.iconst 0, 1) := by decide +kernel
theorem dR_takeOut_67 : decode prog_14_method_167_code 67 = .ok (.istore 5, 2) := by decide +kernel
theorem dR_takeOut_69 : decode prog_14_method_167_code 69 = .ok (.iload 5, 2) := by decide +kernel
theorem dR_takeOut_71 : decode prog_14_method_167_code 71 = .ok (.iload 4, 2) := by decide +kernel
theorem dR_takeOut_73 : decode prog_14_method_167_code 73 = .ok (.if_icmp .ge 99, 3) := by decide +kernel
theorem dR_takeOut_76 : decode prog_14_method_167_code 76 = .ok (.iload 5, 2) := by decide +kernel
theorem dR_takeOut_78 : decode prog_14_method_167_code 78 = .ok (.iconst 1, 1) := by decide +kernel
theorem dR_takeOut_79 : decode prog_14_method_167_code 79 = .ok (.iadd, 1) := by decide +kernel
theorem dR_takeOut_80 : decode prog_14_method_167_code 80 = .ok (.istore 6, 2) := by decide +kernel
theorem dR_takeOut_82 : decode prog_14_method_167_code 82 = .ok (.iload 6, 2) := by decide +kernel
theorem dR_takeOut_84 : decode prog_14_method_167_code 84 = .ok (.iload 4, 2) := by decide +kernel
theorem dR_takeOut_86 : decode prog_14_method_167_code 86 = .ok (.if_icmp .ge 80, 3) := by decide +kernel
theorem dR_takeOut_89 : decode prog_14_method_167_code 89 = .ok (.aload_n 0, 1) := by decide +kernel
theorem dR_takeOut_90 : decode prog_14_method_167_code 90 = .ok (.aload_n 0, 1) := by decide +kernel
theorem dR_takeOut_91 : decode prog_14_method_167_code 91 = .ok (.getfield 53, 3) := by decide +kernel
theorem dR_takeOut_94 : decode prog_14_method_167_code 94 = .ok (.iconst 5, 1) := by decide +kernel
theorem dR_takeOut_95 : decode prog_14_method_167_code 95 = .ok (.iload 5, 2) := by decide +kernel
theorem dR_takeOut_97 : decode prog_14_method_167_code 97 = .ok (.imul, 1) := by decide +kernel
theorem dR_takeOut_98 : decode prog_14_method_167_code 98 = .ok (.aload_n 0, 1) := by decide +kernel
theorem dR_takeOut_99 : decode prog_14_method_167_code 99 = .ok (.getfield 53, 3) := by decide +kernel
theorem dR_takeOut_102 : decode prog_14_method_167_code 102 = .ok (.iconst 5, 1) := by decide +kernel
theorem dR_takeOut_103 : decode prog_14_method_167_code 103 = .ok (.iload 6, 2) := by decide +kernel
theorem dR_takeOut_105 : decode prog_14_method_167_code 105 = .ok (.imul, 1) := by decide +kernel
theorem dR_takeOut_106 : decode prog_14_method_167_code 106 = .ok (.aload_n 0, 1) := by decide +kernel
theorem dR_takeOut_107 : decode prog_14_method_167_code 107 = .ok (.getfield 71, 3) := by decide +kernel
theorem dR_takeOut_110 : decode prog_14_method_167_code 110 = .ok (.invokevirtual 340, 3) := by decide +kernel
theorem dR_takeOut_113 : decode prog_14_method_167_code 113 = .ok (.iconst 0, 1) := by decide +kernel
theorem dR_takeOut_114 : decode prog_14_method_167_code 114 = .ok (.istore 7, 2) := by decide +kernel
theorem dR_takeOut_116 : decode prog_14_method_167_code 116 = .ok (.iload 7, 2) := by decide +kernel
theorem dR_takeOut_118 : decode prog_14_method_167_code 118 = .ok (.iload 4, 2) := by decide +kernel
theorem dR_takeOut_120 : decode prog_14_method_167_code 120 = .ok (.if_icmp .ge 40, 3) := by decide +kernel
theorem dR_takeOut_123 : decode prog_14_method_167_code 123 = .ok (.aload_n 0, 1) := by decide +kernel
theorem dR_takeOut_124 : decode prog_14_method_167_code 124 = .ok (.getfield 41, 3) := by decide +kernel
theorem dR_takeOut_127 : decode prog_14_method_167_code 127 = .ok (.iconst 0, 1) := by decide +kernel
theorem dR_takeOut_128 : decode prog_14_method_167_code 128 = .ok (.iload 5, 2) := by decide +kernel
theorem dR_takeOut_130 : decode prog_14_method_167_code 130 = .ok (.iload 6, 2) := by decide +kernel
theorem dR_takeOut_132 : decode prog_14_method_167_code 132 = .ok (.iload 7, 2) := by decide +kernel
theorem dR_takeOut_134 : decode prog_14_method_167_code 134 = .ok (.aload_n 0, 1) := by decide +kernel
theorem dR_takeOut_135 : decode prog_14_method_167_code 135 = .ok (.getfield 71, 3) := by decide +kernel
theorem dR_takeOut_138 : decode prog_14_method_167_code 138 = .ok (.aload_n 0, 1) := by decide +kernel
theorem dR_takeOut_139 : decode prog_14_method_167_code 139 = .ok (.aload_n 0, 1) := by decide +kernel
theorem dR_takeOut_140 : decode prog_14_method_167_code 140 = .ok (.getfield 53, 3) := by decide +kernel
theorem dR_takeOut_143 : decode prog_14_method_167_code 143 = .ok (.iconst 5, 1) := by decide +kernel
theorem dR_takeOut_144 : decode prog_14_method_167_code 144 = .ok (.iload 7, 2) := by decide +kernel
theorem dR_takeOut_146 : decode prog_14_method_167_code 146 = .ok (.imul, 1) := by decide +kernel
theorem dR_takeOut_147 : decode prog_14_method_167_code 147 = .ok (.invokevirtual 330, 3) := by decide +kernel
theorem dR_takeOut_150 : decode prog_14_method_167_code 150 = .ok (.iaload, 1) := by decide +kernel
theorem dR_takeOut_151 : decode prog_14_method_167_code 151 = .ok (.invokestatic 283, 3) := by decide +kernel
theorem dR_takeOut_154 : decode prog_14_method_167_code 154 = .ok (.iinc 7 1, 3) := by decide +kernel
theorem dR_takeOut_157 : decode prog_14_method_167_code 157 = .ok (.goto (-41), 3) := by decide +kernel
theorem dR_takeOut_160 : decode prog_14_method_167_code 160 = .ok (.iinc 6 1, 3) := by decide +kernel
theorem dR_takeOut_163 : decode prog_14_method_167_code 163 = .ok (.goto (-81), 3) := by decide +kernel
theorem dR_takeOut_166 : decode prog_14_method_167_code 166 = .ok (.iinc 5 1, 3) := by decide +kernel
theorem dR_takeOut_169 : decode prog_14_method_167_code 169 = .ok (.goto (-100), 3) := by decide +kernel
theorem dR_takeOut_172 : decode prog_14_method_167_code 172 = .ok (.aload_n 0, 1) := by decide +kernel
theorem dR_takeOut_173 : decode prog_14_method_167_code 173 = .ok (.invokevirtual 589, 3) := by decide +kernel
theorem dR_takeOut_176 : decode prog_14_method_167_code 176 = .ok (.iload 4, 2) := by decide +kernel
theorem dR_takeOut_178 : decode prog_14_method_167_code 178 = .ok (.ireturn, 1) := by decide +kernel
theorem t_R_takeOut {d : Nat} {x1 x2 : Int} {σ : SG} {Q : Int → SG → Prop} (h : inI x1 → inI x2 → ((∀ σ1, σ1 = up σ 161 1 0 → (∀ σ2, σ2 = up σ1 161 0 0 → Tri d M_R_askNow [vA 161] σ2 (fun r3 σ3 => Tri d M_R_wrongMade [vA 161, vI x1, vI x2] σ3 (fun r4 σ4 => (r4 ≤ 0 → Tri d M_R_made [vA 161, vI x1, vI x2, vI 1] σ4 (fun r6 σ6 => (r6 ≠ 0 → Tri d M_R_clear [vA 168, vI 0, vI (σ6 161 26), vI r6] σ6 (fun r8 σ8 => L (d + 1) M_R_takeOut 69 [vA 161, vU, vU, vU, vI r6, vI 0, vU, vU] [] σ8 Q)) ∧ (r6 = 0 → Tri d M_R_refuse [vA 161, vI 9] σ6 (fun r9 σ9 => Q r9 σ9)))) ∧ (0 < r4 → Tri d M_R_refuse [vA 161, vI r4] σ4 (fun r10 σ10 => Q r10 σ10)))))))) : Tri (d + 1) M_R_takeOut [vA 161, vI x1, vI x2] σ Q :=
  Tri_intro rfl (Nat.le_of_ble_eq_true rfl) (ls := [vA 161, vI x1, vI x2, vU, vU, vU, vU, vU]) rfl (fun hok => L_aload_n dR_takeOut_0 rfl (L_iconst dR_takeOut_1 in_0 (L_putfN fp_R_132 rfl rfl (fun _ => ⟨rfl, rfl⟩) dR_takeOut_2 ⟨ob_161, fun σ1 e1 => L_aload_n dR_takeOut_5 rfl (L_iconst dR_takeOut_6 in_0 (L_putfN fp_R_135 rfl rfl (fun _ => ⟨rfl, rfl⟩) dR_takeOut_7 ⟨ob_161, fun σ2 e2 => L_aload_n dR_takeOut_10 rfl (L_callVV rfl cv_R_askNow (As := []) rfl (tk8 108 rfl rfl) rfl (Nat.le_of_ble_eq_true rfl) dR_takeOut_11 ⟨ob_161, Tri.mono (((h (hok _ (List.mem_of_getElem? (i := 1) rfl)) (hok _ (List.mem_of_getElem? (i := 2) rfl))) σ1 e1) σ2 e2) (fun r3 σ3 q3 => L_aload_n dR_takeOut_14 rfl (L_iload_n dR_takeOut_15 rfl (L_iload_n dR_takeOut_16 rfl (L_callVI rfl cv_R_wrongMade (As := [vI x1, vI x2]) rfl (tk10 84 rfl rfl) rfl (Nat.le_of_ble_eq_true rfl) dR_takeOut_17 ⟨ob_161, Tri.mono q3 (fun r4 σ4 q4 => L_istore_n dR_takeOut_20 (by decide) (L_iload_n dR_takeOut_21 rfl (L_if_le dR_takeOut_22 (by decide) ⟨fun c5 => L_aload_n dR_takeOut_31 rfl (L_iload_n dR_takeOut_32 rfl (L_iload_n dR_takeOut_33 rfl (L_iconst dR_takeOut_34 in_1 (L_callVI rfl cv_R_made (As := [vI x1, vI x2, vI 1]) rfl (tk8 226 rfl rfl) rfl (Nat.le_of_ble_eq_true rfl) dR_takeOut_35 ⟨ob_161, Tri.mono (q4.1 c5) (fun r6 σ6 q6 => L_istore dR_takeOut_38 (by decide) (L_iload dR_takeOut_40 rfl (L_if_ne dR_takeOut_42 (by decide) ⟨fun c7 => L_aload_n dR_takeOut_52 rfl (L_getF (b := 168) fw_R_41 rfl rfl (by decide) dR_takeOut_53 ⟨ob_161, L_iconst dR_takeOut_56 in_0 (L_aload_n dR_takeOut_57 rfl (L_getf fw_R_250 rfl dR_takeOut_58 ⟨ob_161, L_iload dR_takeOut_61 rfl (L_callSV rfl cs_R_clear (As := [vA 168, vI 0, vI (σ6 161 26), vI r6]) rfl (tk8 61 rfl rfl) rfl (Nat.le_of_ble_eq_true rfl) dR_takeOut_63 (Tri.mono (q6.1 c7) (fun r8 σ8 q8 => L_iconst dR_takeOut_66 in_0 (L_istore dR_takeOut_67 (by decide) (L_weak [true, false, false, false, true, true, true, true] q8)))))⟩))⟩), fun c7 => L_aload_n dR_takeOut_45 rfl (L_bipush dR_takeOut_46 bp_9 in_9 (L_callVI rfl cv_R_refuse (As := [vI 9]) rfl (tk8 117 rfl rfl) rfl (Nat.le_of_ble_eq_true rfl) dR_takeOut_48 ⟨ob_161, Tri.mono (q6.2 c7) (fun r9 σ9 q9 => L_ireturn rfl dR_takeOut_51 q9)⟩))⟩)))⟩)))), fun c5 => L_aload_n dR_takeOut_25 rfl (L_iload_n dR_takeOut_26 rfl (L_callVI rfl cv_R_refuse (As := [vI r4]) rfl (tk8 117 rfl rfl) rfl (Nat.le_of_ble_eq_true rfl) dR_takeOut_27 ⟨ob_161, Tri.mono (q4.2 c5) (fun r10 σ10 q10 => L_ireturn rfl dR_takeOut_30 q10)⟩))⟩)))⟩))))⟩)⟩))⟩)))
theorem s_R_takeOut_69 {d : Nat} {x4 x5 : Int} {σ : SG} {Q : Int → SG → Prop} (h : (x4 ≤ x5 → Tri d M_R_takeOther [vA 161] σ (fun r2 σ2 => Q x4 σ2)) ∧ (x5 < x4 → L (d + 1) M_R_takeOut 82 [vA 161, vU, vU, vU, vI x4, vI x5, vI (w32 (x5 + 1)), vU] [] σ Q)) : L (d + 1) M_R_takeOut 69 [vA 161, vU, vU, vU, vI x4, vI x5, vU, vU] [] σ Q :=
  L_iload dR_takeOut_69 rfl (L_iload dR_takeOut_71 rfl (L_icmp_ge dR_takeOut_73 (by decide) ⟨fun c1 => L_aload_n dR_takeOut_172 rfl (L_callVV rfl cv_R_takeOther (As := []) rfl (tk10 27 rfl rfl) rfl (Nat.le_of_ble_eq_true rfl) dR_takeOut_173 ⟨ob_161, Tri.mono (h.1 c1) (fun r2 σ2 q2 => L_iload dR_takeOut_176 rfl (L_ireturn rfl dR_takeOut_178 q2))⟩), fun c1 => L_iload dR_takeOut_76 rfl (L_iconst dR_takeOut_78 in_1 (L_iadd dR_takeOut_79 (L_istore dR_takeOut_80 (by decide) (h.2 c1))))⟩))
theorem s_R_takeOut_82 {d : Nat} {x4 x5 x6 : Int} {σ : SG} {Q : Int → SG → Prop} (h : (x4 ≤ x6 → L (d + 1) M_R_takeOut 69 [vA 161, vU, vU, vU, vI x4, vI (w32 (x5 + 1)), vU, vU] [] σ Q) ∧ (x6 < x4 → Tri d M_R_bracketOf [vA 161, vA 172, vI (w32 (5 * x5)), vA 172, vI (w32 (5 * x6)), vA 178] σ (fun r2 σ2 => L (d + 1) M_R_takeOut 116 [vA 161, vU, vU, vU, vI x4, vI x5, vI x6, vI 0] [] σ2 Q))) : L (d + 1) M_R_takeOut 82 [vA 161, vU, vU, vU, vI x4, vI x5, vI x6, vU] [] σ Q :=
  L_iload dR_takeOut_82 rfl (L_iload dR_takeOut_84 rfl (L_icmp_ge dR_takeOut_86 (by decide) ⟨fun c1 => L_iinc dR_takeOut_166 rfl (by decide) (L_goto dR_takeOut_169 (by decide) (L_weak [true, true, true, true, true, true, false, true] (h.1 c1))), fun c1 => L_aload_n dR_takeOut_89 rfl (L_aload_n dR_takeOut_90 rfl (L_getF (b := 172) fw_R_53 rfl rfl (by decide) dR_takeOut_91 ⟨ob_161, L_iconst dR_takeOut_94 in_5 (L_iload dR_takeOut_95 rfl (L_imul dR_takeOut_97 (L_aload_n dR_takeOut_98 rfl (L_getF (b := 172) fw_R_53 rfl rfl (by decide) dR_takeOut_99 ⟨ob_161, L_iconst dR_takeOut_102 in_5 (L_iload dR_takeOut_103 rfl (L_imul dR_takeOut_105 (L_aload_n dR_takeOut_106 rfl (L_getF (b := 178) fw_R_71 rfl rfl (by decide) dR_takeOut_107 ⟨ob_161, L_callVV rfl cv_R_bracketOf (As := [vA 172, vI (w32 (5 * x5)), vA 172, vI (w32 (5 * x6)), vA 178]) rfl (tk8 157 rfl rfl) rfl (Nat.le_of_ble_eq_true rfl) dR_takeOut_110 ⟨ob_161, Tri.mono (h.2 c1) (fun r2 σ2 q2 => L_iconst dR_takeOut_113 in_0 (L_istore dR_takeOut_114 (by decide) q2))⟩⟩))))⟩))))⟩))⟩))
theorem s_R_takeOut_116 {d : Nat} {x4 x5 x6 x7 : Int} {σ : SG} {Q : Int → SG → Prop} (h : (x4 ≤ x7 → L (d + 1) M_R_takeOut 82 [vA 161, vU, vU, vU, vI x4, vI x5, vI (w32 (x6 + 1)), vU] [] σ Q) ∧ (x7 < x4 → Tri d M_R_leadOf [vA 161, vA 172, vI (w32 (5 * x7))] σ (fun r2 σ2 => (0 ≤ r2 ∧ r2 < 5) ∧ Tri d M_R_set [vA 168, vI 0, vI x5, vI x6, vI x7, vI (σ2 178 r2)] σ2 (fun r3 σ3 => L (d + 1) M_R_takeOut 116 [vA 161, vU, vU, vU, vI x4, vI x5, vI x6, vI (w32 (x7 + 1))] [] σ3 Q)))) : L (d + 1) M_R_takeOut 116 [vA 161, vU, vU, vU, vI x4, vI x5, vI x6, vI x7] [] σ Q :=
  L_iload dR_takeOut_116 rfl (L_iload dR_takeOut_118 rfl (L_icmp_ge dR_takeOut_120 (by decide) ⟨fun c1 => L_iinc dR_takeOut_160 rfl (by decide) (L_goto dR_takeOut_163 (by decide) (L_weak [true, true, true, true, true, true, true, false] (h.1 c1))), fun c1 => L_aload_n dR_takeOut_123 rfl (L_getF (b := 168) fw_R_41 rfl rfl (by decide) dR_takeOut_124 ⟨ob_161, L_iconst dR_takeOut_127 in_0 (L_iload dR_takeOut_128 rfl (L_iload dR_takeOut_130 rfl (L_iload dR_takeOut_132 rfl (L_aload_n dR_takeOut_134 rfl (L_getF (b := 178) fw_R_71 rfl rfl (by decide) dR_takeOut_135 ⟨ob_161, L_aload_n dR_takeOut_138 rfl (L_aload_n dR_takeOut_139 rfl (L_getF (b := 172) fw_R_53 rfl rfl (by decide) dR_takeOut_140 ⟨ob_161, L_iconst dR_takeOut_143 in_5 (L_iload dR_takeOut_144 rfl (L_imul dR_takeOut_146 (L_callVI rfl cv_R_leadOf (As := [vA 172, vI (w32 (5 * x7))]) rfl (tk8 185 rfl rfl) rfl (Nat.le_of_ble_eq_true rfl) dR_takeOut_147 ⟨ob_161, Tri.mono (h.2 c1) (fun r2 σ2 q2 => L_ialoadL kd_178 dR_takeOut_150 ⟨q2.1, L_callSV rfl cs_R_set (As := [vA 168, vI 0, vI x5, vI x6, vI x7, vI (σ2 178 r2)]) rfl (tk8 90 rfl rfl) rfl (Nat.le_of_ble_eq_true rfl) dR_takeOut_151 (Tri.mono q2.2 (fun r3 σ3 q3 => L_iinc dR_takeOut_154 rfl (by decide) (L_goto dR_takeOut_157 (by decide) q3)))⟩)⟩)))⟩))⟩)))))⟩)⟩))
theorem dR_numbersOf_0 : decode prog_14_method_168_code 0 = .ok (.iload_n 1, 1) := by decide +kernel
theorem dR_numbersOf_1 : decode prog_14_method_168_code 1 = .ok (.iload_n 1, 1) := by decide +kernel
theorem dR_numbersOf_2 : decode prog_14_method_168_code 2 = .ok (.iconst 1, 1) := by decide +kernel
theorem dR_numbersOf_3 : decode prog_14_method_168_code 3 = .ok (.isub, 1) := by decide +kernel
theorem dR_numbersOf_4 : decode prog_14_method_168_code 4 = .ok (.imul, 1) := by decide +kernel
theorem dR_numbersOf_5 : decode prog_14_method_168_code 5 = .ok (.iconst 2, 1) := by decide +kernel
theorem dR_numbersOf_6 : decode prog_14_method_168_code 6 = .ok (.idiv, 1) := by decide +kernel
theorem dR_numbersOf_7 : decode prog_14_method_168_code 7 = .ok (.iload_n 1, 1) := by decide +kernel
theorem dR_numbersOf_8 : decode prog_14_method_168_code 8 = .ok (.imul, 1) := by decide +kernel
theorem dR_numbersOf_9 : decode prog_14_method_168_code 9 = .ok (.ireturn, 1) := by decide +kernel
theorem t_R_numbersOf {d : Nat} {x1 : Int} {σ : SG} {Q : Int → SG → Prop} (h : inI x1 → (Q (w32 ((w32 ((w32 (x1 * (w32 (x1 - 1)))).tdiv 2)) * x1)) σ)) : Tri (d + 1) M_R_numbersOf [vA 161, vI x1] σ Q :=
  Tri_intro rfl (Nat.le_of_ble_eq_true rfl) (ls := [vA 161, vI x1]) rfl (fun hok => L_iload_n dR_numbersOf_0 rfl (L_iload_n dR_numbersOf_1 rfl (L_iconst dR_numbersOf_2 in_1 (L_isub dR_numbersOf_3 (L_imul dR_numbersOf_4 (L_iconst dR_numbersOf_5 in_2 (L_idiv dR_numbersOf_6 ⟨by decide, L_iload_n dR_numbersOf_7 rfl (L_imul dR_numbersOf_8 (L_ireturn rfl dR_numbersOf_9 ((h (hok _ (List.mem_of_getElem? (i := 1) rfl))))))⟩)))))))
theorem dR_tableBy_0 : decode prog_14_method_169_code 0 = .ok (.iload_n 1, 1) := by decide +kernel
theorem dR_tableBy_1 : decode prog_14_method_169_code 1 = .ok (.istore_n 2, 1) := by decide +kernel
theorem dR_tableBy_2 : decode prog_14_method_169_code 2 = .ok (.iconst 0, 1) := by decide +kernel
theorem dR_tableBy_3 : decode prog_14_method_169_code 3 = .ok (.istore_n 3, 1) := by decide +kernel
theorem dR_tableBy_4 : decode prog_14_method_169_code 4 = .ok (.iload_n 3, 1) := by decide +kernel
theorem dR_tableBy_5 : decode prog_14_method_169_code 5 = .ok (.aload_n 0, 1) := by decide +kernel
theorem dR_tableBy_6 : decode prog_14_method_169_code 6 = .ok (.getfield 253, 3) := by decide +kernel
theorem dR_tableBy_9 : decode prog_14_method_169_code 9 = .ok (.if_icmp .ge 73, 3) := by decide +kernel
theorem dR_tableBy_12 : decode prog_14_method_169_code 12 = .ok (.iload_n 3, 1) := by decide +kernel
theorem dR_tableBy_13 : decode prog_14_method_169_code 13 = .ok (.iconst 1, 1) := by decide +kernel
theorem dR_tableBy_14 : decode prog_14_method_169_code 14 = .ok (.iadd, 1) := by decide +kernel
theorem dR_tableBy_15 : decode prog_14_method_169_code 15 = .ok (.istore 4, 2) := by decide +kernel
theorem dR_tableBy_17 : decode prog_14_method_169_code 17 = .ok (.iload 4, 2) := by decide +kernel
theorem dR_tableBy_19 : decode prog_14_method_169_code 19 = .ok (.aload_n 0, 1) := by decide +kernel
theorem dR_tableBy_20 : decode prog_14_method_169_code 20 = .ok (.getfield 253, 3) := by decide +kernel
theorem dR_tableBy_23 : decode prog_14_method_169_code 23 = .ok (.if_icmp .ge 53, 3) := by decide +kernel
theorem dR_tableBy_26 : decode prog_14_method_169_code 26 = .ok (.iconst 0, 1) := by decide +kernel
theorem dR_tableBy_27 : decode prog_14_method_169_code 27 = .ok (.istore 5, 2) := by decide +kernel
theorem dR_tableBy_29 : decode prog_14_method_169_code 29 = .ok (.iload 5, 2) := by decide +kernel
theorem dR_tableBy_31 : decode prog_14_method_169_code 31 = .ok (.aload_n 0, 1) := by decide +kernel
theorem dR_tableBy_32 : decode prog_14_method_169_code 32 = .ok (.getfield 253, 3) := by decide +kernel
theorem dR_tableBy_35 : decode prog_14_method_169_code 35 = .ok (.if_icmp .ge 35, 3) := by decide +kernel
theorem dR_tableBy_38 : decode prog_14_method_169_code 38 = .ok (.aload_n 0, 1) := by decide +kernel
theorem dR_tableBy_39 : decode prog_14_method_169_code 39 = .ok (.getfield 129, 3) := by decide +kernel
theorem dR_tableBy_42 : decode prog_14_method_169_code 42 = .ok (.iconst 0, 1) := by decide +kernel
theorem dR_tableBy_43 : decode prog_14_method_169_code 43 = .ok (.iload_n 3, 1) := by decide +kernel
theorem dR_tableBy_44 : decode prog_14_method_169_code 44 = .ok (.iload 4, 2) := by decide +kernel
theorem dR_tableBy_46 : decode prog_14_method_169_code 46 = .ok (.iload 5, 2) := by decide +kernel
theorem dR_tableBy_48 : decode prog_14_method_169_code 48 = .ok (.iload_n 2, 1) := by decide +kernel
theorem dR_tableBy_49 : decode prog_14_method_169_code 49 = .ok (.aload_n 0, 1) := by decide +kernel
theorem dR_tableBy_50 : decode prog_14_method_169_code 50 = .ok (.getfield 250, 3) := by decide +kernel
theorem dR_tableBy_53 : decode prog_14_method_169_code 53 = .ok (.irem, 1) := by decide +kernel
theorem dR_tableBy_54 : decode prog_14_method_169_code 54 = .ok (.invokestatic 283, 3) := by decide +kernel
theorem dR_tableBy_57 : decode prog_14_method_169_code 57 = .ok (.iload_n 2, 1) := by decide +kernel
theorem dR_tableBy_58 : decode prog_14_method_169_code 58 = .ok (.aload_n 0, 1) := by decide +kernel
theorem dR_tableBy_59 : decode prog_14_method_169_code 59 = .ok (.getfield 250, 3) := by decide +kernel
theorem dR_tableBy_62 : decode prog_14_method_169_code 62 = .ok (.idiv, 1) := by decide +kernel
theorem dR_tableBy_63 : decode prog_14_method_169_code 63 = .ok (.istore_n 2, 1) := by decide +kernel
theorem dR_tableBy_64 : decode prog_14_method_169_code 64 = .ok (.iinc 5 1, 3) := by decide +kernel
theorem dR_tableBy_67 : decode prog_14_method_169_code 67 = .ok (.goto (-38), 3) := by decide +kernel
theorem dR_tableBy_70 : decode prog_14_method_169_code 70 = .ok (.iinc 4 1, 3) := by decide +kernel
theorem dR_tableBy_73 : decode prog_14_method_169_code 73 = .ok (.goto (-56), 3) := by decide +kernel
theorem dR_tableBy_76 : decode prog_14_method_169_code 76 = .ok (.iinc 3 1, 3) := by decide +kernel
theorem dR_tableBy_79 : decode prog_14_method_169_code 79 = .ok (.goto (-75), 3) := by decide +kernel
theorem dR_tableBy_82 : decode prog_14_method_169_code 82 = .ok (.return_, 1) := by decide +kernel
theorem t_R_tableBy {d : Nat} {x1 : Int} {σ : SG} {Q : Int → SG → Prop} (h : inI x1 → (L (d + 1) M_R_tableBy 4 [vA 161, vU, vI x1, vI 0, vU, vU] [] σ Q)) : Tri (d + 1) M_R_tableBy [vA 161, vI x1] σ Q :=
  Tri_intro rfl (Nat.le_of_ble_eq_true rfl) (ls := [vA 161, vI x1, vU, vU, vU, vU]) rfl (fun hok => L_iload_n dR_tableBy_0 rfl (L_istore_n dR_tableBy_1 (by decide) (L_iconst dR_tableBy_2 in_0 (L_istore_n dR_tableBy_3 (by decide) (L_weak [true, false, true, true, true, true] ((h (hok _ (List.mem_of_getElem? (i := 1) rfl)))))))))
theorem s_R_tableBy_4 {d : Nat} {x2 x3 : Int} {σ : SG} {Q : Int → SG → Prop} (h : (σ 161 27 ≤ x3 → Q 0 σ) ∧ (x3 < σ 161 27 → L (d + 1) M_R_tableBy 17 [vA 161, vU, vI x2, vI x3, vI (w32 (x3 + 1)), vU] [] σ Q)) : L (d + 1) M_R_tableBy 4 [vA 161, vU, vI x2, vI x3, vU, vU] [] σ Q :=
  L_iload_n dR_tableBy_4 rfl (L_aload_n dR_tableBy_5 rfl (L_getf fw_R_253 rfl dR_tableBy_6 ⟨ob_161, L_icmp_ge dR_tableBy_9 (by decide) ⟨fun c1 => L_return rfl dR_tableBy_82 (h.1 c1), fun c1 => L_iload_n dR_tableBy_12 rfl (L_iconst dR_tableBy_13 in_1 (L_iadd dR_tableBy_14 (L_istore dR_tableBy_15 (by decide) (h.2 c1))))⟩⟩))
theorem s_R_tableBy_17 {d : Nat} {x2 x3 x4 : Int} {σ : SG} {Q : Int → SG → Prop} (h : (σ 161 27 ≤ x4 → L (d + 1) M_R_tableBy 4 [vA 161, vU, vI x2, vI (w32 (x3 + 1)), vU, vU] [] σ Q) ∧ (x4 < σ 161 27 → L (d + 1) M_R_tableBy 29 [vA 161, vU, vI x2, vI x3, vI x4, vI 0] [] σ Q)) : L (d + 1) M_R_tableBy 17 [vA 161, vU, vI x2, vI x3, vI x4, vU] [] σ Q :=
  L_iload dR_tableBy_17 rfl (L_aload_n dR_tableBy_19 rfl (L_getf fw_R_253 rfl dR_tableBy_20 ⟨ob_161, L_icmp_ge dR_tableBy_23 (by decide) ⟨fun c1 => L_iinc dR_tableBy_76 rfl (by decide) (L_goto dR_tableBy_79 (by decide) (L_weak [true, true, true, true, false, true] (h.1 c1))), fun c1 => L_iconst dR_tableBy_26 in_0 (L_istore dR_tableBy_27 (by decide) (h.2 c1))⟩⟩))
theorem s_R_tableBy_29 {d : Nat} {x2 x3 x4 x5 : Int} {σ : SG} {Q : Int → SG → Prop} (h : (σ 161 27 ≤ x5 → L (d + 1) M_R_tableBy 17 [vA 161, vU, vI x2, vI x3, vI (w32 (x4 + 1)), vU] [] σ Q) ∧ (x5 < σ 161 27 → σ 161 26 ≠ 0 ∧ Tri d M_R_set [vA 196, vI 0, vI x3, vI x4, vI x5, vI (x2.tmod (σ 161 26))] σ (fun r2 σ2 => σ2 161 26 ≠ 0 ∧ L (d + 1) M_R_tableBy 29 [vA 161, vU, vI (w32 (x2.tdiv (σ2 161 26))), vI x3, vI x4, vI (w32 (x5 + 1))] [] σ2 Q))) : L (d + 1) M_R_tableBy 29 [vA 161, vU, vI x2, vI x3, vI x4, vI x5] [] σ Q :=
  L_iload dR_tableBy_29 rfl (L_aload_n dR_tableBy_31 rfl (L_getf fw_R_253 rfl dR_tableBy_32 ⟨ob_161, L_icmp_ge dR_tableBy_35 (by decide) ⟨fun c1 => L_iinc dR_tableBy_70 rfl (by decide) (L_goto dR_tableBy_73 (by decide) (L_weak [true, true, true, true, true, false] (h.1 c1))), fun c1 => L_aload_n dR_tableBy_38 rfl (L_getF (b := 196) fw_R_129 rfl rfl (by decide) dR_tableBy_39 ⟨ob_161, L_iconst dR_tableBy_42 in_0 (L_iload_n dR_tableBy_43 rfl (L_iload dR_tableBy_44 rfl (L_iload dR_tableBy_46 rfl (L_iload_n dR_tableBy_48 rfl (L_aload_n dR_tableBy_49 rfl (L_getf fw_R_250 rfl dR_tableBy_50 ⟨ob_161, L_irem dR_tableBy_53 ⟨(h.2 c1).1, L_callSV rfl cs_R_set (As := [vA 196, vI 0, vI x3, vI x4, vI x5, vI (x2.tmod (σ 161 26))]) rfl (tk8 90 rfl rfl) rfl (Nat.le_of_ble_eq_true rfl) dR_tableBy_54 (Tri.mono ((h.2 c1).2) (fun r2 σ2 q2 => L_iload_n dR_tableBy_57 rfl (L_aload_n dR_tableBy_58 rfl (L_getf fw_R_250 rfl dR_tableBy_59 ⟨ob_161, L_idiv dR_tableBy_62 ⟨q2.1, L_istore_n dR_tableBy_63 (by decide) (L_iinc dR_tableBy_64 rfl (by decide) (L_goto dR_tableBy_67 (by decide) q2.2))⟩⟩))))⟩⟩))))))⟩)⟩⟩))
theorem dR_codeOf_0 : decode prog_14_method_170_code 0 = .ok (.iconst 0, 1) := by decide +kernel
theorem dR_codeOf_1 : decode prog_14_method_170_code 1 = .ok (.istore_n 2, 1) := by decide +kernel
theorem dR_codeOf_2 : decode prog_14_method_170_code 2 = .ok (.aload_n 0, 1) := by decide +kernel
theorem dR_codeOf_3 : decode prog_14_method_170_code 3 = .ok (.getfield 253, 3) := by decide +kernel
theorem dR_codeOf_6 : decode prog_14_method_170_code 6 = .ok (.iconst 1, 1) := by decide +kernel
theorem dR_codeOf_7 : decode prog_14_method_170_code 7 = .ok (.isub, 1) := by decide +kernel
theorem dR_codeOf_8 : decode prog_14_method_170_code 8 = .ok (.istore_n 3, 1) := by decide +kernel
theorem dR_codeOf_9 : decode prog_14_method_170_code 9 = .ok (.iload_n 3, 1) := by decide +kernel
theorem dR_codeOf_10 : decode prog_14_method_170_code 10 = .ok (.ifCond .lt 66, 3) := by decide +kernel
theorem dR_codeOf_13 : decode prog_14_method_170_code 13 = .ok (.aload_n 0, 1) := by decide +kernel
theorem dR_codeOf_14 : decode prog_14_method_170_code 14 = .ok (.getfield 253, 3) := by decide +kernel
theorem dR_codeOf_17 : decode prog_14_method_170_code 17 = .ok (.iconst 1, 1) := by decide +kernel
theorem dR_codeOf_18 : decode prog_14_method_170_code 18 = .ok (.isub, 1) := by decide +kernel
theorem dR_codeOf_19 : decode prog_14_method_170_code 19 = .ok (.istore 4, 2) := by decide +kernel
theorem dR_codeOf_21 : decode prog_14_method_170_code 21 = .ok (.iload 4, 2) := by decide +kernel
theorem dR_codeOf_23 : decode prog_14_method_170_code 23 = .ok (.iload_n 3, 1) := by decide +kernel
theorem dR_codeOf_24 : decode prog_14_method_170_code 24 = .ok (.if_icmp .le 46, 3) := by decide +kernel
theorem dR_codeOf_27 : decode prog_14_method_170_code 27 = .ok (.aload_n 0, 1) := by decide +kernel
theorem dR_codeOf_28 : decode prog_14_method_170_code 28 = .ok (.getfield 253, 3) := by decide +kernel
theorem dR_codeOf_31 : decode prog_14_method_170_code 31 = .ok (.iconst 1, 1) := by decide +kernel
theorem dR_codeOf_32 : decode prog_14_method_170_code 32 = .ok (.isub, 1) := by decide +kernel
theorem dR_codeOf_33 : decode prog_14_method_170_code 33 = .ok (.istore 5, 2) := by decide +kernel
theorem dR_codeOf_35 : decode prog_14_method_170_code 35 = .ok (.iload 5, 2) := by decide +kernel
theorem dR_codeOf_37 : decode prog_14_method_170_code 37 = .ok (.ifCond .lt 27, 3) := by decide +kernel
theorem dR_codeOf_40 : decode prog_14_method_170_code 40 = .ok (.iload_n 2, 1) := by decide +kernel
theorem dR_codeOf_41 : decode prog_14_method_170_code 41 = .ok (.aload_n 0, 1) := by decide +kernel
theorem dR_codeOf_42 : decode prog_14_method_170_code 42 = .ok (.getfield 250, 3) := by decide +kernel
theorem dR_codeOf_45 : decode prog_14_method_170_code 45 = .ok (.imul, 1) := by decide +kernel
theorem dR_codeOf_46 : decode prog_14_method_170_code 46 = .ok (.aload_n 1, 1) := by decide +kernel
theorem dR_codeOf_47 : decode prog_14_method_170_code 47 = .ok (.iload_n 3, 1) := by decide +kernel
theorem dR_codeOf_48 : decode prog_14_method_170_code 48 = .ok (.iload 4, 2) := by decide +kernel
theorem dR_codeOf_50 : decode prog_14_method_170_code 50 = .ok (.iload 5, 2) := by decide +kernel
theorem dR_codeOf_52 : decode prog_14_method_170_code 52 = .ok (.invokestatic 260, 3) := by decide +kernel
theorem dR_codeOf_55 : decode prog_14_method_170_code 55 = .ok (.iaload, 1) := by decide +kernel
theorem dR_codeOf_56 : decode prog_14_method_170_code 56 = .ok (.iadd, 1) := by decide +kernel
theorem dR_codeOf_57 : decode prog_14_method_170_code 57 = .ok (.istore_n 2, 1) := by decide +kernel
theorem dR_codeOf_58 : decode prog_14_method_170_code 58 = .ok (.iinc 5 (-1), 3) := by decide +kernel
theorem dR_codeOf_61 : decode prog_14_method_170_code 61 = .ok (.goto (-26), 3) := by decide +kernel
theorem dR_codeOf_64 : decode prog_14_method_170_code 64 = .ok (.iinc 4 (-1), 3) := by decide +kernel
theorem dR_codeOf_67 : decode prog_14_method_170_code 67 = .ok (.goto (-46), 3) := by decide +kernel
theorem dR_codeOf_70 : decode prog_14_method_170_code 70 = .ok (.iinc 3 (-1), 3) := by decide +kernel
theorem dR_codeOf_73 : decode prog_14_method_170_code 73 = .ok (.goto (-64), 3) := by decide +kernel
theorem dR_codeOf_76 : decode prog_14_method_170_code 76 = .ok (.iload_n 2, 1) := by decide +kernel
theorem dR_codeOf_77 : decode prog_14_method_170_code 77 = .ok (.ireturn, 1) := by decide +kernel
theorem t_R_codeOf {d : Nat} {x1 : Int} {σ : SG} {Q : Int → SG → Prop} (h : L (d + 1) M_R_codeOf 9 [vA 161, vA x1, vI 0, vI (w32 ((σ 161 27) - 1)), vU, vU] [] σ Q) : Tri (d + 1) M_R_codeOf [vA 161, vA x1] σ Q :=
  Tri_intro rfl (Nat.le_of_ble_eq_true rfl) (ls := [vA 161, vA x1, vU, vU, vU, vU]) rfl (fun hok => L_iconst dR_codeOf_0 in_0 (L_istore_n dR_codeOf_1 (by decide) (L_aload_n dR_codeOf_2 rfl (L_getf fw_R_253 rfl dR_codeOf_3 ⟨ob_161, L_iconst dR_codeOf_6 in_1 (L_isub dR_codeOf_7 (L_istore_n dR_codeOf_8 (by decide) (h)))⟩))))
theorem s_R_codeOf_9 {d : Nat} {x1 x2 x3 : Int} {σ : SG} {Q : Int → SG → Prop} (h : (x3 < 0 → Q x2 σ) ∧ (0 ≤ x3 → L (d + 1) M_R_codeOf 21 [vA 161, vA x1, vI x2, vI x3, vI (w32 ((σ 161 27) - 1)), vU] [] σ Q)) : L (d + 1) M_R_codeOf 9 [vA 161, vA x1, vI x2, vI x3, vU, vU] [] σ Q :=
  L_iload_n dR_codeOf_9 rfl (L_if_lt dR_codeOf_10 (by decide) ⟨fun c1 => L_iload_n dR_codeOf_76 rfl (L_ireturn rfl dR_codeOf_77 (h.1 c1)), fun c1 => L_aload_n dR_codeOf_13 rfl (L_getf fw_R_253 rfl dR_codeOf_14 ⟨ob_161, L_iconst dR_codeOf_17 in_1 (L_isub dR_codeOf_18 (L_istore dR_codeOf_19 (by decide) (h.2 c1)))⟩)⟩)
theorem s_R_codeOf_21 {d : Nat} {x1 x2 x3 x4 : Int} {σ : SG} {Q : Int → SG → Prop} (h : (x4 ≤ x3 → L (d + 1) M_R_codeOf 9 [vA 161, vA x1, vI x2, vI (w32 (x3 + (-1))), vU, vU] [] σ Q) ∧ (x3 < x4 → L (d + 1) M_R_codeOf 35 [vA 161, vA x1, vI x2, vI x3, vI x4, vI (w32 ((σ 161 27) - 1))] [] σ Q)) : L (d + 1) M_R_codeOf 21 [vA 161, vA x1, vI x2, vI x3, vI x4, vU] [] σ Q :=
  L_iload dR_codeOf_21 rfl (L_iload_n dR_codeOf_23 rfl (L_icmp_le dR_codeOf_24 (by decide) ⟨fun c1 => L_iinc dR_codeOf_70 rfl (by decide) (L_goto dR_codeOf_73 (by decide) (L_weak [true, true, true, true, false, true] (h.1 c1))), fun c1 => L_aload_n dR_codeOf_27 rfl (L_getf fw_R_253 rfl dR_codeOf_28 ⟨ob_161, L_iconst dR_codeOf_31 in_1 (L_isub dR_codeOf_32 (L_istore dR_codeOf_33 (by decide) (h.2 c1)))⟩)⟩))
theorem s_R_codeOf_35 {d : Nat} {x1 x2 x3 x4 x5 : Int} {σ : SG} {Q : Int → SG → Prop} (h : (x5 < 0 → L (d + 1) M_R_codeOf 21 [vA 161, vA x1, vI x2, vI x3, vI (w32 (x4 + (-1))), vU] [] σ Q) ∧ (0 ≤ x5 → Tri d M_R_cell [vI x3, vI x4, vI x5] σ (fun r2 σ2 => rdok 100 x1 r2 ∧ L (d + 1) M_R_codeOf 35 [vA 161, vA x1, vI (w32 ((w32 (x2 * (σ 161 26))) + (σ2 x1 r2))), vI x3, vI x4, vI (w32 (x5 + (-1)))] [] σ2 Q))) : L (d + 1) M_R_codeOf 35 [vA 161, vA x1, vI x2, vI x3, vI x4, vI x5] [] σ Q :=
  L_iload dR_codeOf_35 rfl (L_if_lt dR_codeOf_37 (by decide) ⟨fun c1 => L_iinc dR_codeOf_64 rfl (by decide) (L_goto dR_codeOf_67 (by decide) (L_weak [true, true, true, true, true, false] (h.1 c1))), fun c1 => L_iload_n dR_codeOf_40 rfl (L_aload_n dR_codeOf_41 rfl (L_getf fw_R_250 rfl dR_codeOf_42 ⟨ob_161, L_imul dR_codeOf_45 (L_aload_n dR_codeOf_46 rfl (L_iload_n dR_codeOf_47 rfl (L_iload dR_codeOf_48 rfl (L_iload dR_codeOf_50 rfl (L_callSI rfl cs_R_cell (As := [vI x3, vI x4, vI x5]) rfl (tk8 75 rfl rfl) rfl (Nat.le_of_ble_eq_true rfl) dR_codeOf_52 (Tri.mono (h.2 c1) (fun r2 σ2 q2 => L_iaload dR_codeOf_55 ⟨q2.1, L_iadd dR_codeOf_56 (L_istore_n dR_codeOf_57 (by decide) (L_iinc dR_codeOf_58 rfl (by decide) (L_goto dR_codeOf_61 (by decide) q2.2)))⟩)))))))⟩))⟩)
theorem dR_seeAll_0 : decode prog_14_method_171_code 0 = .ok (.aload_n 0, 1) := by decide +kernel
theorem dR_seeAll_1 : decode prog_14_method_171_code 1 = .ok (.aload_n 0, 1) := by decide +kernel
theorem dR_seeAll_2 : decode prog_14_method_171_code 2 = .ok (.getfield 253, 3) := by decide +kernel
theorem dR_seeAll_5 : decode prog_14_method_171_code 5 = .ok (.aload_n 0, 1) := by decide +kernel
theorem dR_seeAll_6 : decode prog_14_method_171_code 6 = .ok (.getfield 253, 3) := by decide +kernel
theorem dR_seeAll_9 : decode prog_14_method_171_code 9 = .ok (.imul, 1) := by decide +kernel
theorem dR_seeAll_10 : decode prog_14_method_171_code 10 = .ok (.invokevirtual 320, 3) := by decide +kernel
theorem dR_seeAll_13 : decode prog_14_method_171_code 13 = .ok (.istore_n 1, 1) := by decide +kernel
theorem dR_seeAll_14 : decode prog_14_method_171_code 14 = .ok (.iconst 0, 1) := by decide +kernel
theorem dR_seeAll_15 : decode prog_14_method_171_code 15 = .ok (.istore_n 2, 1) := by decide +kernel
theorem dR_seeAll_16 : decode prog_14_method_171_code 16 = .ok (.iload_n 2, 1) := by decide +kernel
theorem dR_seeAll_17 : decode prog_14_method_171_code 17 = .ok (.iload_n 1, 1) := by decide +kernel
theorem dR_seeAll_18 : decode prog_14_method_171_code 18 = .ok (.if_icmp .ge 90, 3) := by decide +kernel
theorem dR_seeAll_21 : decode prog_14_method_171_code 21 = .ok (.iload_n 2, 1) := by decide +kernel
theorem dR_seeAll_22 : decode prog_14_method_171_code 22 = .ok (.istore_n 3, 1) := by decide +kernel
theorem dR_seeAll_23 : decode prog_14_method_171_code 23 = .ok (.iconst 0, 1) := by decide +kernel
theorem dR_seeAll_24 : decode prog_14_method_171_code 24 = .ok (.istore 4, 2) := by decide +kernel
theorem dR_seeAll_26 : decode prog_14_method_171_code 26 = .ok (.iload 4, 2) := by decide +kernel
theorem dR_seeAll_28 : decode prog_14_method_171_code 28 = .ok (.aload_n 0, 1) := by decide +kernel
theorem dR_seeAll_29 : decode prog_14_method_171_code 29 = .ok (.getfield 253, 3) := by decide +kernel
theorem dR_seeAll_32 : decode prog_14_method_171_code 32 = .ok (.aload_n 0, 1) := by decide +kernel
theorem dR_seeAll_33 : decode prog_14_method_171_code 33 = .ok (.getfield 253, 3) := by decide +kernel
theorem dR_seeAll_36 : decode prog_14_method_171_code 36 = .ok (.imul, 1) := by decide +kernel
theorem dR_seeAll_37 : decode prog_14_method_171_code 37 = .ok (.if_icmp .ge 44, 3) := by decide +kernel
theorem dR_seeAll_40 : decode prog_14_method_171_code 40 = .ok (.aload_n 0, 1) := by decide +kernel
theorem dR_seeAll_41 : decode prog_14_method_171_code 41 = .ok (.getfield 119, 3) := by decide +kernel
theorem dR_seeAll_44 : decode prog_14_method_171_code 44 = .ok (.iconst 5, 1) := by decide +kernel
theorem dR_seeAll_45 : decode prog_14_method_171_code 45 = .ok (.iload 4, 2) := by decide +kernel
theorem dR_seeAll_47 : decode prog_14_method_171_code 47 = .ok (.aload_n 0, 1) := by decide +kernel
theorem dR_seeAll_48 : decode prog_14_method_171_code 48 = .ok (.getfield 253, 3) := by decide +kernel
theorem dR_seeAll_51 : decode prog_14_method_171_code 51 = .ok (.idiv, 1) := by decide +kernel
theorem dR_seeAll_52 : decode prog_14_method_171_code 52 = .ok (.imul, 1) := by decide +kernel
theorem dR_seeAll_53 : decode prog_14_method_171_code 53 = .ok (.iload 4, 2) := by decide +kernel
theorem dR_seeAll_55 : decode prog_14_method_171_code 55 = .ok (.aload_n 0, 1) := by decide +kernel
theorem dR_seeAll_56 : decode prog_14_method_171_code 56 = .ok (.getfield 253, 3) := by decide +kernel
theorem dR_seeAll_59 : decode prog_14_method_171_code 59 = .ok (.irem, 1) := by decide +kernel
theorem dR_seeAll_60 : decode prog_14_method_171_code 60 = .ok (.iadd, 1) := by decide +kernel
theorem dR_seeAll_61 : decode prog_14_method_171_code 61 = .ok (.iload_n 3, 1) := by decide +kernel
theorem dR_seeAll_62 : decode prog_14_method_171_code 62 = .ok (.aload_n 0, 1) := by decide +kernel
theorem dR_seeAll_63 : decode prog_14_method_171_code 63 = .ok (.getfield 250, 3) := by decide +kernel
theorem dR_seeAll_66 : decode prog_14_method_171_code 66 = .ok (.irem, 1) := by decide +kernel
theorem dR_seeAll_67 : decode prog_14_method_171_code 67 = .ok (.iastore, 1) := by decide +kernel
theorem dR_seeAll_68 : decode prog_14_method_171_code 68 = .ok (.iload_n 3, 1) := by decide +kernel
theorem dR_seeAll_69 : decode prog_14_method_171_code 69 = .ok (.aload_n 0, 1) := by decide +kernel
theorem dR_seeAll_70 : decode prog_14_method_171_code 70 = .ok (.getfield 250, 3) := by decide +kernel
theorem dR_seeAll_73 : decode prog_14_method_171_code 73 = .ok (.idiv, 1) := by decide +kernel
theorem dR_seeAll_74 : decode prog_14_method_171_code 74 = .ok (.istore_n 3, 1) := by decide +kernel
theorem dR_seeAll_75 : decode prog_14_method_171_code 75 = .ok (.iinc 4 1, 3) := by decide +kernel
theorem dR_seeAll_78 : decode prog_14_method_171_code 78 = .ok (.goto (-52), 3) := by decide +kernel
theorem dR_seeAll_81 : decode prog_14_method_171_code 81 = .ok (.aload_n 0, 1) := by decide +kernel
theorem dR_seeAll_82 : decode prog_14_method_171_code 82 = .ok (.invokevirtual 586, 3) := by decide +kernel
theorem dR_seeAll_85 : decode prog_14_method_171_code 85 = .ok (.ifCond .eq 17, 3) := by decide +kernel
theorem dR_seeAll_88 : decode prog_14_method_171_code 88 = .ok (.aload_n 0, 1) := by decide +kernel
theorem dR_seeAll_89 : decode prog_14_method_171_code 89 = .ok (.getfield 125, 3) := by decide +kernel
theorem dR_seeAll_92 : decode prog_14_method_171_code 92 = .ok (.aload_n 0, 1) := by decide +kernel
theorem dR_seeAll_93 : decode prog_14_method_171_code 93 = .ok (.aload_n 0, 1) := by decide +kernel
theorem dR_seeAll_94 : decode prog_14_method_171_code 94 = .ok (.getfield 41, 3) := by decide +kernel
theorem dR_seeAll_97 : decode prog_14_method_171_code 97 = .ok (.invokevirtual 619, 3) := by decide +kernel
theorem dR_seeAll_100 : decode prog_14_method_171_code 100 = .ok (.iconst 1, 1) := by decide +kernel
theorem dR_seeAll_101 : decode prog_14_method_171_code 101 = .ok (.bastore, 1) := by decide +kernel
theorem dR_seeAll_102 : decode prog_14_method_171_code 102 = .ok (.iinc 2 1, 3) := by decide +kernel
theorem dR_seeAll_105 : decode prog_14_method_171_code 105 = .ok (.goto (-89), 3) := by decide +kernel
theorem dR_seeAll_108 : decode prog_14_method_171_code 108 = .ok (.return_, 1) := by decide +kernel
theorem t_R_seeAll {d : Nat} {σ : SG} {Q : Int → SG → Prop} (h : Tri d M_R_powerOf [vA 161, vI (w32 ((σ 161 27) * (σ 161 27)))] σ (fun r1 σ1 => L (d + 1) M_R_seeAll 16 [vA 161, vI r1, vI 0, vU, vU] [] σ1 Q)) : Tri (d + 1) M_R_seeAll [vA 161] σ Q :=
  Tri_intro rfl (Nat.le_of_ble_eq_true rfl) (ls := [vA 161, vU, vU, vU, vU]) rfl (fun hok => L_aload_n dR_seeAll_0 rfl (L_aload_n dR_seeAll_1 rfl (L_getf fw_R_253 rfl dR_seeAll_2 ⟨ob_161, L_aload_n dR_seeAll_5 rfl (L_getf fw_R_253 rfl dR_seeAll_6 ⟨ob_161, L_imul dR_seeAll_9 (L_callVI rfl cv_R_powerOf (As := [vI (w32 ((σ 161 27) * (σ 161 27)))]) rfl (tk8 149 rfl rfl) rfl (Nat.le_of_ble_eq_true rfl) dR_seeAll_10 ⟨ob_161, Tri.mono (h) (fun r1 σ1 q1 => L_istore_n dR_seeAll_13 (by decide) (L_iconst dR_seeAll_14 in_0 (L_istore_n dR_seeAll_15 (by decide) q1)))⟩)⟩)⟩)))
theorem s_R_seeAll_16 {d : Nat} {x1 x2 : Int} {σ : SG} {Q : Int → SG → Prop} (h : (x1 ≤ x2 → Q 0 σ) ∧ (x2 < x1 → L (d + 1) M_R_seeAll 26 [vA 161, vI x1, vI x2, vI x2, vI 0] [] σ Q)) : L (d + 1) M_R_seeAll 16 [vA 161, vI x1, vI x2, vU, vU] [] σ Q :=
  L_iload_n dR_seeAll_16 rfl (L_iload_n dR_seeAll_17 rfl (L_icmp_ge dR_seeAll_18 (by decide) ⟨fun c1 => L_return rfl dR_seeAll_108 (h.1 c1), fun c1 => L_iload_n dR_seeAll_21 rfl (L_istore_n dR_seeAll_22 (by decide) (L_iconst dR_seeAll_23 in_0 (L_istore dR_seeAll_24 (by decide) (h.2 c1))))⟩))
theorem s_R_seeAll_26 {d : Nat} {x1 x2 x3 x4 : Int} {σ : SG} {Q : Int → SG → Prop} (h : (w32 ((σ 161 27) * (σ 161 27)) ≤ x4 → Tri d M_R_changeInto [vA 161] σ (fun r2 σ2 => (r2 = 0 → L (d + 1) M_R_seeAll 16 [vA 161, vI x1, vI (w32 (x2 + 1)), vU, vU] [] σ2 Q) ∧ (r2 ≠ 0 → Tri d M_R_codeOf [vA 161, vA 168] σ2 (fun r4 σ4 => (0 ≤ r4 ∧ r4 < 512) ∧ (∀ σ5, σ5 = up σ4 195 r4 1 → L (d + 1) M_R_seeAll 16 [vA 161, vI x1, vI (w32 (x2 + 1)), vU, vU] [] σ5 Q))))) ∧ (x4 < w32 ((σ 161 27) * (σ 161 27)) → σ 161 27 ≠ 0 ∧ σ 161 27 ≠ 0 ∧ σ 161 26 ≠ 0 ∧ (0 ≤ w32 ((w32 (5 * (w32 (x4.tdiv (σ 161 27))))) + (x4.tmod (σ 161 27))) ∧ w32 ((w32 (5 * (w32 (x4.tdiv (σ 161 27))))) + (x4.tmod (σ 161 27))) < 25) ∧ (∀ σ6, σ6 = up σ 193 (w32 ((w32 (5 * (w32 (x4.tdiv (σ 161 27))))) + (x4.tmod (σ 161 27)))) (x3.tmod (σ 161 26)) → σ6 161 26 ≠ 0 ∧ L (d + 1) M_R_seeAll 26 [vA 161, vI x1, vI x2, vI (w32 (x3.tdiv (σ6 161 26))), vI (w32 (x4 + 1))] [] σ6 Q))) : L (d + 1) M_R_seeAll 26 [vA 161, vI x1, vI x2, vI x3, vI x4] [] σ Q :=
  L_iload dR_seeAll_26 rfl (L_aload_n dR_seeAll_28 rfl (L_getf fw_R_253 rfl dR_seeAll_29 ⟨ob_161, L_aload_n dR_seeAll_32 rfl (L_getf fw_R_253 rfl dR_seeAll_33 ⟨ob_161, L_imul dR_seeAll_36 (L_icmp_ge dR_seeAll_37 (by decide) ⟨fun c1 => L_aload_n dR_seeAll_81 rfl (L_callVI rfl cv_R_changeInto (As := []) rfl (tk10 15 rfl rfl) rfl (Nat.le_of_ble_eq_true rfl) dR_seeAll_82 ⟨ob_161, Tri.mono (h.1 c1) (fun r2 σ2 q2 => L_if_eq dR_seeAll_85 (by decide) ⟨fun c3 => L_iinc dR_seeAll_102 rfl (by decide) (L_goto dR_seeAll_105 (by decide) (L_weak [true, true, true, false, false] (q2.1 c3))), fun c3 => L_aload_n dR_seeAll_88 rfl (L_getF (b := 195) fw_R_125 rfl rfl (by decide) dR_seeAll_89 ⟨ob_161, L_aload_n dR_seeAll_92 rfl (L_aload_n dR_seeAll_93 rfl (L_getF (b := 168) fw_R_41 rfl rfl (by decide) dR_seeAll_94 ⟨ob_161, L_callVI rfl cv_R_codeOf (As := [vA 168]) rfl (tk10 108 rfl rfl) rfl (Nat.le_of_ble_eq_true rfl) dR_seeAll_97 ⟨ob_161, Tri.mono (q2.2 c3) (fun r4 σ4 q4 => L_iconst dR_seeAll_100 in_1 (L_zastoreL (by decide) kd_195 dR_seeAll_101 ⟨⟨q4.1, by decide⟩, fun σ5 e5 => L_iinc dR_seeAll_102 rfl (by decide) (L_goto dR_seeAll_105 (by decide) (L_weak [true, true, true, false, false] (q4.2 σ5 e5)))⟩))⟩⟩))⟩)⟩)⟩), fun c1 => L_aload_n dR_seeAll_40 rfl (L_getF (b := 193) fw_R_119 rfl rfl (by decide) dR_seeAll_41 ⟨ob_161, L_iconst dR_seeAll_44 in_5 (L_iload dR_seeAll_45 rfl (L_aload_n dR_seeAll_47 rfl (L_getf fw_R_253 rfl dR_seeAll_48 ⟨ob_161, L_idiv dR_seeAll_51 ⟨(h.2 c1).1, L_imul dR_seeAll_52 (L_iload dR_seeAll_53 rfl (L_aload_n dR_seeAll_55 rfl (L_getf fw_R_253 rfl dR_seeAll_56 ⟨ob_161, L_irem dR_seeAll_59 ⟨(h.2 c1).2.1, L_iadd dR_seeAll_60 (L_iload_n dR_seeAll_61 rfl (L_aload_n dR_seeAll_62 rfl (L_getf fw_R_250 rfl dR_seeAll_63 ⟨ob_161, L_irem dR_seeAll_66 ⟨(h.2 c1).2.2.1, L_iastoreL (by decide) kd_193 dR_seeAll_67 ⟨(h.2 c1).2.2.2.1, fun σ6 e6 => L_iload_n dR_seeAll_68 rfl (L_aload_n dR_seeAll_69 rfl (L_getf fw_R_250 rfl dR_seeAll_70 ⟨ob_161, L_idiv dR_seeAll_73 ⟨((h.2 c1).2.2.2.2 σ6 e6).1, L_istore_n dR_seeAll_74 (by decide) (L_iinc dR_seeAll_75 rfl (by decide) (L_goto dR_seeAll_78 (by decide) (((h.2 c1).2.2.2.2 σ6 e6).2)))⟩⟩))⟩⟩⟩)))⟩⟩)))⟩⟩)))⟩)⟩)⟩)⟩))
theorem dR_tables_0 : decode prog_14_method_172_code 0 = .ok (.aload_n 0, 1) := by decide +kernel
theorem dR_tables_1 : decode prog_14_method_172_code 1 = .ok (.iconst 0, 1) := by decide +kernel
theorem dR_tables_2 : decode prog_14_method_172_code 2 = .ok (.putfield 132, 3) := by decide +kernel
theorem dR_tables_5 : decode prog_14_method_172_code 5 = .ok (.aload_n 0, 1) := by decide +kernel
theorem dR_tables_6 : decode prog_14_method_172_code 6 = .ok (.iconst 0, 1) := by decide +kernel
theorem dR_tables_7 : decode prog_14_method_172_code 7 = .ok (.putfield 135, 3) := by decide +kernel
theorem dR_tables_10 : decode prog_14_method_172_code 10 = .ok (.iload_n 1, 1) := by decide +kernel
theorem dR_tables_11 : decode prog_14_method_172_code 11 = .ok (.iconst 2, 1) := by decide +kernel
theorem dR_tables_12 : decode prog_14_method_172_code 12 = .ok (.if_icmp .eq 8, 3) := by decide +kernel
theorem dR_tables_15 : decode prog_14_method_172_code 15 = .ok (.iload_n 1, 1) := by decide +kernel
theorem dR_tables_16 : decode prog_14_method_172_code 16 = .ok (.iconst 3, 1) := by decide +kernel
theorem dR_tables_17 : decode prog_14_method_172_code 17 = .ok (.if_icmp .ne 29, 3) := by decide +kernel
theorem dR_tables_20 : decode prog_14_method_172_code 20 = .ok (.iload_n 2, 1) := by decide +kernel
theorem dR_tables_21 : decode prog_14_method_172_code 21 = .ok (.i2l, 1) := by decide +kernel
theorem dR_tables_22 : decode prog_14_method_172_code 22 = .ok (.lconst 1, 1) := by decide +kernel
theorem dR_tables_23 : decode prog_14_method_172_code 23 = .ok (.ldc2_w 382, 3) := by decide +kernel
theorem dR_tables_26 : decode prog_14_method_172_code 26 = .ok (.invokestatic 167, 3) := by decide +kernel
theorem dR_tables_29 : decode prog_14_method_172_code 29 = .ok (.ifCond .ne 13, 3) := by decide +kernel
theorem dR_tables_32 : decode prog_14_method_172_code 32 = .ok (.iload_n 2, 1) := by decide +kernel
theorem dR_tables_33 : decode prog_14_method_172_code 33 = .ok (.iconst 3, 1) := by decide +kernel
theorem dR_tables_34 : decode prog_14_method_172_code 34 = .ok (.if_icmp .ne 12, 3) := by decide +kernel
theorem dR_tables_37 : decode prog_14_method_172_code 37 = .ok (.iload_n 1, 1) := by decide +kernel
theorem dR_tables_38 : decode prog_14_method_172_code 38 = .ok (.iconst 2, 1) := by decide +kernel
theorem dR_tables_39 : decode prog_14_method_172_code 39 = .ok (.if_icmp .ne 7, 3) := by decide +kernel
theorem dR_tables_42 : decode prog_14_method_172_code 42 = .ok (.iconst 1, 1) := by decide +kernel
theorem dR_tables_43 : decode prog_14_method_172_code 43 = .ok (.goto 4, 3) := by decide +kernel
theorem dR_tables_46 : decode prog_14_method_172_code 46 = .ok (.iconst 0, 1) := by decide +kernel
theorem dR_tables_47 : decode prog_14_method_172_code 47 = .ok (.istore 4, 2) := by decide +kernel
theorem dR_tables_49 : decode prog_14_method_172_code 49 = .ok (.iload 4, 2) := by decide +kernel
theorem dR_tables_51 : decode prog_14_method_172_code 51 = .ok (.ifCond .eq 13, 3) := by decide +kernel
theorem dR_tables_54 : decode prog_14_method_172_code 54 = .ok (.iload_n 3, 1) := by decide +kernel
theorem dR_tables_55 : decode prog_14_method_172_code 55 = .ok (.i2l, 1) := by decide +kernel
theorem dR_tables_56 : decode prog_14_method_172_code 56 = .ok (.lconst 0, 1) := by decide +kernel
theorem dR_tables_57 : decode prog_14_method_172_code 57 = .ok (.lconst 1, 1) := by decide +kernel
theorem dR_tables_58 : decode prog_14_method_172_code 58 = .ok (.invokestatic 167, 3) := by decide +kernel
theorem dR_tables_61 : decode prog_14_method_172_code 61 = .ok (.ifCond .ne 9, 3) := by decide +kernel
theorem dR_tables_64 : decode prog_14_method_172_code 64 = .ok (.aload_n 0, 1) := by decide +kernel
theorem dR_tables_65 : decode prog_14_method_172_code 65 = .ok (.iconst 5, 1) := by decide +kernel
theorem dR_tables_66 : decode prog_14_method_172_code 66 = .ok (.invokevirtual 351, 3) := by decide +kernel
theorem dR_tables_69 : decode prog_14_method_172_code 69 = .ok (.ireturn, 1) := by decide +kernel
theorem dR_tables_70 : decode prog_14_method_172_code 70 = .ok (.aload_n 0, 1) := by decide +kernel
theorem dR_tables_71 : decode prog_14_method_172_code 71 = .ok (.getfield 129, 3) := by decide +kernel
theorem dR_tables_74 : decode prog_14_method_172_code 74 = .ok (.iconst 0, 1) := by decide +kernel
theorem dR_tables_75 : decode prog_14_method_172_code 75 = .ok (.iload_n 1, 1) := by decide +kernel
theorem dR_tables_76 : decode prog_14_method_172_code 76 = .ok (.iload_n 2, 1) := by decide +kernel
theorem dR_tables_77 : decode prog_14_method_172_code 77 = .ok (.invokestatic 303, 3) := by decide +kernel
theorem dR_tables_80 : decode prog_14_method_172_code 80 = .ok (.aload_n 0, 1) := by decide +kernel
theorem dR_tables_81 : decode prog_14_method_172_code 81 = .ok (.aload_n 0, 1) := by decide +kernel
theorem dR_tables_82 : decode prog_14_method_172_code 82 = .ok (.getfield 129, 3) := by decide +kernel
theorem dR_tables_85 : decode prog_14_method_172_code 85 = .ok (.iconst 0, 1) := by decide +kernel
theorem dR_tables_86 : decode prog_14_method_172_code 86 = .ok (.invokevirtual 256, 3) := by decide +kernel
theorem dR_tables_89 : decode prog_14_method_172_code 89 = .ok (.aload_n 0, 1) := by decide +kernel
theorem dR_tables_90 : decode prog_14_method_172_code 90 = .ok (.aload_n 0, 1) := by decide +kernel
theorem dR_tables_91 : decode prog_14_method_172_code 91 = .ok (.iload_n 2, 1) := by decide +kernel
theorem dR_tables_92 : decode prog_14_method_172_code 92 = .ok (.invokevirtual 622, 3) := by decide +kernel
theorem dR_tables_95 : decode prog_14_method_172_code 95 = .ok (.invokevirtual 320, 3) := by decide +kernel
theorem dR_tables_98 : decode prog_14_method_172_code 98 = .ok (.istore 5, 2) := by decide +kernel
theorem dR_tables_100 : decode prog_14_method_172_code 100 = .ok (.iconst 0, 1) := by decide +kernel
theorem dR_tables_101 : decode prog_14_method_172_code 101 = .ok (.istore 6, 2) := by decide +kernel
theorem dR_tables_103 : decode prog_14_method_172_code 103 = .ok (.iload 6, 2) := by decide +kernel
theorem dR_tables_105 : decode prog_14_method_172_code 105 = .ok (.iload 5, 2) := by decide +kernel
theorem dR_tables_107 : decode prog_14_method_172_code 107 = .ok (.if_icmp .ge 17, 3) := by decide +kernel
theorem dR_tables_110 : decode prog_14_method_172_code 110 = .ok (.aload_n 0, 1) := by decide +kernel
theorem dR_tables_111 : decode prog_14_method_172_code 111 = .ok (.getfield 125, 3) := by decide +kernel
theorem dR_tables_114 : decode prog_14_method_172_code 114 = .ok (.iload 6, 2) := by decide +kernel
theorem dR_tables_116 : decode prog_14_method_172_code 116 = .ok (.iconst 0, 1) := by decide +kernel
theorem dR_tables_117 : decode prog_14_method_172_code 117 = .ok (.bastore, 1) := by decide +kernel
theorem dR_tables_118 : decode prog_14_method_172_code 118 = .ok (.iinc 6 1, 3) := by decide +kernel
theorem dR_tables_121 : decode prog_14_method_172_code 121 = .ok (.goto (-18), 3) := by decide +kernel
theorem dR_tables_124 : decode prog_14_method_172_code 124 = .ok (.iconst 0, 1) := by decide +kernel
theorem dR_tables_125 : decode prog_14_method_172_code 125 = .ok (.istore 6, 2) := by decide +kernel
theorem dR_tables_127 : decode prog_14_method_172_code 127 = .ok (.iconst 0, 1) := by decide +kernel
theorem dR_tables_128 : decode prog_14_method_172_code 128 = .ok (.istore 7, 2) := by decide +kernel
theorem dR_tables_130 : decode prog_14_method_172_code 130 = .ok (.iload 7, 2) := by decide +kernel
theorem dR_tables_132 : decode prog_14_method_172_code 132 = .ok (.iload 5, 2) := by decide +kernel
theorem dR_tables_134 : decode prog_14_method_172_code 134 = .ok (.if_icmp .ge 52, 3) := by decide +kernel
theorem dR_tables_137 : decode prog_14_method_172_code 137 = .ok (.aload_n 0, 1) := by decide +kernel
theorem dR_tables_138 : decode prog_14_method_172_code 138 = .ok (.iload 7, 2) := by decide +kernel
theorem dR_tables_140 : decode prog_14_method_172_code 140 = .ok (.invokevirtual 625, 3) := by decide +kernel
theorem dR_tables_143 : decode prog_14_method_172_code 143 = .ok (.aload_n 0, 1) := by decide +kernel
theorem dR_tables_144 : decode prog_14_method_172_code 144 = .ok (.invokevirtual 379, 3) := by decide +kernel
theorem dR_tables_147 : decode prog_14_method_172_code 147 = .ok (.ifCond .eq 33, 3) := by decide +kernel
theorem dR_tables_150 : decode prog_14_method_172_code 150 = .ok (.iload_n 3, 1) := by decide +kernel
theorem dR_tables_151 : decode prog_14_method_172_code 151 = .ok (.iconst 1, 1) := by decide +kernel
theorem dR_tables_152 : decode prog_14_method_172_code 152 = .ok (.if_icmp .ne 16, 3) := by decide +kernel
theorem dR_tables_155 : decode prog_14_method_172_code 155 = .ok (.aload_n 0, 1) := by decide +kernel
theorem dR_tables_156 : decode prog_14_method_172_code 156 = .ok (.getfield 125, 3) := by decide +kernel
theorem dR_tables_159 : decode prog_14_method_172_code 159 = .ok (.iload 7, 2) := by decide +kernel
theorem dR_tables_161 : decode prog_14_method_172_code 161 = .ok (.baload, 1) := by decide +kernel
theorem dR_tables_162 : decode prog_14_method_172_code 162 = .ok (.ifCond .eq 6, 3) := by decide +kernel
theorem dR_tables_165 : decode prog_14_method_172_code 165 = .ok (.goto 15, 3) := by decide +kernel
theorem dR_tables_168 : decode prog_14_method_172_code 168 = .ok (.iinc 6 1, 3) := by decide +kernel
theorem dR_tables_171 : decode prog_14_method_172_code 171 = .ok (.iload_n 3, 1) := by decide +kernel
theorem dR_tables_172 : decode prog_14_method_172_code 172 = .ok (.iconst 1, 1) := by decide +kernel
theorem dR_tables_173 : decode prog_14_method_172_code 173 = .ok (.if_icmp .ne 7, 3) := by decide +kernel
theorem dR_tables_176 : decode prog_14_method_172_code 176 = .ok (.aload_n 0, 1) := by decide +kernel
theorem dR_tables_177 : decode prog_14_method_172_code 177 = .ok (.invokevirtual 628, 3) := by decide +kernel
theorem dR_tables_180 : decode prog_14_method_172_code 180 = .ok (.iinc 7 1, 3) := by decide +kernel
theorem dR_tables_183 : decode prog_14_method_172_code 183 = .ok (.goto (-53), 3) := by decide +kernel
theorem dR_tables_186 : decode prog_14_method_172_code 186 = .ok (.iload 6, 2) := by decide +kernel
theorem dR_tables_188 : decode prog_14_method_172_code 188 = .ok (.ireturn, 1) := by decide +kernel
theorem t_R_tables {d : Nat} {x1 x2 x3 : Int} {σ : SG} {Q : Int → SG → Prop} (h : inI x1 → inI x2 → inI x3 → ((∀ σ1, σ1 = up σ 161 1 0 → (∀ σ2, σ2 = up σ1 161 0 0 → (x1 = 2 → L (d + 1) M_R_tables 20 [vA 161, vI x1, vI x2, vI x3, vU, vU, vU, vU] [] σ2 Q) ∧ (x1 ≠ 2 → (x1 ≠ 3 → L (d + 1) M_R_tables 47 [vA 161, vI x1, vI x2, vI x3, vU, vU, vU, vU] [vI 0] σ2 Q) ∧ (x1 = 3 → L (d + 1) M_R_tables 20 [vA 161, vI x1, vI x2, vI x3, vU, vU, vU, vU] [] σ2 Q)))))) : Tri (d + 1) M_R_tables [vA 161, vI x1, vI x2, vI x3] σ Q :=
  Tri_intro rfl (Nat.le_of_ble_eq_true rfl) (ls := [vA 161, vI x1, vI x2, vI x3, vU, vU, vU, vU]) rfl (fun hok => L_aload_n dR_tables_0 rfl (L_iconst dR_tables_1 in_0 (L_putfN fp_R_132 rfl rfl (fun _ => ⟨rfl, rfl⟩) dR_tables_2 ⟨ob_161, fun σ1 e1 => L_aload_n dR_tables_5 rfl (L_iconst dR_tables_6 in_0 (L_putfN fp_R_135 rfl rfl (fun _ => ⟨rfl, rfl⟩) dR_tables_7 ⟨ob_161, fun σ2 e2 => L_iload_n dR_tables_10 rfl (L_iconst dR_tables_11 in_2 (L_icmp_eq dR_tables_12 (by decide) ⟨fun c3 => ((((h (hok _ (List.mem_of_getElem? (i := 1) rfl)) (hok _ (List.mem_of_getElem? (i := 2) rfl)) (hok _ (List.mem_of_getElem? (i := 3) rfl))) σ1 e1) σ2 e2).1 c3), fun c3 => L_iload_n dR_tables_15 rfl (L_iconst dR_tables_16 in_3 (L_icmp_ne dR_tables_17 (by decide) ⟨fun c4 => L_iconst dR_tables_46 in_0 (((((h (hok _ (List.mem_of_getElem? (i := 1) rfl)) (hok _ (List.mem_of_getElem? (i := 2) rfl)) (hok _ (List.mem_of_getElem? (i := 3) rfl))) σ1 e1) σ2 e2).2 c3).1 c4), fun c4 => (((((h (hok _ (List.mem_of_getElem? (i := 1) rfl)) (hok _ (List.mem_of_getElem? (i := 2) rfl)) (hok _ (List.mem_of_getElem? (i := 3) rfl))) σ1 e1) σ2 e2).2 c3).2 c4)⟩))⟩))⟩))⟩)))
theorem s_R_tables_20 {d : Nat} {x1 x2 x3 : Int} {σ : SG} {Q : Int → SG → Prop} (h : Tri d M_R_isIn [vJ x2, vJ 1, vJ 2] σ (fun r1 σ1 => (r1 ≠ 0 → L (d + 1) M_R_tables 47 [vA 161, vI x1, vI x2, vI x3, vU, vU, vU, vU] [vI 1] σ1 Q) ∧ (r1 = 0 → (x2 ≠ 3 → L (d + 1) M_R_tables 47 [vA 161, vI x1, vI x2, vI x3, vU, vU, vU, vU] [vI 0] σ1 Q) ∧ (x2 = 3 → (x1 ≠ 2 → L (d + 1) M_R_tables 47 [vA 161, vI x1, vI x2, vI x3, vU, vU, vU, vU] [vI 0] σ1 Q) ∧ (x1 = 2 → L (d + 1) M_R_tables 47 [vA 161, vI x1, vI x2, vI x3, vU, vU, vU, vU] [vI 1] σ1 Q))))) : L (d + 1) M_R_tables 20 [vA 161, vI x1, vI x2, vI x3, vU, vU, vU, vU] [] σ Q :=
  L_iload_n dR_tables_20 rfl (L_i2l dR_tables_21 (L_lconst (x := 1) dR_tables_22 rfl inJ_1 (L_ldc2 (x := 2) (tk8 193 rfl rfl) rfl inJ_2 dR_tables_23 (L_callSI rfl cs_R_isIn (As := [vJ x2, vJ 1, vJ 2]) rfl (tk8 47 rfl rfl) rfl (Nat.le_of_ble_eq_true rfl) dR_tables_26 (Tri.mono h (fun r1 σ1 q1 => L_if_ne dR_tables_29 (by decide) ⟨fun c2 => L_iconst dR_tables_42 in_1 (L_goto dR_tables_43 (by decide) (q1.1 c2)), fun c2 => L_iload_n dR_tables_32 rfl (L_iconst dR_tables_33 in_3 (L_icmp_ne dR_tables_34 (by decide) ⟨fun c3 => L_iconst dR_tables_46 in_0 ((q1.2 c2).1 c3), fun c3 => L_iload_n dR_tables_37 rfl (L_iconst dR_tables_38 in_2 (L_icmp_ne dR_tables_39 (by decide) ⟨fun c4 => L_iconst dR_tables_46 in_0 (((q1.2 c2).2 c3).1 c4), fun c4 => L_iconst dR_tables_42 in_1 (L_goto dR_tables_43 (by decide) (((q1.2 c2).2 c3).2 c4))⟩))⟩))⟩))))))
theorem s_R_tables_47 {d : Nat} {x1 x2 x3 y0 : Int} {σ : SG} {Q : Int → SG → Prop} (h : (y0 = 0 → Tri d M_R_refuse [vA 161, vI 5] σ (fun r2 σ2 => Q r2 σ2)) ∧ (y0 ≠ 0 → Tri d M_R_isIn [vJ x3, vJ 0, vJ 1] σ (fun r3 σ3 => (r3 ≠ 0 → Tri d M_R_clear [vA 196, vI 0, vI x1, vI x2] σ3 (fun r5 σ5 => Tri d M_R_ask [vA 161, vA 196, vI 0] σ5 (fun r6 σ6 => Tri d M_R_numbersOf [vA 161, vI x2] σ6 (fun r7 σ7 => Tri d M_R_powerOf [vA 161, vI r7] σ7 (fun r8 σ8 => L (d + 1) M_R_tables 103 [vA 161, vU, vU, vI x3, vU, vI r8, vI 0, vU] [] σ8 Q))))) ∧ (r3 = 0 → Tri d M_R_refuse [vA 161, vI 5] σ3 (fun r9 σ9 => Q r9 σ9))))) : L (d + 1) M_R_tables 47 [vA 161, vI x1, vI x2, vI x3, vU, vU, vU, vU] [vI y0] σ Q :=
  L_istore dR_tables_47 (by decide) (L_iload dR_tables_49 rfl (L_if_eq dR_tables_51 (by decide) ⟨fun c1 => L_aload_n dR_tables_64 rfl (L_iconst dR_tables_65 in_5 (L_callVI rfl cv_R_refuse (As := [vI 5]) rfl (tk8 117 rfl rfl) rfl (Nat.le_of_ble_eq_true rfl) dR_tables_66 ⟨ob_161, Tri.mono (h.1 c1) (fun r2 σ2 q2 => L_ireturn rfl dR_tables_69 q2)⟩)), fun c1 => L_iload_n dR_tables_54 rfl (L_i2l dR_tables_55 (L_lconst (x := 0) dR_tables_56 rfl inJ_0 (L_lconst (x := 1) dR_tables_57 rfl inJ_1 (L_callSI rfl cs_R_isIn (As := [vJ x3, vJ 0, vJ 1]) rfl (tk8 47 rfl rfl) rfl (Nat.le_of_ble_eq_true rfl) dR_tables_58 (Tri.mono (h.2 c1) (fun r3 σ3 q3 => L_if_ne dR_tables_61 (by decide) ⟨fun c4 => L_aload_n dR_tables_70 rfl (L_getF (b := 196) fw_R_129 rfl rfl (by decide) dR_tables_71 ⟨ob_161, L_iconst dR_tables_74 in_0 (L_iload_n dR_tables_75 rfl (L_iload_n dR_tables_76 rfl (L_callSV rfl cs_R_clear (As := [vA 196, vI 0, vI x1, vI x2]) rfl (tk8 61 rfl rfl) rfl (Nat.le_of_ble_eq_true rfl) dR_tables_77 (Tri.mono (q3.1 c4) (fun r5 σ5 q5 => L_aload_n dR_tables_80 rfl (L_aload_n dR_tables_81 rfl (L_getF (b := 196) fw_R_129 rfl rfl (by decide) dR_tables_82 ⟨ob_161, L_iconst dR_tables_85 in_0 (L_callVV rfl cv_R_ask (As := [vA 196, vI 0]) rfl (tk8 112 rfl rfl) rfl (Nat.le_of_ble_eq_true rfl) dR_tables_86 ⟨ob_161, Tri.mono q5 (fun r6 σ6 q6 => L_aload_n dR_tables_89 rfl (L_aload_n dR_tables_90 rfl (L_iload_n dR_tables_91 rfl (L_callVI rfl cv_R_numbersOf (As := [vI x2]) rfl (tk10 96 rfl rfl) rfl (Nat.le_of_ble_eq_true rfl) dR_tables_92 ⟨ob_161, Tri.mono q6 (fun r7 σ7 q7 => L_callVI rfl cv_R_powerOf (As := [vI r7]) rfl (tk8 149 rfl rfl) rfl (Nat.le_of_ble_eq_true rfl) dR_tables_95 ⟨ob_161, Tri.mono q7 (fun r8 σ8 q8 => L_istore dR_tables_98 (by decide) (L_iconst dR_tables_100 in_0 (L_istore dR_tables_101 (by decide) (L_weak [true, false, false, true, false, true, true, true] q8))))⟩)⟩))))⟩)⟩)))))))⟩), fun c4 => L_aload_n dR_tables_64 rfl (L_iconst dR_tables_65 in_5 (L_callVI rfl cv_R_refuse (As := [vI 5]) rfl (tk8 117 rfl rfl) rfl (Nat.le_of_ble_eq_true rfl) dR_tables_66 ⟨ob_161, Tri.mono (q3.2 c4) (fun r9 σ9 q9 => L_ireturn rfl dR_tables_69 q9)⟩))⟩))))))⟩))
theorem s_R_tables_103 {d : Nat} {x3 x5 x6 : Int} {σ : SG} {Q : Int → SG → Prop} (h : (x5 ≤ x6 → L (d + 1) M_R_tables 130 [vA 161, vU, vU, vI x3, vU, vI x5, vI 0, vI 0] [] σ Q) ∧ (x6 < x5 → (0 ≤ x6 ∧ x6 < 512) ∧ (∀ σ2, σ2 = up σ 195 x6 0 → L (d + 1) M_R_tables 103 [vA 161, vU, vU, vI x3, vU, vI x5, vI (w32 (x6 + 1)), vU] [] σ2 Q))) : L (d + 1) M_R_tables 103 [vA 161, vU, vU, vI x3, vU, vI x5, vI x6, vU] [] σ Q :=
  L_iload dR_tables_103 rfl (L_iload dR_tables_105 rfl (L_icmp_ge dR_tables_107 (by decide) ⟨fun c1 => L_iconst dR_tables_124 in_0 (L_istore dR_tables_125 (by decide) (L_iconst dR_tables_127 in_0 (L_istore dR_tables_128 (by decide) (h.1 c1)))), fun c1 => L_aload_n dR_tables_110 rfl (L_getF (b := 195) fw_R_125 rfl rfl (by decide) dR_tables_111 ⟨ob_161, L_iload dR_tables_114 rfl (L_iconst dR_tables_116 in_0 (L_zastoreL (by decide) kd_195 dR_tables_117 ⟨⟨(h.2 c1).1, by decide⟩, fun σ2 e2 => L_iinc dR_tables_118 rfl (by decide) (L_goto dR_tables_121 (by decide) ((h.2 c1).2 σ2 e2))⟩))⟩)⟩))
theorem s_R_tables_130 {d : Nat} {x3 x5 x6 x7 : Int} {σ : SG} {Q : Int → SG → Prop} (h : (x5 ≤ x7 → Q x6 σ) ∧ (x7 < x5 → Tri d M_R_tableBy [vA 161, vI x7] σ (fun r2 σ2 => Tri d M_R_isLawful [vA 161] σ2 (fun r3 σ3 => (r3 = 0 → L (d + 1) M_R_tables 130 [vA 161, vU, vU, vI x3, vU, vI x5, vI x6, vI (w32 (x7 + 1))] [] σ3 Q) ∧ (r3 ≠ 0 → (x3 ≠ 1 → (x3 ≠ 1 → L (d + 1) M_R_tables 130 [vA 161, vU, vU, vI x3, vU, vI x5, vI (w32 (x6 + 1)), vI (w32 (x7 + 1))] [] σ3 Q) ∧ (x3 = 1 → Tri d M_R_seeAll [vA 161] σ3 (fun r7 σ7 => L (d + 1) M_R_tables 130 [vA 161, vU, vU, vI x3, vU, vI x5, vI (w32 (x6 + 1)), vI (w32 (x7 + 1))] [] σ7 Q))) ∧ (x3 = 1 → (0 ≤ x7 ∧ x7 < 512) ∧ (σ3 195 x7 = 0 → (x3 ≠ 1 → L (d + 1) M_R_tables 130 [vA 161, vU, vU, vI x3, vU, vI x5, vI (w32 (x6 + 1)), vI (w32 (x7 + 1))] [] σ3 Q) ∧ (x3 = 1 → Tri d M_R_seeAll [vA 161] σ3 (fun r10 σ10 => L (d + 1) M_R_tables 130 [vA 161, vU, vU, vI x3, vU, vI x5, vI (w32 (x6 + 1)), vI (w32 (x7 + 1))] [] σ10 Q))) ∧ (σ3 195 x7 ≠ 0 → L (d + 1) M_R_tables 130 [vA 161, vU, vU, vI x3, vU, vI x5, vI x6, vI (w32 (x7 + 1))] [] σ3 Q))))))) : L (d + 1) M_R_tables 130 [vA 161, vU, vU, vI x3, vU, vI x5, vI x6, vI x7] [] σ Q :=
  L_iload dR_tables_130 rfl (L_iload dR_tables_132 rfl (L_icmp_ge dR_tables_134 (by decide) ⟨fun c1 => L_iload dR_tables_186 rfl (L_ireturn rfl dR_tables_188 (h.1 c1)), fun c1 => L_aload_n dR_tables_137 rfl (L_iload dR_tables_138 rfl (L_callVV rfl cv_R_tableBy (As := [vI x7]) rfl (tk10 100 rfl rfl) rfl (Nat.le_of_ble_eq_true rfl) dR_tables_140 ⟨ob_161, Tri.mono (h.2 c1) (fun r2 σ2 q2 => L_aload_n dR_tables_143 rfl (L_callVI rfl cv_R_isLawful (As := []) rfl (tk8 169 rfl rfl) rfl (Nat.le_of_ble_eq_true rfl) dR_tables_144 ⟨ob_161, Tri.mono q2 (fun r3 σ3 q3 => L_if_eq dR_tables_147 (by decide) ⟨fun c4 => L_iinc dR_tables_180 rfl (by decide) (L_goto dR_tables_183 (by decide) (q3.1 c4)), fun c4 => L_iload_n dR_tables_150 rfl (L_iconst dR_tables_151 in_1 (L_icmp_ne dR_tables_152 (by decide) ⟨fun c5 => L_iinc dR_tables_168 rfl (by decide) (L_iload_n dR_tables_171 rfl (L_iconst dR_tables_172 in_1 (L_icmp_ne dR_tables_173 (by decide) ⟨fun c6 => L_iinc dR_tables_180 rfl (by decide) (L_goto dR_tables_183 (by decide) (((q3.2 c4).1 c5).1 c6)), fun c6 => L_aload_n dR_tables_176 rfl (L_callVV rfl cv_R_seeAll (As := []) rfl (tk10 104 rfl rfl) rfl (Nat.le_of_ble_eq_true rfl) dR_tables_177 ⟨ob_161, Tri.mono (((q3.2 c4).1 c5).2 c6) (fun r7 σ7 q7 => L_iinc dR_tables_180 rfl (by decide) (L_goto dR_tables_183 (by decide) q7))⟩)⟩))), fun c5 => L_aload_n dR_tables_155 rfl (L_getF (b := 195) fw_R_125 rfl rfl (by decide) dR_tables_156 ⟨ob_161, L_iload dR_tables_159 rfl (L_zaloadL kd_195 dR_tables_161 ⟨((q3.2 c4).2 c5).1, L_if_eq dR_tables_162 (by decide) ⟨fun c8 => L_iinc dR_tables_168 rfl (by decide) (L_iload_n dR_tables_171 rfl (L_iconst dR_tables_172 in_1 (L_icmp_ne dR_tables_173 (by decide) ⟨fun c9 => L_iinc dR_tables_180 rfl (by decide) (L_goto dR_tables_183 (by decide) ((((q3.2 c4).2 c5).2.1 c8).1 c9)), fun c9 => L_aload_n dR_tables_176 rfl (L_callVV rfl cv_R_seeAll (As := []) rfl (tk10 104 rfl rfl) rfl (Nat.le_of_ble_eq_true rfl) dR_tables_177 ⟨ob_161, Tri.mono ((((q3.2 c4).2 c5).2.1 c8).2 c9) (fun r10 σ10 q10 => L_iinc dR_tables_180 rfl (by decide) (L_goto dR_tables_183 (by decide) q10))⟩)⟩))), fun c8 => L_goto dR_tables_165 (by decide) (L_iinc dR_tables_180 rfl (by decide) (L_goto dR_tables_183 (by decide) (((q3.2 c4).2 c5).2.2 c8)))⟩⟩)⟩)⟩))⟩)⟩))⟩))⟩))
theorem dR_readSign_0 : decode prog_14_method_173_code 0 = .ok (.aload_n 0, 1) := by decide +kernel
theorem dR_readSign_1 : decode prog_14_method_173_code 1 = .ok (.getfield 183, 3) := by decide +kernel
theorem dR_readSign_4 : decode prog_14_method_173_code 4 = .ok (.iconst 3, 1) := by decide +kernel
theorem dR_readSign_5 : decode prog_14_method_173_code 5 = .ok (.if_icmp .ne 10, 3) := by decide +kernel
theorem dR_readSign_8 : decode prog_14_method_173_code 8 = .ok (.aload_n 0, 1) := by decide +kernel
theorem dR_readSign_9 : decode prog_14_method_173_code 9 = .ok (.getfield 199, 3) := by decide +kernel
theorem dR_readSign_12 : decode prog_14_method_173_code 12 = .ok (.goto 4, 3) := by decide +kernel
theorem dR_readSign_15 : decode prog_14_method_173_code 15 = .ok (.iconst 0, 1) := by decide +kernel
theorem dR_readSign_16 : decode prog_14_method_173_code 16 = .ok (.istore_n 2, 1) := by decide +kernel
theorem dR_readSign_17 : decode prog_14_method_173_code 17 = .ok (.aload_n 0, 1) := by decide +kernel
theorem dR_readSign_18 : decode prog_14_method_173_code 18 = .ok (.aload_n 0, 1) := by decide +kernel
theorem dR_readSign_19 : decode prog_14_method_173_code 19 = .ok (.bipush 60, 2) := by decide +kernel
theorem dR_readSign_21 : decode prog_14_method_173_code 21 = .ok (.invokevirtual 297, 3) := by decide +kernel
theorem dR_readSign_24 : decode prog_14_method_173_code 24 = .ok (.ifCond .ne 21, 3) := by decide +kernel
theorem dR_readSign_27 : decode prog_14_method_173_code 27 = .ok (.aload_n 0, 1) := by decide +kernel
theorem dR_readSign_28 : decode prog_14_method_173_code 28 = .ok (.bipush 62, 2) := by decide +kernel
theorem dR_readSign_30 : decode prog_14_method_173_code 30 = .ok (.invokevirtual 297, 3) := by decide +kernel
theorem dR_readSign_33 : decode prog_14_method_173_code 33 = .ok (.ifCond .ne 12, 3) := by decide +kernel
theorem dR_readSign_36 : decode prog_14_method_173_code 36 = .ok (.aload_n 0, 1) := by decide +kernel
theorem dR_readSign_37 : decode prog_14_method_173_code 37 = .ok (.bipush 61, 2) := by decide +kernel
theorem dR_readSign_39 : decode prog_14_method_173_code 39 = .ok (.invokevirtual 297, 3) := by decide +kernel
theorem dR_readSign_42 : decode prog_14_method_173_code 42 = .ok (.ifCond .eq 7, 3) := by decide +kernel
theorem dR_readSign_45 : decode prog_14_method_173_code 45 = .ok (.iconst 1, 1) := by decide +kernel
theorem dR_readSign_46 : decode prog_14_method_173_code 46 = .ok (.goto 4, 3) := by decide +kernel
theorem dR_readSign_49 : decode prog_14_method_173_code 49 = .ok (.iconst 0, 1) := by decide +kernel
theorem dR_readSign_50 : decode prog_14_method_173_code 50 = .ok (.invokevirtual 273, 3) := by decide +kernel
theorem dR_readSign_53 : decode prog_14_method_173_code 53 = .ok (.aload_n 0, 1) := by decide +kernel
theorem dR_readSign_54 : decode prog_14_method_173_code 54 = .ok (.getfield 44, 3) := by decide +kernel
theorem dR_readSign_57 : decode prog_14_method_173_code 57 = .ok (.iload_n 1, 1) := by decide +kernel
theorem dR_readSign_58 : decode prog_14_method_173_code 58 = .ok (.iconst 4, 1) := by decide +kernel
theorem dR_readSign_59 : decode prog_14_method_173_code 59 = .ok (.iadd, 1) := by decide +kernel
theorem dR_readSign_60 : decode prog_14_method_173_code 60 = .ok (.iload_n 2, 1) := by decide +kernel
theorem dR_readSign_61 : decode prog_14_method_173_code 61 = .ok (.iastore, 1) := by decide +kernel
theorem dR_readSign_62 : decode prog_14_method_173_code 62 = .ok (.aload_n 0, 1) := by decide +kernel
theorem dR_readSign_63 : decode prog_14_method_173_code 63 = .ok (.getfield 44, 3) := by decide +kernel
theorem dR_readSign_66 : decode prog_14_method_173_code 66 = .ok (.iload_n 1, 1) := by decide +kernel
theorem dR_readSign_67 : decode prog_14_method_173_code 67 = .ok (.iconst 5, 1) := by decide +kernel
theorem dR_readSign_68 : decode prog_14_method_173_code 68 = .ok (.iadd, 1) := by decide +kernel
theorem dR_readSign_69 : decode prog_14_method_173_code 69 = .ok (.aload_n 0, 1) := by decide +kernel
theorem dR_readSign_70 : decode prog_14_method_173_code 70 = .ok (.iconst 0, 1) := by decide +kernel
theorem dR_readSign_71 : decode prog_14_method_173_code 71 = .ok (.iconst 5, 1) := by decide +kernel
theorem dR_readSign_72 : decode prog_14_method_173_code 72 = .ok (.invokevirtual 267, 3) := by decide +kernel
theorem dR_readSign_75 : decode prog_14_method_173_code 75 = .ok (.iastore, 1) := by decide +kernel
theorem dR_readSign_76 : decode prog_14_method_173_code 76 = .ok (.return_, 1) := by decide +kernel
theorem t_R_readSign {d : Nat} {x1 : Int} {σ : SG} {Q : Int → SG → Prop} (h : inI x1 → ((σ 161 14 ≠ 3 → L (d + 1) M_R_readSign 16 [vA 161, vI x1, vU] [vI 0] σ Q) ∧ (σ 161 14 = 3 → L (d + 1) M_R_readSign 16 [vA 161, vI x1, vU] [vI (σ 161 17)] σ Q))) : Tri (d + 1) M_R_readSign [vA 161, vI x1] σ Q :=
  Tri_intro rfl (Nat.le_of_ble_eq_true rfl) (ls := [vA 161, vI x1, vU]) rfl (fun hok => L_aload_n dR_readSign_0 rfl (L_getf fw_R_183 rfl dR_readSign_1 ⟨ob_161, L_iconst dR_readSign_4 in_3 (L_icmp_ne dR_readSign_5 (by decide) ⟨fun c1 => L_iconst dR_readSign_15 in_0 ((h (hok _ (List.mem_of_getElem? (i := 1) rfl))).1 c1), fun c1 => L_aload_n dR_readSign_8 rfl (L_getf fw_R_199 rfl dR_readSign_9 ⟨ob_161, L_goto dR_readSign_12 (by decide) ((h (hok _ (List.mem_of_getElem? (i := 1) rfl))).2 c1)⟩)⟩)⟩))
theorem s_R_readSign_16 {d : Nat} {x1 y0 : Int} {σ : SG} {Q : Int → SG → Prop} (h : Tri d M_R_isSign [vA 161, vI 60] σ (fun r1 σ1 => (r1 ≠ 0 → L (d + 1) M_R_readSign 50 [vA 161, vI x1, vI y0] [vI 1, vA 161] σ1 Q) ∧ (r1 = 0 → Tri d M_R_isSign [vA 161, vI 62] σ1 (fun r3 σ3 => (r3 ≠ 0 → L (d + 1) M_R_readSign 50 [vA 161, vI x1, vI y0] [vI 1, vA 161] σ3 Q) ∧ (r3 = 0 → Tri d M_R_isSign [vA 161, vI 61] σ3 (fun r5 σ5 => (r5 = 0 → L (d + 1) M_R_readSign 50 [vA 161, vI x1, vI y0] [vI 0, vA 161] σ5 Q) ∧ (r5 ≠ 0 → L (d + 1) M_R_readSign 50 [vA 161, vI x1, vI y0] [vI 1, vA 161] σ5 Q))))))) : L (d + 1) M_R_readSign 16 [vA 161, vI x1, vU] [vI y0] σ Q :=
  L_istore_n dR_readSign_16 (by decide) (L_aload_n dR_readSign_17 rfl (L_aload_n dR_readSign_18 rfl (L_bipush dR_readSign_19 bp_60 in_60 (L_callVI rfl cv_R_isSign (As := [vI 60]) rfl (tk8 50 rfl rfl) rfl (Nat.le_of_ble_eq_true rfl) dR_readSign_21 ⟨ob_161, Tri.mono h (fun r1 σ1 q1 => L_if_ne dR_readSign_24 (by decide) ⟨fun c2 => L_iconst dR_readSign_45 in_1 (L_goto dR_readSign_46 (by decide) (q1.1 c2)), fun c2 => L_aload_n dR_readSign_27 rfl (L_bipush dR_readSign_28 bp_62 in_62 (L_callVI rfl cv_R_isSign (As := [vI 62]) rfl (tk8 50 rfl rfl) rfl (Nat.le_of_ble_eq_true rfl) dR_readSign_30 ⟨ob_161, Tri.mono (q1.2 c2) (fun r3 σ3 q3 => L_if_ne dR_readSign_33 (by decide) ⟨fun c4 => L_iconst dR_readSign_45 in_1 (L_goto dR_readSign_46 (by decide) (q3.1 c4)), fun c4 => L_aload_n dR_readSign_36 rfl (L_bipush dR_readSign_37 bp_61 in_61 (L_callVI rfl cv_R_isSign (As := [vI 61]) rfl (tk8 50 rfl rfl) rfl (Nat.le_of_ble_eq_true rfl) dR_readSign_39 ⟨ob_161, Tri.mono (q3.2 c4) (fun r5 σ5 q5 => L_if_eq dR_readSign_42 (by decide) ⟨fun c6 => L_iconst dR_readSign_49 in_0 (q5.1 c6), fun c6 => L_iconst dR_readSign_45 in_1 (L_goto dR_readSign_46 (by decide) (q5.2 c6))⟩)⟩))⟩)⟩))⟩)⟩))))
theorem s_R_readSign_50 {d : Nat} {x1 x2 y0 : Int} {σ : SG} {Q : Int → SG → Prop} (h : Tri d M_R_must [vA 161, vI y0] σ (fun r1 σ1 => (0 ≤ w32 (x1 + 4) ∧ w32 (x1 + 4) < 300) ∧ (∀ σ2, σ2 = up σ1 169 (w32 (x1 + 4)) x2 → Tri d M_R_count [vA 161, vI 0, vI 5] σ2 (fun r3 σ3 => (0 ≤ w32 (x1 + 5) ∧ w32 (x1 + 5) < 300) ∧ (∀ σ4, σ4 = up σ3 169 (w32 (x1 + 5)) r3 → Q 0 σ4))))) : L (d + 1) M_R_readSign 50 [vA 161, vI x1, vI x2] [vI y0, vA 161] σ Q :=
  L_callVV rfl cv_R_must (As := [vI y0]) rfl (tk8 27 rfl rfl) rfl (Nat.le_of_ble_eq_true rfl) dR_readSign_50 ⟨ob_161, Tri.mono h (fun r1 σ1 q1 => L_aload_n dR_readSign_53 rfl (L_getF (b := 169) fw_R_44 rfl rfl (by decide) dR_readSign_54 ⟨ob_161, L_iload_n dR_readSign_57 rfl (L_iconst dR_readSign_58 in_4 (L_iadd dR_readSign_59 (L_iload_n dR_readSign_60 rfl (L_iastoreL (by decide) kd_169 dR_readSign_61 ⟨q1.1, fun σ2 e2 => L_aload_n dR_readSign_62 rfl (L_getF (b := 169) fw_R_44 rfl rfl (by decide) dR_readSign_63 ⟨ob_161, L_iload_n dR_readSign_66 rfl (L_iconst dR_readSign_67 in_5 (L_iadd dR_readSign_68 (L_aload_n dR_readSign_69 rfl (L_iconst dR_readSign_70 in_0 (L_iconst dR_readSign_71 in_5 (L_callVI rfl cv_R_count (As := [vI 0, vI 5]) rfl (tk8 43 rfl rfl) rfl (Nat.le_of_ble_eq_true rfl) dR_readSign_72 ⟨ob_161, Tri.mono (q1.2 σ2 e2) (fun r3 σ3 q3 => L_iastoreL (by decide) kd_169 dR_readSign_75 ⟨q3.1, fun σ4 e4 => L_return rfl dR_readSign_76 (q3.2 σ4 e4)⟩)⟩))))))⟩)⟩))))⟩))⟩
theorem dR_readTest_0 : decode prog_14_method_174_code 0 = .ok (.aload_n 0, 1) := by decide +kernel
theorem dR_readTest_1 : decode prog_14_method_174_code 1 = .ok (.invokevirtual 631, 3) := by decide +kernel
theorem dR_readTest_4 : decode prog_14_method_174_code 4 = .ok (.istore_n 2, 1) := by decide +kernel
theorem dR_readTest_5 : decode prog_14_method_174_code 5 = .ok (.aload_n 0, 1) := by decide +kernel
theorem dR_readTest_6 : decode prog_14_method_174_code 6 = .ok (.iload_n 2, 1) := by decide +kernel
theorem dR_readTest_7 : decode prog_14_method_174_code 7 = .ok (.ifCond .lt 7, 3) := by decide +kernel
theorem dR_readTest_10 : decode prog_14_method_174_code 10 = .ok (.iconst 1, 1) := by decide +kernel
theorem dR_readTest_11 : decode prog_14_method_174_code 11 = .ok (.goto 4, 3) := by decide +kernel
theorem dR_readTest_14 : decode prog_14_method_174_code 14 = .ok (.iconst 0, 1) := by decide +kernel
theorem dR_readTest_15 : decode prog_14_method_174_code 15 = .ok (.invokevirtual 273, 3) := by decide +kernel
theorem dR_readTest_18 : decode prog_14_method_174_code 18 = .ok (.aload_n 0, 1) := by decide +kernel
theorem dR_readTest_19 : decode prog_14_method_174_code 19 = .ok (.getfield 44, 3) := by decide +kernel
theorem dR_readTest_22 : decode prog_14_method_174_code 22 = .ok (.iload_n 1, 1) := by decide +kernel
theorem dR_readTest_23 : decode prog_14_method_174_code 23 = .ok (.iconst 1, 1) := by decide +kernel
theorem dR_readTest_24 : decode prog_14_method_174_code 24 = .ok (.iadd, 1) := by decide +kernel
theorem dR_readTest_25 : decode prog_14_method_174_code 25 = .ok (.iload_n 2, 1) := by decide +kernel
theorem dR_readTest_26 : decode prog_14_method_174_code 26 = .ok (.iastore, 1) := by decide +kernel
theorem dR_readTest_27 : decode prog_14_method_174_code 27 = .ok (.iload_n 2, 1) := by decide +kernel
theorem dR_readTest_28 : decode prog_14_method_174_code 28 = .ok (.iconst 4, 1) := by decide +kernel
theorem dR_readTest_29 : decode prog_14_method_174_code 29 = .ok (.if_icmp .ne 17, 3) := by decide +kernel
theorem dR_readTest_32 : decode prog_14_method_174_code 32 = .ok (.aload_n 0, 1) := by decide +kernel
theorem dR_readTest_33 : decode prog_14_method_174_code 33 = .ok (.getfield 44, 3) := by decide +kernel
theorem dR_readTest_36 : decode prog_14_method_174_code 36 = .ok (.iload_n 1, 1) := by decide +kernel
theorem dR_readTest_37 : decode prog_14_method_174_code 37 = .ok (.iconst 2, 1) := by decide +kernel
theorem dR_readTest_38 : decode prog_14_method_174_code 38 = .ok (.iadd, 1) := by decide +kernel
theorem dR_readTest_39 : decode prog_14_method_174_code 39 = .ok (.aload_n 0, 1) := by decide +kernel
theorem dR_readTest_40 : decode prog_14_method_174_code 40 = .ok (.iconst 0, 1) := by decide +kernel
theorem dR_readTest_41 : decode prog_14_method_174_code 41 = .ok (.iconst 5, 1) := by decide +kernel
theorem dR_readTest_42 : decode prog_14_method_174_code 42 = .ok (.invokevirtual 267, 3) := by decide +kernel
theorem dR_readTest_45 : decode prog_14_method_174_code 45 = .ok (.iastore, 1) := by decide +kernel
theorem dR_readTest_46 : decode prog_14_method_174_code 46 = .ok (.iload_n 2, 1) := by decide +kernel
theorem dR_readTest_47 : decode prog_14_method_174_code 47 = .ok (.iconst 4, 1) := by decide +kernel
theorem dR_readTest_48 : decode prog_14_method_174_code 48 = .ok (.if_icmp .eq 8, 3) := by decide +kernel
theorem dR_readTest_51 : decode prog_14_method_174_code 51 = .ok (.iload_n 2, 1) := by decide +kernel
theorem dR_readTest_52 : decode prog_14_method_174_code 52 = .ok (.iconst 5, 1) := by decide +kernel
theorem dR_readTest_53 : decode prog_14_method_174_code 53 = .ok (.if_icmp .ne 11, 3) := by decide +kernel
theorem dR_readTest_56 : decode prog_14_method_174_code 56 = .ok (.aload_n 0, 1) := by decide +kernel
theorem dR_readTest_57 : decode prog_14_method_174_code 57 = .ok (.iload_n 1, 1) := by decide +kernel
theorem dR_readTest_58 : decode prog_14_method_174_code 58 = .ok (.invokevirtual 634, 3) := by decide +kernel
theorem dR_readTest_61 : decode prog_14_method_174_code 61 = .ok (.goto 23, 3) := by decide +kernel
theorem dR_readTest_64 : decode prog_14_method_174_code 64 = .ok (.iload_n 2, 1) := by decide +kernel
theorem dR_readTest_65 : decode prog_14_method_174_code 65 = .ok (.bipush 6, 2) := by decide +kernel
theorem dR_readTest_67 : decode prog_14_method_174_code 67 = .ok (.if_icmp .ne 17, 3) := by decide +kernel
theorem dR_readTest_70 : decode prog_14_method_174_code 70 = .ok (.aload_n 0, 1) := by decide +kernel
theorem dR_readTest_71 : decode prog_14_method_174_code 71 = .ok (.getfield 44, 3) := by decide +kernel
theorem dR_readTest_74 : decode prog_14_method_174_code 74 = .ok (.iload_n 1, 1) := by decide +kernel
theorem dR_readTest_75 : decode prog_14_method_174_code 75 = .ok (.iconst 2, 1) := by decide +kernel
theorem dR_readTest_76 : decode prog_14_method_174_code 76 = .ok (.iadd, 1) := by decide +kernel
theorem dR_readTest_77 : decode prog_14_method_174_code 77 = .ok (.aload_n 0, 1) := by decide +kernel
theorem dR_readTest_78 : decode prog_14_method_174_code 78 = .ok (.iconst 0, 1) := by decide +kernel
theorem dR_readTest_79 : decode prog_14_method_174_code 79 = .ok (.iconst 3, 1) := by decide +kernel
theorem dR_readTest_80 : decode prog_14_method_174_code 80 = .ok (.invokevirtual 267, 3) := by decide +kernel
theorem dR_readTest_83 : decode prog_14_method_174_code 83 = .ok (.iastore, 1) := by decide +kernel
theorem dR_readTest_84 : decode prog_14_method_174_code 84 = .ok (.return_, 1) := by decide +kernel
theorem t_R_readTest {d : Nat} {x1 : Int} {σ : SG} {Q : Int → SG → Prop} (h : inI x1 → (Tri d M_R_testWord [vA 161] σ (fun r1 σ1 => (r1 < 0 → L (d + 1) M_R_readTest 15 [vA 161, vI x1, vI r1] [vI 0, vA 161] σ1 Q) ∧ (0 ≤ r1 → L (d + 1) M_R_readTest 15 [vA 161, vI x1, vI r1] [vI 1, vA 161] σ1 Q)))) : Tri (d + 1) M_R_readTest [vA 161, vI x1] σ Q :=
  Tri_intro rfl (Nat.le_of_ble_eq_true rfl) (ls := [vA 161, vI x1, vU]) rfl (fun hok => L_aload_n dR_readTest_0 rfl (L_callVI rfl cv_R_testWord (As := []) rfl (tk10 140 rfl rfl) rfl (Nat.le_of_ble_eq_true rfl) dR_readTest_1 ⟨ob_161, Tri.mono ((h (hok _ (List.mem_of_getElem? (i := 1) rfl)))) (fun r1 σ1 q1 => L_istore_n dR_readTest_4 (by decide) (L_aload_n dR_readTest_5 rfl (L_iload_n dR_readTest_6 rfl (L_if_lt dR_readTest_7 (by decide) ⟨fun c2 => L_iconst dR_readTest_14 in_0 (q1.1 c2), fun c2 => L_iconst dR_readTest_10 in_1 (L_goto dR_readTest_11 (by decide) (q1.2 c2))⟩))))⟩))
theorem s_R_readTest_15 {d : Nat} {x1 x2 y0 : Int} {σ : SG} {Q : Int → SG → Prop} (h : Tri d M_R_must [vA 161, vI y0] σ (fun r1 σ1 => (0 ≤ w32 (x1 + 1) ∧ w32 (x1 + 1) < 300) ∧ (∀ σ2, σ2 = up σ1 169 (w32 (x1 + 1)) x2 → (x2 ≠ 4 → L (d + 1) M_R_readTest 46 [vA 161, vI x1, vI x2] [] σ2 Q) ∧ (x2 = 4 → Tri d M_R_count [vA 161, vI 0, vI 5] σ2 (fun r4 σ4 => (0 ≤ w32 (x1 + 2) ∧ w32 (x1 + 2) < 300) ∧ (∀ σ5, σ5 = up σ4 169 (w32 (x1 + 2)) r4 → L (d + 1) M_R_readTest 46 [vA 161, vI x1, vI x2] [] σ5 Q)))))) : L (d + 1) M_R_readTest 15 [vA 161, vI x1, vI x2] [vI y0, vA 161] σ Q :=
  L_callVV rfl cv_R_must (As := [vI y0]) rfl (tk8 27 rfl rfl) rfl (Nat.le_of_ble_eq_true rfl) dR_readTest_15 ⟨ob_161, Tri.mono h (fun r1 σ1 q1 => L_aload_n dR_readTest_18 rfl (L_getF (b := 169) fw_R_44 rfl rfl (by decide) dR_readTest_19 ⟨ob_161, L_iload_n dR_readTest_22 rfl (L_iconst dR_readTest_23 in_1 (L_iadd dR_readTest_24 (L_iload_n dR_readTest_25 rfl (L_iastoreL (by decide) kd_169 dR_readTest_26 ⟨q1.1, fun σ2 e2 => L_iload_n dR_readTest_27 rfl (L_iconst dR_readTest_28 in_4 (L_icmp_ne dR_readTest_29 (by decide) ⟨fun c3 => ((q1.2 σ2 e2).1 c3), fun c3 => L_aload_n dR_readTest_32 rfl (L_getF (b := 169) fw_R_44 rfl rfl (by decide) dR_readTest_33 ⟨ob_161, L_iload_n dR_readTest_36 rfl (L_iconst dR_readTest_37 in_2 (L_iadd dR_readTest_38 (L_aload_n dR_readTest_39 rfl (L_iconst dR_readTest_40 in_0 (L_iconst dR_readTest_41 in_5 (L_callVI rfl cv_R_count (As := [vI 0, vI 5]) rfl (tk8 43 rfl rfl) rfl (Nat.le_of_ble_eq_true rfl) dR_readTest_42 ⟨ob_161, Tri.mono ((q1.2 σ2 e2).2 c3) (fun r4 σ4 q4 => L_iastoreL (by decide) kd_169 dR_readTest_45 ⟨q4.1, fun σ5 e5 => (q4.2 σ5 e5)⟩)⟩))))))⟩)⟩))⟩))))⟩))⟩
theorem s_R_readTest_46 {d : Nat} {x1 x2 : Int} {σ : SG} {Q : Int → SG → Prop} (h : (x2 = 4 → Tri d M_R_readSign [vA 161, vI x1] σ (fun r2 σ2 => Q 0 σ2)) ∧ (x2 ≠ 4 → (x2 ≠ 5 → (x2 ≠ 6 → Q 0 σ) ∧ (x2 = 6 → Tri d M_R_count [vA 161, vI 0, vI 3] σ (fun r5 σ5 => (0 ≤ w32 (x1 + 2) ∧ w32 (x1 + 2) < 300) ∧ (∀ σ6, σ6 = up σ5 169 (w32 (x1 + 2)) r5 → Q 0 σ6)))) ∧ (x2 = 5 → Tri d M_R_readSign [vA 161, vI x1] σ (fun r7 σ7 => Q 0 σ7)))) : L (d + 1) M_R_readTest 46 [vA 161, vI x1, vI x2] [] σ Q :=
  L_iload_n dR_readTest_46 rfl (L_iconst dR_readTest_47 in_4 (L_icmp_eq dR_readTest_48 (by decide) ⟨fun c1 => L_aload_n dR_readTest_56 rfl (L_iload_n dR_readTest_57 rfl (L_callVV rfl cv_R_readSign (As := [vI x1]) rfl (tk10 144 rfl rfl) rfl (Nat.le_of_ble_eq_true rfl) dR_readTest_58 ⟨ob_161, Tri.mono (h.1 c1) (fun r2 σ2 q2 => L_goto dR_readTest_61 (by decide) (L_return rfl dR_readTest_84 q2))⟩)), fun c1 => L_iload_n dR_readTest_51 rfl (L_iconst dR_readTest_52 in_5 (L_icmp_ne dR_readTest_53 (by decide) ⟨fun c3 => L_iload_n dR_readTest_64 rfl (L_bipush dR_readTest_65 bp_6 in_6 (L_icmp_ne dR_readTest_67 (by decide) ⟨fun c4 => L_return rfl dR_readTest_84 (((h.2 c1).1 c3).1 c4), fun c4 => L_aload_n dR_readTest_70 rfl (L_getF (b := 169) fw_R_44 rfl rfl (by decide) dR_readTest_71 ⟨ob_161, L_iload_n dR_readTest_74 rfl (L_iconst dR_readTest_75 in_2 (L_iadd dR_readTest_76 (L_aload_n dR_readTest_77 rfl (L_iconst dR_readTest_78 in_0 (L_iconst dR_readTest_79 in_3 (L_callVI rfl cv_R_count (As := [vI 0, vI 3]) rfl (tk8 43 rfl rfl) rfl (Nat.le_of_ble_eq_true rfl) dR_readTest_80 ⟨ob_161, Tri.mono (((h.2 c1).1 c3).2 c4) (fun r5 σ5 q5 => L_iastoreL (by decide) kd_169 dR_readTest_83 ⟨q5.1, fun σ6 e6 => L_return rfl dR_readTest_84 (q5.2 σ6 e6)⟩)⟩))))))⟩)⟩)), fun c3 => L_aload_n dR_readTest_56 rfl (L_iload_n dR_readTest_57 rfl (L_callVV rfl cv_R_readSign (As := [vI x1]) rfl (tk10 144 rfl rfl) rfl (Nat.le_of_ble_eq_true rfl) dR_readTest_58 ⟨ob_161, Tri.mono ((h.2 c1).2 c3) (fun r7 σ7 q7 => L_goto dR_readTest_61 (by decide) (L_return rfl dR_readTest_84 q7))⟩))⟩))⟩))
theorem dR_readRest_0 : decode prog_14_method_175_code 0 = .ok (.aload_n 0, 1) := by decide +kernel
theorem dR_readRest_1 : decode prog_14_method_175_code 1 = .ok (.getfield 44, 3) := by decide +kernel
theorem dR_readRest_4 : decode prog_14_method_175_code 4 = .ok (.iload_n 1, 1) := by decide +kernel
theorem dR_readRest_5 : decode prog_14_method_175_code 5 = .ok (.iaload, 1) := by decide +kernel
theorem dR_readRest_6 : decode prog_14_method_175_code 6 = .ok (.istore_n 2, 1) := by decide +kernel
theorem dR_readRest_7 : decode prog_14_method_175_code 7 = .ok (.iload_n 2, 1) := by decide +kernel
theorem dR_readRest_8 : decode prog_14_method_175_code 8 = .ok (.ifCond .ne 34, 3) := by decide +kernel
theorem dR_readRest_11 : decode prog_14_method_175_code 11 = .ok (.aload_n 0, 1) := by decide +kernel
theorem dR_readRest_12 : decode prog_14_method_175_code 12 = .ok (.getfield 44, 3) := by decide +kernel
theorem dR_readRest_15 : decode prog_14_method_175_code 15 = .ok (.iload_n 1, 1) := by decide +kernel
theorem dR_readRest_16 : decode prog_14_method_175_code 16 = .ok (.iconst 1, 1) := by decide +kernel
theorem dR_readRest_17 : decode prog_14_method_175_code 17 = .ok (.iadd, 1) := by decide +kernel
theorem dR_readRest_18 : decode prog_14_method_175_code 18 = .ok (.aload_n 0, 1) := by decide +kernel
theorem dR_readRest_19 : decode prog_14_method_175_code 19 = .ok (.iconst 0, 1) := by decide +kernel
theorem dR_readRest_20 : decode prog_14_method_175_code 20 = .ok (.iconst 4, 1) := by decide +kernel
theorem dR_readRest_21 : decode prog_14_method_175_code 21 = .ok (.invokevirtual 267, 3) := by decide +kernel
theorem dR_readRest_24 : decode prog_14_method_175_code 24 = .ok (.iastore, 1) := by decide +kernel
theorem dR_readRest_25 : decode prog_14_method_175_code 25 = .ok (.aload_n 0, 1) := by decide +kernel
theorem dR_readRest_26 : decode prog_14_method_175_code 26 = .ok (.getfield 44, 3) := by decide +kernel
theorem dR_readRest_29 : decode prog_14_method_175_code 29 = .ok (.iload_n 1, 1) := by decide +kernel
theorem dR_readRest_30 : decode prog_14_method_175_code 30 = .ok (.iconst 2, 1) := by decide +kernel
theorem dR_readRest_31 : decode prog_14_method_175_code 31 = .ok (.iadd, 1) := by decide +kernel
theorem dR_readRest_32 : decode prog_14_method_175_code 32 = .ok (.aload_n 0, 1) := by decide +kernel
theorem dR_readRest_33 : decode prog_14_method_175_code 33 = .ok (.iconst 0, 1) := by decide +kernel
theorem dR_readRest_34 : decode prog_14_method_175_code 34 = .ok (.iconst 4, 1) := by decide +kernel
theorem dR_readRest_35 : decode prog_14_method_175_code 35 = .ok (.invokevirtual 267, 3) := by decide +kernel
theorem dR_readRest_38 : decode prog_14_method_175_code 38 = .ok (.iastore, 1) := by decide +kernel
theorem dR_readRest_39 : decode prog_14_method_175_code 39 = .ok (.goto 173, 3) := by decide +kernel
theorem dR_readRest_42 : decode prog_14_method_175_code 42 = .ok (.iload_n 2, 1) := by decide +kernel
theorem dR_readRest_43 : decode prog_14_method_175_code 43 = .ok (.iconst 1, 1) := by decide +kernel
theorem dR_readRest_44 : decode prog_14_method_175_code 44 = .ok (.if_icmp .ne 43, 3) := by decide +kernel
theorem dR_readRest_47 : decode prog_14_method_175_code 47 = .ok (.aload_n 0, 1) := by decide +kernel
theorem dR_readRest_48 : decode prog_14_method_175_code 48 = .ok (.getfield 44, 3) := by decide +kernel
theorem dR_readRest_51 : decode prog_14_method_175_code 51 = .ok (.iload_n 1, 1) := by decide +kernel
theorem dR_readRest_52 : decode prog_14_method_175_code 52 = .ok (.iconst 1, 1) := by decide +kernel
theorem dR_readRest_53 : decode prog_14_method_175_code 53 = .ok (.iadd, 1) := by decide +kernel
theorem dR_readRest_54 : decode prog_14_method_175_code 54 = .ok (.aload_n 0, 1) := by decide +kernel
theorem dR_readRest_55 : decode prog_14_method_175_code 55 = .ok (.iconst 0, 1) := by decide +kernel
theorem dR_readRest_56 : decode prog_14_method_175_code 56 = .ok (.iconst 4, 1) := by decide +kernel
theorem dR_readRest_57 : decode prog_14_method_175_code 57 = .ok (.invokevirtual 267, 3) := by decide +kernel
theorem dR_readRest_60 : decode prog_14_method_175_code 60 = .ok (.iastore, 1) := by decide +kernel
theorem dR_readRest_61 : decode prog_14_method_175_code 61 = .ok (.aload_n 0, 1) := by decide +kernel
theorem dR_readRest_62 : decode prog_14_method_175_code 62 = .ok (.aload_n 0, 1) := by decide +kernel
theorem dR_readRest_63 : decode prog_14_method_175_code 63 = .ok (.invokevirtual 637, 3) := by decide +kernel
theorem dR_readRest_66 : decode prog_14_method_175_code 66 = .ok (.invokevirtual 273, 3) := by decide +kernel
theorem dR_readRest_69 : decode prog_14_method_175_code 69 = .ok (.aload_n 0, 1) := by decide +kernel
theorem dR_readRest_70 : decode prog_14_method_175_code 70 = .ok (.getfield 44, 3) := by decide +kernel
theorem dR_readRest_73 : decode prog_14_method_175_code 73 = .ok (.iload_n 1, 1) := by decide +kernel
theorem dR_readRest_74 : decode prog_14_method_175_code 74 = .ok (.iconst 2, 1) := by decide +kernel
theorem dR_readRest_75 : decode prog_14_method_175_code 75 = .ok (.iadd, 1) := by decide +kernel
theorem dR_readRest_76 : decode prog_14_method_175_code 76 = .ok (.aload_n 0, 1) := by decide +kernel
theorem dR_readRest_77 : decode prog_14_method_175_code 77 = .ok (.iconst 1, 1) := by decide +kernel
theorem dR_readRest_78 : decode prog_14_method_175_code 78 = .ok (.bipush 6, 2) := by decide +kernel
theorem dR_readRest_80 : decode prog_14_method_175_code 80 = .ok (.invokevirtual 267, 3) := by decide +kernel
theorem dR_readRest_83 : decode prog_14_method_175_code 83 = .ok (.iastore, 1) := by decide +kernel
theorem dR_readRest_84 : decode prog_14_method_175_code 84 = .ok (.goto 128, 3) := by decide +kernel
theorem dR_readRest_87 : decode prog_14_method_175_code 87 = .ok (.iload_n 2, 1) := by decide +kernel
theorem dR_readRest_88 : decode prog_14_method_175_code 88 = .ok (.iconst 2, 1) := by decide +kernel
theorem dR_readRest_89 : decode prog_14_method_175_code 89 = .ok (.if_icmp .ne 65, 3) := by decide +kernel
theorem dR_readRest_92 : decode prog_14_method_175_code 92 = .ok (.aload_n 0, 1) := by decide +kernel
theorem dR_readRest_93 : decode prog_14_method_175_code 93 = .ok (.getfield 44, 3) := by decide +kernel
theorem dR_readRest_96 : decode prog_14_method_175_code 96 = .ok (.iload_n 1, 1) := by decide +kernel
theorem dR_readRest_97 : decode prog_14_method_175_code 97 = .ok (.iconst 3, 1) := by decide +kernel
theorem dR_readRest_98 : decode prog_14_method_175_code 98 = .ok (.iadd, 1) := by decide +kernel
theorem dR_readRest_99 : decode prog_14_method_175_code 99 = .ok (.aload_n 0, 1) := by decide +kernel
theorem dR_readRest_100 : decode prog_14_method_175_code 100 = .ok (.iconst 0, 1) := by decide +kernel
theorem dR_readRest_101 : decode prog_14_method_175_code 101 = .ok (.bipush 6, 2) := by decide +kernel
theorem dR_readRest_103 : decode prog_14_method_175_code 103 = .ok (.invokevirtual 267, 3) := by decide +kernel
theorem dR_readRest_106 : decode prog_14_method_175_code 106 = .ok (.iastore, 1) := by decide +kernel
theorem dR_readRest_107 : decode prog_14_method_175_code 107 = .ok (.aload_n 0, 1) := by decide +kernel
theorem dR_readRest_108 : decode prog_14_method_175_code 108 = .ok (.aload_n 0, 1) := by decide +kernel
theorem dR_readRest_109 : decode prog_14_method_175_code 109 = .ok (.invokevirtual 280, 3) := by decide +kernel
theorem dR_readRest_112 : decode prog_14_method_175_code 112 = .ok (.invokevirtual 273, 3) := by decide +kernel
theorem dR_readRest_115 : decode prog_14_method_175_code 115 = .ok (.aload_n 0, 1) := by decide +kernel
theorem dR_readRest_116 : decode prog_14_method_175_code 116 = .ok (.getfield 44, 3) := by decide +kernel
theorem dR_readRest_119 : decode prog_14_method_175_code 119 = .ok (.iload_n 1, 1) := by decide +kernel
theorem dR_readRest_120 : decode prog_14_method_175_code 120 = .ok (.iconst 1, 1) := by decide +kernel
theorem dR_readRest_121 : decode prog_14_method_175_code 121 = .ok (.iadd, 1) := by decide +kernel
theorem dR_readRest_122 : decode prog_14_method_175_code 122 = .ok (.aload_n 0, 1) := by decide +kernel
theorem dR_readRest_123 : decode prog_14_method_175_code 123 = .ok (.iconst 0, 1) := by decide +kernel
theorem dR_readRest_124 : decode prog_14_method_175_code 124 = .ok (.iconst 4, 1) := by decide +kernel
theorem dR_readRest_125 : decode prog_14_method_175_code 125 = .ok (.invokevirtual 267, 3) := by decide +kernel
theorem dR_readRest_128 : decode prog_14_method_175_code 128 = .ok (.iastore, 1) := by decide +kernel
theorem dR_readRest_129 : decode prog_14_method_175_code 129 = .ok (.aload_n 0, 1) := by decide +kernel
theorem dR_readRest_130 : decode prog_14_method_175_code 130 = .ok (.aload_n 0, 1) := by decide +kernel
theorem dR_readRest_131 : decode prog_14_method_175_code 131 = .ok (.invokevirtual 640, 3) := by decide +kernel
theorem dR_readRest_134 : decode prog_14_method_175_code 134 = .ok (.invokevirtual 273, 3) := by decide +kernel
theorem dR_readRest_137 : decode prog_14_method_175_code 137 = .ok (.aload_n 0, 1) := by decide +kernel
theorem dR_readRest_138 : decode prog_14_method_175_code 138 = .ok (.getfield 44, 3) := by decide +kernel
theorem dR_readRest_141 : decode prog_14_method_175_code 141 = .ok (.iload_n 1, 1) := by decide +kernel
theorem dR_readRest_142 : decode prog_14_method_175_code 142 = .ok (.iconst 2, 1) := by decide +kernel
theorem dR_readRest_143 : decode prog_14_method_175_code 143 = .ok (.iadd, 1) := by decide +kernel
theorem dR_readRest_144 : decode prog_14_method_175_code 144 = .ok (.aload_n 0, 1) := by decide +kernel
theorem dR_readRest_145 : decode prog_14_method_175_code 145 = .ok (.iconst 0, 1) := by decide +kernel
theorem dR_readRest_146 : decode prog_14_method_175_code 146 = .ok (.iconst 4, 1) := by decide +kernel
theorem dR_readRest_147 : decode prog_14_method_175_code 147 = .ok (.invokevirtual 267, 3) := by decide +kernel
theorem dR_readRest_150 : decode prog_14_method_175_code 150 = .ok (.iastore, 1) := by decide +kernel
theorem dR_readRest_151 : decode prog_14_method_175_code 151 = .ok (.goto 61, 3) := by decide +kernel
theorem dR_readRest_154 : decode prog_14_method_175_code 154 = .ok (.iload_n 2, 1) := by decide +kernel
theorem dR_readRest_155 : decode prog_14_method_175_code 155 = .ok (.bipush 6, 2) := by decide +kernel
theorem dR_readRest_157 : decode prog_14_method_175_code 157 = .ok (.if_icmp .ge 20, 3) := by decide +kernel
theorem dR_readRest_160 : decode prog_14_method_175_code 160 = .ok (.aload_n 0, 1) := by decide +kernel
theorem dR_readRest_161 : decode prog_14_method_175_code 161 = .ok (.getfield 44, 3) := by decide +kernel
theorem dR_readRest_164 : decode prog_14_method_175_code 164 = .ok (.iload_n 1, 1) := by decide +kernel
theorem dR_readRest_165 : decode prog_14_method_175_code 165 = .ok (.iconst 1, 1) := by decide +kernel
theorem dR_readRest_166 : decode prog_14_method_175_code 166 = .ok (.iadd, 1) := by decide +kernel
theorem dR_readRest_167 : decode prog_14_method_175_code 167 = .ok (.aload_n 0, 1) := by decide +kernel
theorem dR_readRest_168 : decode prog_14_method_175_code 168 = .ok (.iconst 0, 1) := by decide +kernel
theorem dR_readRest_169 : decode prog_14_method_175_code 169 = .ok (.iconst 3, 1) := by decide +kernel
theorem dR_readRest_170 : decode prog_14_method_175_code 170 = .ok (.invokevirtual 267, 3) := by decide +kernel
theorem dR_readRest_173 : decode prog_14_method_175_code 173 = .ok (.iastore, 1) := by decide +kernel
theorem dR_readRest_174 : decode prog_14_method_175_code 174 = .ok (.goto 38, 3) := by decide +kernel
theorem dR_readRest_177 : decode prog_14_method_175_code 177 = .ok (.iload_n 2, 1) := by decide +kernel
theorem dR_readRest_178 : decode prog_14_method_175_code 178 = .ok (.bipush 6, 2) := by decide +kernel
theorem dR_readRest_180 : decode prog_14_method_175_code 180 = .ok (.if_icmp .ne 11, 3) := by decide +kernel
theorem dR_readRest_183 : decode prog_14_method_175_code 183 = .ok (.aload_n 0, 1) := by decide +kernel
theorem dR_readRest_184 : decode prog_14_method_175_code 184 = .ok (.iload_n 1, 1) := by decide +kernel
theorem dR_readRest_185 : decode prog_14_method_175_code 185 = .ok (.invokevirtual 643, 3) := by decide +kernel
theorem dR_readRest_188 : decode prog_14_method_175_code 188 = .ok (.goto 24, 3) := by decide +kernel
theorem dR_readRest_191 : decode prog_14_method_175_code 191 = .ok (.iload_n 2, 1) := by decide +kernel
theorem dR_readRest_192 : decode prog_14_method_175_code 192 = .ok (.bipush 7, 2) := by decide +kernel
theorem dR_readRest_194 : decode prog_14_method_175_code 194 = .ok (.if_icmp .ne 18, 3) := by decide +kernel
theorem dR_readRest_197 : decode prog_14_method_175_code 197 = .ok (.aload_n 0, 1) := by decide +kernel
theorem dR_readRest_198 : decode prog_14_method_175_code 198 = .ok (.getfield 44, 3) := by decide +kernel
theorem dR_readRest_201 : decode prog_14_method_175_code 201 = .ok (.iload_n 1, 1) := by decide +kernel
theorem dR_readRest_202 : decode prog_14_method_175_code 202 = .ok (.iconst 1, 1) := by decide +kernel
theorem dR_readRest_203 : decode prog_14_method_175_code 203 = .ok (.iadd, 1) := by decide +kernel
theorem dR_readRest_204 : decode prog_14_method_175_code 204 = .ok (.aload_n 0, 1) := by decide +kernel
theorem dR_readRest_205 : decode prog_14_method_175_code 205 = .ok (.iconst 1, 1) := by decide +kernel
theorem dR_readRest_206 : decode prog_14_method_175_code 206 = .ok (.bipush 99, 2) := by decide +kernel
theorem dR_readRest_208 : decode prog_14_method_175_code 208 = .ok (.invokevirtual 267, 3) := by decide +kernel
theorem dR_readRest_211 : decode prog_14_method_175_code 211 = .ok (.iastore, 1) := by decide +kernel
theorem dR_readRest_212 : decode prog_14_method_175_code 212 = .ok (.return_, 1) := by decide +kernel
theorem t_R_readRest {d : Nat} {x1 : Int} {σ : SG} {Q : Int → SG → Prop} (h : inI x1 → ((0 ≤ x1 ∧ x1 < 300) ∧ (σ 169 x1 ≠ 0 → (σ 169 x1 ≠ 1 → (σ 169 x1 ≠ 2 → (6 ≤ σ 169 x1 → (σ 169 x1 ≠ 6 → (σ 169 x1 ≠ 7 → Q 0 σ) ∧ (σ 169 x1 = 7 → Tri d M_R_count [vA 161, vI 1, vI 99] σ (fun r7 σ7 => (0 ≤ w32 (x1 + 1) ∧ w32 (x1 + 1) < 300) ∧ (∀ σ8, σ8 = up σ7 169 (w32 (x1 + 1)) r7 → Q 0 σ8)))) ∧ (σ 169 x1 = 6 → Tri d M_R_readTest [vA 161, vI x1] σ (fun r9 σ9 => Q 0 σ9))) ∧ (σ 169 x1 < 6 → Tri d M_R_count [vA 161, vI 0, vI 3] σ (fun r10 σ10 => (0 ≤ w32 (x1 + 1) ∧ w32 (x1 + 1) < 300) ∧ (∀ σ11, σ11 = up σ10 169 (w32 (x1 + 1)) r10 → Q 0 σ11)))) ∧ (σ 169 x1 = 2 → Tri d M_R_count [vA 161, vI 0, vI 6] σ (fun r12 σ12 => (0 ≤ w32 (x1 + 3) ∧ w32 (x1 + 3) < 300) ∧ (∀ σ13, σ13 = up σ12 169 (w32 (x1 + 3)) r12 → Tri d M_R_isOf [vA 161] σ13 (fun r14 σ14 => Tri d M_R_must [vA 161, vI r14] σ14 (fun r15 σ15 => Tri d M_R_count [vA 161, vI 0, vI 4] σ15 (fun r16 σ16 => (0 ≤ w32 (x1 + 1) ∧ w32 (x1 + 1) < 300) ∧ (∀ σ17, σ17 = up σ16 169 (w32 (x1 + 1)) r16 → Tri d M_R_isTo [vA 161] σ17 (fun r18 σ18 => Tri d M_R_must [vA 161, vI r18] σ18 (fun r19 σ19 => Tri d M_R_count [vA 161, vI 0, vI 4] σ19 (fun r20 σ20 => (0 ≤ w32 (x1 + 2) ∧ w32 (x1 + 2) < 300) ∧ (∀ σ21, σ21 = up σ20 169 (w32 (x1 + 2)) r20 → Q 0 σ21)))))))))))) ∧ (σ 169 x1 = 1 → Tri d M_R_count [vA 161, vI 0, vI 4] σ (fun r22 σ22 => (0 ≤ w32 (x1 + 1) ∧ w32 (x1 + 1) < 300) ∧ (∀ σ23, σ23 = up σ22 169 (w32 (x1 + 1)) r22 → Tri d M_R_isBy [vA 161] σ23 (fun r24 σ24 => Tri d M_R_must [vA 161, vI r24] σ24 (fun r25 σ25 => Tri d M_R_count [vA 161, vI 1, vI 6] σ25 (fun r26 σ26 => (0 ≤ w32 (x1 + 2) ∧ w32 (x1 + 2) < 300) ∧ (∀ σ27, σ27 = up σ26 169 (w32 (x1 + 2)) r26 → Q 0 σ27)))))))) ∧ (σ 169 x1 = 0 → Tri d M_R_count [vA 161, vI 0, vI 4] σ (fun r28 σ28 => (0 ≤ w32 (x1 + 1) ∧ w32 (x1 + 1) < 300) ∧ (∀ σ29, σ29 = up σ28 169 (w32 (x1 + 1)) r28 → Tri d M_R_count [vA 161, vI 0, vI 4] σ29 (fun r30 σ30 => (0 ≤ w32 (x1 + 2) ∧ w32 (x1 + 2) < 300) ∧ (∀ σ31, σ31 = up σ30 169 (w32 (x1 + 2)) r30 → Q 0 σ31))))))) : Tri (d + 1) M_R_readRest [vA 161, vI x1] σ Q :=
  Tri_intro rfl (Nat.le_of_ble_eq_true rfl) (ls := [vA 161, vI x1, vU]) rfl (fun hok => L_aload_n dR_readRest_0 rfl (L_getF (b := 169) fw_R_44 rfl rfl (by decide) dR_readRest_1 ⟨ob_161, L_iload_n dR_readRest_4 rfl (L_ialoadL kd_169 dR_readRest_5 ⟨(h (hok _ (List.mem_of_getElem? (i := 1) rfl))).1, L_istore_n dR_readRest_6 (by decide) (L_iload_n dR_readRest_7 rfl (L_if_ne dR_readRest_8 (by decide) ⟨fun c1 => L_iload_n dR_readRest_42 rfl (L_iconst dR_readRest_43 in_1 (L_icmp_ne dR_readRest_44 (by decide) ⟨fun c2 => L_iload_n dR_readRest_87 rfl (L_iconst dR_readRest_88 in_2 (L_icmp_ne dR_readRest_89 (by decide) ⟨fun c3 => L_iload_n dR_readRest_154 rfl (L_bipush dR_readRest_155 bp_6 in_6 (L_icmp_ge dR_readRest_157 (by decide) ⟨fun c4 => L_iload_n dR_readRest_177 rfl (L_bipush dR_readRest_178 bp_6 in_6 (L_icmp_ne dR_readRest_180 (by decide) ⟨fun c5 => L_iload_n dR_readRest_191 rfl (L_bipush dR_readRest_192 bp_7 in_7 (L_icmp_ne dR_readRest_194 (by decide) ⟨fun c6 => L_return rfl dR_readRest_212 (((((((h (hok _ (List.mem_of_getElem? (i := 1) rfl))).2.1 c1).1 c2).1 c3).1 c4).1 c5).1 c6), fun c6 => L_aload_n dR_readRest_197 rfl (L_getF (b := 169) fw_R_44 rfl rfl (by decide) dR_readRest_198 ⟨ob_161, L_iload_n dR_readRest_201 rfl (L_iconst dR_readRest_202 in_1 (L_iadd dR_readRest_203 (L_aload_n dR_readRest_204 rfl (L_iconst dR_readRest_205 in_1 (L_bipush dR_readRest_206 bp_99 in_99 (L_callVI rfl cv_R_count (As := [vI 1, vI 99]) rfl (tk8 43 rfl rfl) rfl (Nat.le_of_ble_eq_true rfl) dR_readRest_208 ⟨ob_161, Tri.mono (((((((h (hok _ (List.mem_of_getElem? (i := 1) rfl))).2.1 c1).1 c2).1 c3).1 c4).1 c5).2 c6) (fun r7 σ7 q7 => L_iastoreL (by decide) kd_169 dR_readRest_211 ⟨q7.1, fun σ8 e8 => L_return rfl dR_readRest_212 (q7.2 σ8 e8)⟩)⟩))))))⟩)⟩)), fun c5 => L_aload_n dR_readRest_183 rfl (L_iload_n dR_readRest_184 rfl (L_callVV rfl cv_R_readTest (As := [vI x1]) rfl (tk10 136 rfl rfl) rfl (Nat.le_of_ble_eq_true rfl) dR_readRest_185 ⟨ob_161, Tri.mono ((((((h (hok _ (List.mem_of_getElem? (i := 1) rfl))).2.1 c1).1 c2).1 c3).1 c4).2 c5) (fun r9 σ9 q9 => L_goto dR_readRest_188 (by decide) (L_return rfl dR_readRest_212 q9))⟩))⟩)), fun c4 => L_aload_n dR_readRest_160 rfl (L_getF (b := 169) fw_R_44 rfl rfl (by decide) dR_readRest_161 ⟨ob_161, L_iload_n dR_readRest_164 rfl (L_iconst dR_readRest_165 in_1 (L_iadd dR_readRest_166 (L_aload_n dR_readRest_167 rfl (L_iconst dR_readRest_168 in_0 (L_iconst dR_readRest_169 in_3 (L_callVI rfl cv_R_count (As := [vI 0, vI 3]) rfl (tk8 43 rfl rfl) rfl (Nat.le_of_ble_eq_true rfl) dR_readRest_170 ⟨ob_161, Tri.mono (((((h (hok _ (List.mem_of_getElem? (i := 1) rfl))).2.1 c1).1 c2).1 c3).2 c4) (fun r10 σ10 q10 => L_iastoreL (by decide) kd_169 dR_readRest_173 ⟨q10.1, fun σ11 e11 => L_goto dR_readRest_174 (by decide) (L_return rfl dR_readRest_212 (q10.2 σ11 e11))⟩)⟩))))))⟩)⟩)), fun c3 => L_aload_n dR_readRest_92 rfl (L_getF (b := 169) fw_R_44 rfl rfl (by decide) dR_readRest_93 ⟨ob_161, L_iload_n dR_readRest_96 rfl (L_iconst dR_readRest_97 in_3 (L_iadd dR_readRest_98 (L_aload_n dR_readRest_99 rfl (L_iconst dR_readRest_100 in_0 (L_bipush dR_readRest_101 bp_6 in_6 (L_callVI rfl cv_R_count (As := [vI 0, vI 6]) rfl (tk8 43 rfl rfl) rfl (Nat.le_of_ble_eq_true rfl) dR_readRest_103 ⟨ob_161, Tri.mono ((((h (hok _ (List.mem_of_getElem? (i := 1) rfl))).2.1 c1).1 c2).2 c3) (fun r12 σ12 q12 => L_iastoreL (by decide) kd_169 dR_readRest_106 ⟨q12.1, fun σ13 e13 => L_aload_n dR_readRest_107 rfl (L_aload_n dR_readRest_108 rfl (L_callVI rfl cv_R_isOf (As := []) rfl (tk8 86 rfl rfl) rfl (Nat.le_of_ble_eq_true rfl) dR_readRest_109 ⟨ob_161, Tri.mono (q12.2 σ13 e13) (fun r14 σ14 q14 => L_callVV rfl cv_R_must (As := [vI r14]) rfl (tk8 27 rfl rfl) rfl (Nat.le_of_ble_eq_true rfl) dR_readRest_112 ⟨ob_161, Tri.mono q14 (fun r15 σ15 q15 => L_aload_n dR_readRest_115 rfl (L_getF (b := 169) fw_R_44 rfl rfl (by decide) dR_readRest_116 ⟨ob_161, L_iload_n dR_readRest_119 rfl (L_iconst dR_readRest_120 in_1 (L_iadd dR_readRest_121 (L_aload_n dR_readRest_122 rfl (L_iconst dR_readRest_123 in_0 (L_iconst dR_readRest_124 in_4 (L_callVI rfl cv_R_count (As := [vI 0, vI 4]) rfl (tk8 43 rfl rfl) rfl (Nat.le_of_ble_eq_true rfl) dR_readRest_125 ⟨ob_161, Tri.mono q15 (fun r16 σ16 q16 => L_iastoreL (by decide) kd_169 dR_readRest_128 ⟨q16.1, fun σ17 e17 => L_aload_n dR_readRest_129 rfl (L_aload_n dR_readRest_130 rfl (L_callVI rfl cv_R_isTo (As := []) rfl (tk10 132 rfl rfl) rfl (Nat.le_of_ble_eq_true rfl) dR_readRest_131 ⟨ob_161, Tri.mono (q16.2 σ17 e17) (fun r18 σ18 q18 => L_callVV rfl cv_R_must (As := [vI r18]) rfl (tk8 27 rfl rfl) rfl (Nat.le_of_ble_eq_true rfl) dR_readRest_134 ⟨ob_161, Tri.mono q18 (fun r19 σ19 q19 => L_aload_n dR_readRest_137 rfl (L_getF (b := 169) fw_R_44 rfl rfl (by decide) dR_readRest_138 ⟨ob_161, L_iload_n dR_readRest_141 rfl (L_iconst dR_readRest_142 in_2 (L_iadd dR_readRest_143 (L_aload_n dR_readRest_144 rfl (L_iconst dR_readRest_145 in_0 (L_iconst dR_readRest_146 in_4 (L_callVI rfl cv_R_count (As := [vI 0, vI 4]) rfl (tk8 43 rfl rfl) rfl (Nat.le_of_ble_eq_true rfl) dR_readRest_147 ⟨ob_161, Tri.mono q19 (fun r20 σ20 q20 => L_iastoreL (by decide) kd_169 dR_readRest_150 ⟨q20.1, fun σ21 e21 => L_goto dR_readRest_151 (by decide) (L_return rfl dR_readRest_212 (q20.2 σ21 e21))⟩)⟩))))))⟩))⟩)⟩))⟩)⟩))))))⟩))⟩)⟩))⟩)⟩))))))⟩)⟩)), fun c2 => L_aload_n dR_readRest_47 rfl (L_getF (b := 169) fw_R_44 rfl rfl (by decide) dR_readRest_48 ⟨ob_161, L_iload_n dR_readRest_51 rfl (L_iconst dR_readRest_52 in_1 (L_iadd dR_readRest_53 (L_aload_n dR_readRest_54 rfl (L_iconst dR_readRest_55 in_0 (L_iconst dR_readRest_56 in_4 (L_callVI rfl cv_R_count (As := [vI 0, vI 4]) rfl (tk8 43 rfl rfl) rfl (Nat.le_of_ble_eq_true rfl) dR_readRest_57 ⟨ob_161, Tri.mono (((h (hok _ (List.mem_of_getElem? (i := 1) rfl))).2.1 c1).2 c2) (fun r22 σ22 q22 => L_iastoreL (by decide) kd_169 dR_readRest_60 ⟨q22.1, fun σ23 e23 => L_aload_n dR_readRest_61 rfl (L_aload_n dR_readRest_62 rfl (L_callVI rfl cv_R_isBy (As := []) rfl (tk10 128 rfl rfl) rfl (Nat.le_of_ble_eq_true rfl) dR_readRest_63 ⟨ob_161, Tri.mono (q22.2 σ23 e23) (fun r24 σ24 q24 => L_callVV rfl cv_R_must (As := [vI r24]) rfl (tk8 27 rfl rfl) rfl (Nat.le_of_ble_eq_true rfl) dR_readRest_66 ⟨ob_161, Tri.mono q24 (fun r25 σ25 q25 => L_aload_n dR_readRest_69 rfl (L_getF (b := 169) fw_R_44 rfl rfl (by decide) dR_readRest_70 ⟨ob_161, L_iload_n dR_readRest_73 rfl (L_iconst dR_readRest_74 in_2 (L_iadd dR_readRest_75 (L_aload_n dR_readRest_76 rfl (L_iconst dR_readRest_77 in_1 (L_bipush dR_readRest_78 bp_6 in_6 (L_callVI rfl cv_R_count (As := [vI 1, vI 6]) rfl (tk8 43 rfl rfl) rfl (Nat.le_of_ble_eq_true rfl) dR_readRest_80 ⟨ob_161, Tri.mono q25 (fun r26 σ26 q26 => L_iastoreL (by decide) kd_169 dR_readRest_83 ⟨q26.1, fun σ27 e27 => L_goto dR_readRest_84 (by decide) (L_return rfl dR_readRest_212 (q26.2 σ27 e27))⟩)⟩))))))⟩))⟩)⟩))⟩)⟩))))))⟩)⟩)), fun c1 => L_aload_n dR_readRest_11 rfl (L_getF (b := 169) fw_R_44 rfl rfl (by decide) dR_readRest_12 ⟨ob_161, L_iload_n dR_readRest_15 rfl (L_iconst dR_readRest_16 in_1 (L_iadd dR_readRest_17 (L_aload_n dR_readRest_18 rfl (L_iconst dR_readRest_19 in_0 (L_iconst dR_readRest_20 in_4 (L_callVI rfl cv_R_count (As := [vI 0, vI 4]) rfl (tk8 43 rfl rfl) rfl (Nat.le_of_ble_eq_true rfl) dR_readRest_21 ⟨ob_161, Tri.mono ((h (hok _ (List.mem_of_getElem? (i := 1) rfl))).2.2 c1) (fun r28 σ28 q28 => L_iastoreL (by decide) kd_169 dR_readRest_24 ⟨q28.1, fun σ29 e29 => L_aload_n dR_readRest_25 rfl (L_getF (b := 169) fw_R_44 rfl rfl (by decide) dR_readRest_26 ⟨ob_161, L_iload_n dR_readRest_29 rfl (L_iconst dR_readRest_30 in_2 (L_iadd dR_readRest_31 (L_aload_n dR_readRest_32 rfl (L_iconst dR_readRest_33 in_0 (L_iconst dR_readRest_34 in_4 (L_callVI rfl cv_R_count (As := [vI 0, vI 4]) rfl (tk8 43 rfl rfl) rfl (Nat.le_of_ble_eq_true rfl) dR_readRest_35 ⟨ob_161, Tri.mono (q28.2 σ29 e29) (fun r30 σ30 q30 => L_iastoreL (by decide) kd_169 dR_readRest_38 ⟨q30.1, fun σ31 e31 => L_goto dR_readRest_39 (by decide) (L_return rfl dR_readRest_212 (q30.2 σ31 e31))⟩)⟩))))))⟩)⟩)⟩))))))⟩)⟩))⟩)⟩))
theorem dR_readStep_0 : decode prog_14_method_176_code 0 = .ok (.aload_n 0, 1) := by decide +kernel
theorem dR_readStep_1 : decode prog_14_method_176_code 1 = .ok (.invokevirtual 646, 3) := by decide +kernel
theorem dR_readStep_4 : decode prog_14_method_176_code 4 = .ok (.istore_n 2, 1) := by decide +kernel
theorem dR_readStep_5 : decode prog_14_method_176_code 5 = .ok (.iload_n 2, 1) := by decide +kernel
theorem dR_readStep_6 : decode prog_14_method_176_code 6 = .ok (.bipush 6, 2) := by decide +kernel
theorem dR_readStep_8 : decode prog_14_method_176_code 8 = .ok (.if_icmp .eq 9, 3) := by decide +kernel
theorem dR_readStep_11 : decode prog_14_method_176_code 11 = .ok (.iload_n 2, 1) := by decide +kernel
theorem dR_readStep_12 : decode prog_14_method_176_code 12 = .ok (.bipush 7, 2) := by decide +kernel
theorem dR_readStep_14 : decode prog_14_method_176_code 14 = .ok (.if_icmp .ne 7, 3) := by decide +kernel
theorem dR_readStep_17 : decode prog_14_method_176_code 17 = .ok (.iconst 1, 1) := by decide +kernel
theorem dR_readStep_18 : decode prog_14_method_176_code 18 = .ok (.goto 4, 3) := by decide +kernel
theorem dR_readStep_21 : decode prog_14_method_176_code 21 = .ok (.iconst 0, 1) := by decide +kernel
theorem dR_readStep_22 : decode prog_14_method_176_code 22 = .ok (.istore_n 3, 1) := by decide +kernel
theorem dR_readStep_23 : decode prog_14_method_176_code 23 = .ok (.iload_n 2, 1) := by decide +kernel
theorem dR_readStep_24 : decode prog_14_method_176_code 24 = .ok (.ifCond .ge 7, 3) := by decide +kernel
theorem dR_readStep_27 : decode prog_14_method_176_code 27 = .ok (.aload_n 0, 1) := by decide +kernel
theorem dR_readStep_28 : decode prog_14_method_176_code 28 = .ok (.invokevirtual 234, 3) := by decide +kernel
theorem dR_readStep_31 : decode prog_14_method_176_code 31 = .ok (.aload_n 0, 1) := by decide +kernel
theorem dR_readStep_32 : decode prog_14_method_176_code 32 = .ok (.getfield 221, 3) := by decide +kernel
theorem dR_readStep_35 : decode prog_14_method_176_code 35 = .ok (.ifCond .ne 22, 3) := by decide +kernel
theorem dR_readStep_38 : decode prog_14_method_176_code 38 = .ok (.aload_n 0, 1) := by decide +kernel
theorem dR_readStep_39 : decode prog_14_method_176_code 39 = .ok (.getfield 649, 3) := by decide +kernel
theorem dR_readStep_42 : decode prog_14_method_176_code 42 = .ok (.bipush 30, 2) := by decide +kernel
theorem dR_readStep_44 : decode prog_14_method_176_code 44 = .ok (.if_icmp .ne 13, 3) := by decide +kernel
theorem dR_readStep_47 : decode prog_14_method_176_code 47 = .ok (.aload_n 0, 1) := by decide +kernel
theorem dR_readStep_48 : decode prog_14_method_176_code 48 = .ok (.bipush 6, 2) := by decide +kernel
theorem dR_readStep_50 : decode prog_14_method_176_code 50 = .ok (.aload_n 0, 1) := by decide +kernel
theorem dR_readStep_51 : decode prog_14_method_176_code 51 = .ok (.getfield 177, 3) := by decide +kernel
theorem dR_readStep_54 : decode prog_14_method_176_code 54 = .ok (.invokevirtual 227, 3) := by decide +kernel
theorem dR_readStep_57 : decode prog_14_method_176_code 57 = .ok (.aload_n 0, 1) := by decide +kernel
theorem dR_readStep_58 : decode prog_14_method_176_code 58 = .ok (.getfield 221, 3) := by decide +kernel
theorem dR_readStep_61 : decode prog_14_method_176_code 61 = .ok (.ifCond .ne 22, 3) := by decide +kernel
theorem dR_readStep_64 : decode prog_14_method_176_code 64 = .ok (.iload_n 3, 1) := by decide +kernel
theorem dR_readStep_65 : decode prog_14_method_176_code 65 = .ok (.ifCond .eq 18, 3) := by decide +kernel
theorem dR_readStep_68 : decode prog_14_method_176_code 68 = .ok (.iload_n 1, 1) := by decide +kernel
theorem dR_readStep_69 : decode prog_14_method_176_code 69 = .ok (.iconst 3, 1) := by decide +kernel
theorem dR_readStep_70 : decode prog_14_method_176_code 70 = .ok (.if_icmp .ne 13, 3) := by decide +kernel
theorem dR_readStep_73 : decode prog_14_method_176_code 73 = .ok (.aload_n 0, 1) := by decide +kernel
theorem dR_readStep_74 : decode prog_14_method_176_code 74 = .ok (.bipush 7, 2) := by decide +kernel
theorem dR_readStep_76 : decode prog_14_method_176_code 76 = .ok (.aload_n 0, 1) := by decide +kernel
theorem dR_readStep_77 : decode prog_14_method_176_code 77 = .ok (.getfield 177, 3) := by decide +kernel
theorem dR_readStep_80 : decode prog_14_method_176_code 80 = .ok (.invokevirtual 227, 3) := by decide +kernel
theorem dR_readStep_83 : decode prog_14_method_176_code 83 = .ok (.aload_n 0, 1) := by decide +kernel
theorem dR_readStep_84 : decode prog_14_method_176_code 84 = .ok (.getfield 221, 3) := by decide +kernel
theorem dR_readStep_87 : decode prog_14_method_176_code 87 = .ok (.ifCond .le 4, 3) := by decide +kernel
theorem dR_readStep_90 : decode prog_14_method_176_code 90 = .ok (.return_, 1) := by decide +kernel
theorem dR_readStep_91 : decode prog_14_method_176_code 91 = .ok (.bipush 7, 2) := by decide +kernel
theorem dR_readStep_93 : decode prog_14_method_176_code 93 = .ok (.aload_n 0, 1) := by decide +kernel
theorem dR_readStep_94 : decode prog_14_method_176_code 94 = .ok (.getfield 649, 3) := by decide +kernel
theorem dR_readStep_97 : decode prog_14_method_176_code 97 = .ok (.imul, 1) := by decide +kernel
theorem dR_readStep_98 : decode prog_14_method_176_code 98 = .ok (.istore 4, 2) := by decide +kernel
theorem dR_readStep_100 : decode prog_14_method_176_code 100 = .ok (.aload_n 0, 1) := by decide +kernel
theorem dR_readStep_101 : decode prog_14_method_176_code 101 = .ok (.dup, 1) := by decide +kernel
theorem dR_readStep_102 : decode prog_14_method_176_code 102 = .ok (.getfield 649, 3) := by decide +kernel
theorem dR_readStep_105 : decode prog_14_method_176_code 105 = .ok (.iconst 1, 1) := by decide +kernel
theorem dR_readStep_106 : decode prog_14_method_176_code 106 = .ok (.iadd, 1) := by decide +kernel
theorem dR_readStep_107 : decode prog_14_method_176_code 107 = .ok (.putfield 649, 3) := by decide +kernel
theorem dR_readStep_110 : decode prog_14_method_176_code 110 = .ok (.aload_n 0, 1) := by decide +kernel
theorem dR_readStep_111 : decode prog_14_method_176_code 111 = .ok (.invokevirtual 231, 3) := by decide +kernel
theorem dR_readStep_114 : decode prog_14_method_176_code 114 = .ok (.aload_n 0, 1) := by decide +kernel
theorem dR_readStep_115 : decode prog_14_method_176_code 115 = .ok (.getfield 44, 3) := by decide +kernel
theorem dR_readStep_118 : decode prog_14_method_176_code 118 = .ok (.iload 4, 2) := by decide +kernel
theorem dR_readStep_120 : decode prog_14_method_176_code 120 = .ok (.iload_n 2, 1) := by decide +kernel
theorem dR_readStep_121 : decode prog_14_method_176_code 121 = .ok (.iastore, 1) := by decide +kernel
theorem dR_readStep_122 : decode prog_14_method_176_code 122 = .ok (.aload_n 0, 1) := by decide +kernel
theorem dR_readStep_123 : decode prog_14_method_176_code 123 = .ok (.iload 4, 2) := by decide +kernel
theorem dR_readStep_125 : decode prog_14_method_176_code 125 = .ok (.invokevirtual 652, 3) := by decide +kernel
theorem dR_readStep_128 : decode prog_14_method_176_code 128 = .ok (.aload_n 0, 1) := by decide +kernel
theorem dR_readStep_129 : decode prog_14_method_176_code 129 = .ok (.aload_n 0, 1) := by decide +kernel
theorem dR_readStep_130 : decode prog_14_method_176_code 130 = .ok (.bipush 59, 2) := by decide +kernel
theorem dR_readStep_132 : decode prog_14_method_176_code 132 = .ok (.invokevirtual 297, 3) := by decide +kernel
theorem dR_readStep_135 : decode prog_14_method_176_code 135 = .ok (.invokevirtual 273, 3) := by decide +kernel
theorem dR_readStep_138 : decode prog_14_method_176_code 138 = .ok (.iload_n 3, 1) := by decide +kernel
theorem dR_readStep_139 : decode prog_14_method_176_code 139 = .ok (.ifCond .eq 27, 3) := by decide +kernel
theorem dR_readStep_142 : decode prog_14_method_176_code 142 = .ok (.aload_n 0, 1) := by decide +kernel
theorem dR_readStep_143 : decode prog_14_method_176_code 143 = .ok (.getfield 221, 3) := by decide +kernel
theorem dR_readStep_146 : decode prog_14_method_176_code 146 = .ok (.ifCond .ne 20, 3) := by decide +kernel
theorem dR_readStep_149 : decode prog_14_method_176_code 149 = .ok (.aload_n 0, 1) := by decide +kernel
theorem dR_readStep_150 : decode prog_14_method_176_code 150 = .ok (.invokevirtual 655, 3) := by decide +kernel
theorem dR_readStep_153 : decode prog_14_method_176_code 153 = .ok (.ifCond .ne 13, 3) := by decide +kernel
theorem dR_readStep_156 : decode prog_14_method_176_code 156 = .ok (.aload_n 0, 1) := by decide +kernel
theorem dR_readStep_157 : decode prog_14_method_176_code 157 = .ok (.iload_n 1, 1) := by decide +kernel
theorem dR_readStep_158 : decode prog_14_method_176_code 158 = .ok (.iconst 1, 1) := by decide +kernel
theorem dR_readStep_159 : decode prog_14_method_176_code 159 = .ok (.iadd, 1) := by decide +kernel
theorem dR_readStep_160 : decode prog_14_method_176_code 160 = .ok (.invokevirtual 658, 3) := by decide +kernel
theorem dR_readStep_163 : decode prog_14_method_176_code 163 = .ok (.goto (-25), 3) := by decide +kernel
theorem dR_readStep_166 : decode prog_14_method_176_code 166 = .ok (.iload_n 3, 1) := by decide +kernel
theorem dR_readStep_167 : decode prog_14_method_176_code 167 = .ok (.ifCond .eq 21, 3) := by decide +kernel
theorem dR_readStep_170 : decode prog_14_method_176_code 170 = .ok (.aload_n 0, 1) := by decide +kernel
theorem dR_readStep_171 : decode prog_14_method_176_code 171 = .ok (.aload_n 0, 1) := by decide +kernel
theorem dR_readStep_172 : decode prog_14_method_176_code 172 = .ok (.invokevirtual 655, 3) := by decide +kernel
theorem dR_readStep_175 : decode prog_14_method_176_code 175 = .ok (.invokevirtual 273, 3) := by decide +kernel
theorem dR_readStep_178 : decode prog_14_method_176_code 178 = .ok (.aload_n 0, 1) := by decide +kernel
theorem dR_readStep_179 : decode prog_14_method_176_code 179 = .ok (.aload_n 0, 1) := by decide +kernel
theorem dR_readStep_180 : decode prog_14_method_176_code 180 = .ok (.bipush 59, 2) := by decide +kernel
theorem dR_readStep_182 : decode prog_14_method_176_code 182 = .ok (.invokevirtual 297, 3) := by decide +kernel
theorem dR_readStep_185 : decode prog_14_method_176_code 185 = .ok (.invokevirtual 273, 3) := by decide +kernel
theorem dR_readStep_188 : decode prog_14_method_176_code 188 = .ok (.aload_n 0, 1) := by decide +kernel
theorem dR_readStep_189 : decode prog_14_method_176_code 189 = .ok (.getfield 44, 3) := by decide +kernel
theorem dR_readStep_192 : decode prog_14_method_176_code 192 = .ok (.iload 4, 2) := by decide +kernel
theorem dR_readStep_194 : decode prog_14_method_176_code 194 = .ok (.bipush 6, 2) := by decide +kernel
theorem dR_readStep_196 : decode prog_14_method_176_code 196 = .ok (.iadd, 1) := by decide +kernel
theorem dR_readStep_197 : decode prog_14_method_176_code 197 = .ok (.aload_n 0, 1) := by decide +kernel
theorem dR_readStep_198 : decode prog_14_method_176_code 198 = .ok (.getfield 649, 3) := by decide +kernel
theorem dR_readStep_201 : decode prog_14_method_176_code 201 = .ok (.iastore, 1) := by decide +kernel
theorem dR_readStep_202 : decode prog_14_method_176_code 202 = .ok (.return_, 1) := by decide +kernel
theorem t_R_readStep {d : Nat} {x1 : Int} {σ : SG} {Q : Int → SG → Prop} (h : inI x1 → (Tri d M_R_stepWord [vA 161] σ (fun r1 σ1 => (r1 = 6 → (0 ≤ r1 → L (d + 1) M_R_readStep 31 [vA 161, vI x1, vI r1, vI 1, vU] [] σ1 Q) ∧ (r1 < 0 → Tri d M_R_wrong [vA 161] σ1 (fun r4 σ4 => L (d + 1) M_R_readStep 31 [vA 161, vI x1, vI r1, vI 1, vU] [] σ4 Q))) ∧ (r1 ≠ 6 → (r1 ≠ 7 → (0 ≤ r1 → L (d + 1) M_R_readStep 31 [vA 161, vI x1, vI r1, vI 0, vU] [] σ1 Q) ∧ (r1 < 0 → Tri d M_R_wrong [vA 161] σ1 (fun r7 σ7 => L (d + 1) M_R_readStep 31 [vA 161, vI x1, vI r1, vI 0, vU] [] σ7 Q))) ∧ (r1 = 7 → (0 ≤ r1 → L (d + 1) M_R_readStep 31 [vA 161, vI x1, vI r1, vI 1, vU] [] σ1 Q) ∧ (r1 < 0 → Tri d M_R_wrong [vA 161] σ1 (fun r9 σ9 => L (d + 1) M_R_readStep 31 [vA 161, vI x1, vI r1, vI 1, vU] [] σ9 Q))))))) : Tri (d + 1) M_R_readStep [vA 161, vI x1] σ Q :=
  Tri_intro rfl (Nat.le_of_ble_eq_true rfl) (ls := [vA 161, vI x1, vU, vU, vU]) rfl (fun hok => L_aload_n dR_readStep_0 rfl (L_callVI rfl cv_R_stepWord (As := []) rfl (tk10 120 rfl rfl) rfl (Nat.le_of_ble_eq_true rfl) dR_readStep_1 ⟨ob_161, Tri.mono ((h (hok _ (List.mem_of_getElem? (i := 1) rfl)))) (fun r1 σ1 q1 => L_istore_n dR_readStep_4 (by decide) (L_iload_n dR_readStep_5 rfl (L_bipush dR_readStep_6 bp_6 in_6 (L_icmp_eq dR_readStep_8 (by decide) ⟨fun c2 => L_iconst dR_readStep_17 in_1 (L_goto dR_readStep_18 (by decide) (L_istore_n dR_readStep_22 (by decide) (L_iload_n dR_readStep_23 rfl (L_if_ge dR_readStep_24 (by decide) ⟨fun c3 => ((q1.1 c2).1 c3), fun c3 => L_aload_n dR_readStep_27 rfl (L_callVV rfl cv_R_wrong (As := []) rfl (tk8 31 rfl rfl) rfl (Nat.le_of_ble_eq_true rfl) dR_readStep_28 ⟨ob_161, Tri.mono ((q1.1 c2).2 c3) (fun r4 σ4 q4 => q4)⟩)⟩)))), fun c2 => L_iload_n dR_readStep_11 rfl (L_bipush dR_readStep_12 bp_7 in_7 (L_icmp_ne dR_readStep_14 (by decide) ⟨fun c5 => L_iconst dR_readStep_21 in_0 (L_istore_n dR_readStep_22 (by decide) (L_iload_n dR_readStep_23 rfl (L_if_ge dR_readStep_24 (by decide) ⟨fun c6 => (((q1.2 c2).1 c5).1 c6), fun c6 => L_aload_n dR_readStep_27 rfl (L_callVV rfl cv_R_wrong (As := []) rfl (tk8 31 rfl rfl) rfl (Nat.le_of_ble_eq_true rfl) dR_readStep_28 ⟨ob_161, Tri.mono (((q1.2 c2).1 c5).2 c6) (fun r7 σ7 q7 => q7)⟩)⟩))), fun c5 => L_iconst dR_readStep_17 in_1 (L_goto dR_readStep_18 (by decide) (L_istore_n dR_readStep_22 (by decide) (L_iload_n dR_readStep_23 rfl (L_if_ge dR_readStep_24 (by decide) ⟨fun c8 => (((q1.2 c2).2 c5).1 c8), fun c8 => L_aload_n dR_readStep_27 rfl (L_callVV rfl cv_R_wrong (As := []) rfl (tk8 31 rfl rfl) rfl (Nat.le_of_ble_eq_true rfl) dR_readStep_28 ⟨ob_161, Tri.mono (((q1.2 c2).2 c5).2 c8) (fun r9 σ9 q9 => q9)⟩)⟩))))⟩))⟩))))⟩))
theorem s_R_readStep_31 {d : Nat} {x1 x2 x3 : Int} {σ : SG} {Q : Int → SG → Prop} (h : (σ 161 12 ≠ 0 → L (d + 1) M_R_readStep 57 [vA 161, vI x1, vI x2, vI x3, vU] [] σ Q) ∧ (σ 161 12 = 0 → (σ 161 70 ≠ 30 → L (d + 1) M_R_readStep 57 [vA 161, vI x1, vI x2, vI x3, vU] [] σ Q) ∧ (σ 161 70 = 30 → Tri d M_R_fail [vA 161, vI 6, vI (σ 161 15)] σ (fun r3 σ3 => L (d + 1) M_R_readStep 57 [vA 161, vI x1, vI x2, vI x3, vU] [] σ3 Q)))) : L (d + 1) M_R_readStep 31 [vA 161, vI x1, vI x2, vI x3, vU] [] σ Q :=
  L_aload_n dR_readStep_31 rfl (L_getf fw_R_221 rfl dR_readStep_32 ⟨ob_161, L_if_ne dR_readStep_35 (by decide) ⟨fun c1 => (h.1 c1), fun c1 => L_aload_n dR_readStep_38 rfl (L_getf fw_R_649 rfl dR_readStep_39 ⟨ob_161, L_bipush dR_readStep_42 bp_30 in_30 (L_icmp_ne dR_readStep_44 (by decide) ⟨fun c2 => ((h.2 c1).1 c2), fun c2 => L_aload_n dR_readStep_47 rfl (L_bipush dR_readStep_48 bp_6 in_6 (L_aload_n dR_readStep_50 rfl (L_getf fw_R_177 rfl dR_readStep_51 ⟨ob_161, L_callVV rfl cv_R_fail (As := [vI 6, vI (σ 161 15)]) rfl (tk8 35 rfl rfl) rfl (Nat.le_of_ble_eq_true rfl) dR_readStep_54 ⟨ob_161, Tri.mono ((h.2 c1).2 c2) (fun r3 σ3 q3 => q3)⟩⟩)))⟩)⟩)⟩⟩)
theorem s_R_readStep_57 {d : Nat} {x1 x2 x3 : Int} {σ : SG} {Q : Int → SG → Prop} (h : (σ 161 12 ≠ 0 → L (d + 1) M_R_readStep 83 [vA 161, vI x1, vI x2, vI x3, vU] [] σ Q) ∧ (σ 161 12 = 0 → (x3 = 0 → L (d + 1) M_R_readStep 83 [vA 161, vI x1, vI x2, vI x3, vU] [] σ Q) ∧ (x3 ≠ 0 → (x1 ≠ 3 → L (d + 1) M_R_readStep 83 [vA 161, vI x1, vI x2, vI x3, vU] [] σ Q) ∧ (x1 = 3 → Tri d M_R_fail [vA 161, vI 7, vI (σ 161 15)] σ (fun r4 σ4 => L (d + 1) M_R_readStep 83 [vA 161, vI x1, vI x2, vI x3, vU] [] σ4 Q))))) : L (d + 1) M_R_readStep 57 [vA 161, vI x1, vI x2, vI x3, vU] [] σ Q :=
  L_aload_n dR_readStep_57 rfl (L_getf fw_R_221 rfl dR_readStep_58 ⟨ob_161, L_if_ne dR_readStep_61 (by decide) ⟨fun c1 => (h.1 c1), fun c1 => L_iload_n dR_readStep_64 rfl (L_if_eq dR_readStep_65 (by decide) ⟨fun c2 => ((h.2 c1).1 c2), fun c2 => L_iload_n dR_readStep_68 rfl (L_iconst dR_readStep_69 in_3 (L_icmp_ne dR_readStep_70 (by decide) ⟨fun c3 => (((h.2 c1).2 c2).1 c3), fun c3 => L_aload_n dR_readStep_73 rfl (L_bipush dR_readStep_74 bp_7 in_7 (L_aload_n dR_readStep_76 rfl (L_getf fw_R_177 rfl dR_readStep_77 ⟨ob_161, L_callVV rfl cv_R_fail (As := [vI 7, vI (σ 161 15)]) rfl (tk8 35 rfl rfl) rfl (Nat.le_of_ble_eq_true rfl) dR_readStep_80 ⟨ob_161, Tri.mono (((h.2 c1).2 c2).2 c3) (fun r4 σ4 q4 => q4)⟩⟩)))⟩))⟩)⟩⟩)
theorem s_R_readStep_83 {d : Nat} {x1 x2 x3 : Int} {σ : SG} {Q : Int → SG → Prop} (h : (σ 161 12 ≤ 0 → (∀ σ2, σ2 = up σ 161 70 (w32 ((σ 161 70) + 1)) → Tri d M_R_next [vA 161] σ2 (fun r3 σ3 => (0 ≤ w32 (7 * (σ 161 70)) ∧ w32 (7 * (σ 161 70)) < 300) ∧ (∀ σ4, σ4 = up σ3 169 (w32 (7 * (σ 161 70))) x2 → Tri d M_R_readRest [vA 161, vI (w32 (7 * (σ 161 70)))] σ4 (fun r5 σ5 => Tri d M_R_isSign [vA 161, vI 59] σ5 (fun r6 σ6 => Tri d M_R_must [vA 161, vI r6] σ6 (fun r7 σ7 => L (d + 1) M_R_readStep 138 [vA 161, vI x1, vU, vI x3, vI (w32 (7 * (σ 161 70)))] [] σ7 Q))))))) ∧ (0 < σ 161 12 → Q 0 σ)) : L (d + 1) M_R_readStep 83 [vA 161, vI x1, vI x2, vI x3, vU] [] σ Q :=
  L_aload_n dR_readStep_83 rfl (L_getf fw_R_221 rfl dR_readStep_84 ⟨ob_161, L_if_le dR_readStep_87 (by decide) ⟨fun c1 => L_bipush dR_readStep_91 bp_7 in_7 (L_aload_n dR_readStep_93 rfl (L_getf fw_R_649 rfl dR_readStep_94 ⟨ob_161, L_imul dR_readStep_97 (L_istore dR_readStep_98 (by decide) (L_aload_n dR_readStep_100 rfl (L_dup dR_readStep_101 n21 (L_getf fw_R_649 rfl dR_readStep_102 ⟨ob_161, L_iconst dR_readStep_105 in_1 (L_iadd dR_readStep_106 (L_putfN fp_R_649 rfl rfl (fun _ => ⟨rfl, rfl⟩) dR_readStep_107 ⟨ob_161, fun σ2 e2 => L_aload_n dR_readStep_110 rfl (L_callVV rfl cv_R_next (As := []) rfl (tk7 236 rfl rfl) rfl (Nat.le_of_ble_eq_true rfl) dR_readStep_111 ⟨ob_161, Tri.mono ((h.1 c1) σ2 e2) (fun r3 σ3 q3 => L_aload_n dR_readStep_114 rfl (L_getF (b := 169) fw_R_44 rfl rfl (by decide) dR_readStep_115 ⟨ob_161, L_iload dR_readStep_118 rfl (L_iload_n dR_readStep_120 rfl (L_iastoreL (by decide) kd_169 dR_readStep_121 ⟨q3.1, fun σ4 e4 => L_aload_n dR_readStep_122 rfl (L_iload dR_readStep_123 rfl (L_callVV rfl cv_R_readRest (As := [vI (w32 (7 * (σ 161 70)))]) rfl (tk10 124 rfl rfl) rfl (Nat.le_of_ble_eq_true rfl) dR_readStep_125 ⟨ob_161, Tri.mono (q3.2 σ4 e4) (fun r5 σ5 q5 => L_aload_n dR_readStep_128 rfl (L_aload_n dR_readStep_129 rfl (L_bipush dR_readStep_130 bp_59 in_59 (L_callVI rfl cv_R_isSign (As := [vI 59]) rfl (tk8 50 rfl rfl) rfl (Nat.le_of_ble_eq_true rfl) dR_readStep_132 ⟨ob_161, Tri.mono q5 (fun r6 σ6 q6 => L_callVV rfl cv_R_must (As := [vI r6]) rfl (tk8 27 rfl rfl) rfl (Nat.le_of_ble_eq_true rfl) dR_readStep_135 ⟨ob_161, Tri.mono q6 (fun r7 σ7 q7 => L_weak [true, true, false, true, true] q7)⟩)⟩))))⟩))⟩))⟩))⟩)⟩))⟩))))⟩)), fun c1 => L_return rfl dR_readStep_90 (h.2 c1)⟩⟩)
theorem s_R_readStep_138 {d : Nat} {x1 x3 x4 : Int} {σ : SG} {Q : Int → SG → Prop} (h : (x3 = 0 → L (d + 1) M_R_readStep 166 [vA 161, vU, vU, vI x3, vI x4] [] σ Q) ∧ (x3 ≠ 0 → (σ 161 12 ≠ 0 → L (d + 1) M_R_readStep 166 [vA 161, vU, vU, vI x3, vI x4] [] σ Q) ∧ (σ 161 12 = 0 → Tri d M_R_isEnd [vA 161] σ (fun r3 σ3 => (r3 ≠ 0 → L (d + 1) M_R_readStep 166 [vA 161, vU, vU, vI x3, vI x4] [] σ3 Q) ∧ (r3 = 0 → Tri d M_R_readStep [vA 161, vI (w32 (x1 + 1))] σ3 (fun r5 σ5 => L (d + 1) M_R_readStep 138 [vA 161, vI x1, vU, vI x3, vI x4] [] σ5 Q)))))) : L (d + 1) M_R_readStep 138 [vA 161, vI x1, vU, vI x3, vI x4] [] σ Q :=
  L_iload_n dR_readStep_138 rfl (L_if_eq dR_readStep_139 (by decide) ⟨fun c1 => L_weak [true, false, true, true, true] (h.1 c1), fun c1 => L_aload_n dR_readStep_142 rfl (L_getf fw_R_221 rfl dR_readStep_143 ⟨ob_161, L_if_ne dR_readStep_146 (by decide) ⟨fun c2 => L_weak [true, false, true, true, true] ((h.2 c1).1 c2), fun c2 => L_aload_n dR_readStep_149 rfl (L_callVI rfl cv_R_isEnd (As := []) rfl (tk10 148 rfl rfl) rfl (Nat.le_of_ble_eq_true rfl) dR_readStep_150 ⟨ob_161, Tri.mono ((h.2 c1).2 c2) (fun r3 σ3 q3 => L_if_ne dR_readStep_153 (by decide) ⟨fun c4 => L_weak [true, false, true, true, true] (q3.1 c4), fun c4 => L_aload_n dR_readStep_156 rfl (L_iload_n dR_readStep_157 rfl (L_iconst dR_readStep_158 in_1 (L_iadd dR_readStep_159 (L_callVV rfl cv_R_readStep (As := [vI (w32 (x1 + 1))]) rfl (tk10 116 rfl rfl) rfl (Nat.le_of_ble_eq_true rfl) dR_readStep_160 ⟨ob_161, Tri.mono (q3.2 c4) (fun r5 σ5 q5 => L_goto dR_readStep_163 (by decide) q5)⟩))))⟩)⟩)⟩⟩)⟩)
theorem s_R_readStep_166 {d : Nat} {x3 x4 : Int} {σ : SG} {Q : Int → SG → Prop} (h : (x3 = 0 → (0 ≤ w32 (x4 + 6) ∧ w32 (x4 + 6) < 300) ∧ (∀ σ2, σ2 = up σ 169 (w32 (x4 + 6)) (σ 161 70) → Q 0 σ2)) ∧ (x3 ≠ 0 → Tri d M_R_isEnd [vA 161] σ (fun r3 σ3 => Tri d M_R_must [vA 161, vI r3] σ3 (fun r4 σ4 => Tri d M_R_isSign [vA 161, vI 59] σ4 (fun r5 σ5 => Tri d M_R_must [vA 161, vI r5] σ5 (fun r6 σ6 => (0 ≤ w32 (x4 + 6) ∧ w32 (x4 + 6) < 300) ∧ (∀ σ7, σ7 = up σ6 169 (w32 (x4 + 6)) (σ6 161 70) → Q 0 σ7))))))) : L (d + 1) M_R_readStep 166 [vA 161, vU, vU, vI x3, vI x4] [] σ Q :=
  L_iload_n dR_readStep_166 rfl (L_if_eq dR_readStep_167 (by decide) ⟨fun c1 => L_aload_n dR_readStep_188 rfl (L_getF (b := 169) fw_R_44 rfl rfl (by decide) dR_readStep_189 ⟨ob_161, L_iload dR_readStep_192 rfl (L_bipush dR_readStep_194 bp_6 in_6 (L_iadd dR_readStep_196 (L_aload_n dR_readStep_197 rfl (L_getf fw_R_649 rfl dR_readStep_198 ⟨ob_161, L_iastoreL (by decide) kd_169 dR_readStep_201 ⟨(h.1 c1).1, fun σ2 e2 => L_return rfl dR_readStep_202 ((h.1 c1).2 σ2 e2)⟩⟩))))⟩), fun c1 => L_aload_n dR_readStep_170 rfl (L_aload_n dR_readStep_171 rfl (L_callVI rfl cv_R_isEnd (As := []) rfl (tk10 148 rfl rfl) rfl (Nat.le_of_ble_eq_true rfl) dR_readStep_172 ⟨ob_161, Tri.mono (h.2 c1) (fun r3 σ3 q3 => L_callVV rfl cv_R_must (As := [vI r3]) rfl (tk8 27 rfl rfl) rfl (Nat.le_of_ble_eq_true rfl) dR_readStep_175 ⟨ob_161, Tri.mono q3 (fun r4 σ4 q4 => L_aload_n dR_readStep_178 rfl (L_aload_n dR_readStep_179 rfl (L_bipush dR_readStep_180 bp_59 in_59 (L_callVI rfl cv_R_isSign (As := [vI 59]) rfl (tk8 50 rfl rfl) rfl (Nat.le_of_ble_eq_true rfl) dR_readStep_182 ⟨ob_161, Tri.mono q4 (fun r5 σ5 q5 => L_callVV rfl cv_R_must (As := [vI r5]) rfl (tk8 27 rfl rfl) rfl (Nat.le_of_ble_eq_true rfl) dR_readStep_185 ⟨ob_161, Tri.mono q5 (fun r6 σ6 q6 => L_aload_n dR_readStep_188 rfl (L_getF (b := 169) fw_R_44 rfl rfl (by decide) dR_readStep_189 ⟨ob_161, L_iload dR_readStep_192 rfl (L_bipush dR_readStep_194 bp_6 in_6 (L_iadd dR_readStep_196 (L_aload_n dR_readStep_197 rfl (L_getf fw_R_649 rfl dR_readStep_198 ⟨ob_161, L_iastoreL (by decide) kd_169 dR_readStep_201 ⟨q6.1, fun σ7 e7 => L_return rfl dR_readStep_202 (q6.2 σ7 e7)⟩⟩))))⟩))⟩)⟩))))⟩)⟩))⟩)
theorem dR_script_0 : decode prog_14_method_177_code 0 = .ok (.aload_n 0, 1) := by decide +kernel
theorem dR_script_1 : decode prog_14_method_177_code 1 = .ok (.iconst 0, 1) := by decide +kernel
theorem dR_script_2 : decode prog_14_method_177_code 2 = .ok (.putfield 132, 3) := by decide +kernel
theorem dR_script_5 : decode prog_14_method_177_code 5 = .ok (.aload_n 0, 1) := by decide +kernel
theorem dR_script_6 : decode prog_14_method_177_code 6 = .ok (.iconst 0, 1) := by decide +kernel
theorem dR_script_7 : decode prog_14_method_177_code 7 = .ok (.putfield 135, 3) := by decide +kernel
theorem dR_script_10 : decode prog_14_method_177_code 10 = .ok (.aload_n 0, 1) := by decide +kernel
theorem dR_script_11 : decode prog_14_method_177_code 11 = .ok (.iload_n 1, 1) := by decide +kernel
theorem dR_script_12 : decode prog_14_method_177_code 12 = .ok (.sipush 300, 3) := by decide +kernel
theorem dR_script_15 : decode prog_14_method_177_code 15 = .ok (.invokevirtual 287, 3) := by decide +kernel
theorem dR_script_18 : decode prog_14_method_177_code 18 = .ok (.ifCond .ne 5, 3) := by decide +kernel
theorem dR_script_21 : decode prog_14_method_177_code 21 = .ok (.iconst (-1), 1) := by decide +kernel
theorem dR_script_22 : decode prog_14_method_177_code 22 = .ok (.ireturn, 1) := by decide +kernel
theorem dR_script_23 : decode prog_14_method_177_code 23 = .ok (.aload_n 0, 1) := by decide +kernel
theorem dR_script_24 : decode prog_14_method_177_code 24 = .ok (.iconst 0, 1) := by decide +kernel
theorem dR_script_25 : decode prog_14_method_177_code 25 = .ok (.putfield 649, 3) := by decide +kernel
theorem dR_script_28 : decode prog_14_method_177_code 28 = .ok (.aload_n 0, 1) := by decide +kernel
theorem dR_script_29 : decode prog_14_method_177_code 29 = .ok (.getfield 221, 3) := by decide +kernel
theorem dR_script_32 : decode prog_14_method_177_code 32 = .ok (.ifCond .ne 18, 3) := by decide +kernel
theorem dR_script_35 : decode prog_14_method_177_code 35 = .ok (.aload_n 0, 1) := by decide +kernel
theorem dR_script_36 : decode prog_14_method_177_code 36 = .ok (.getfield 183, 3) := by decide +kernel
theorem dR_script_39 : decode prog_14_method_177_code 39 = .ok (.ifCond .eq 11, 3) := by decide +kernel
theorem dR_script_42 : decode prog_14_method_177_code 42 = .ok (.aload_n 0, 1) := by decide +kernel
theorem dR_script_43 : decode prog_14_method_177_code 43 = .ok (.iconst 0, 1) := by decide +kernel
theorem dR_script_44 : decode prog_14_method_177_code 44 = .ok (.invokevirtual 658, 3) := by decide +kernel
theorem dR_script_47 : decode prog_14_method_177_code 47 = .ok (.goto (-19), 3) := by decide +kernel
theorem dR_script_50 : decode prog_14_method_177_code 50 = .ok (.aload_n 0, 1) := by decide +kernel
theorem dR_script_51 : decode prog_14_method_177_code 51 = .ok (.invokevirtual 313, 3) := by decide +kernel
theorem dR_script_54 : decode prog_14_method_177_code 54 = .ok (.ifCond .ne 5, 3) := by decide +kernel
theorem dR_script_57 : decode prog_14_method_177_code 57 = .ok (.iconst (-1), 1) := by decide +kernel
theorem dR_script_58 : decode prog_14_method_177_code 58 = .ok (.ireturn, 1) := by decide +kernel
theorem dR_script_59 : decode prog_14_method_177_code 59 = .ok (.aload_n 0, 1) := by decide +kernel
theorem dR_script_60 : decode prog_14_method_177_code 60 = .ok (.getfield 35, 3) := by decide +kernel
theorem dR_script_63 : decode prog_14_method_177_code 63 = .ok (.sipush 635, 3) := by decide +kernel
theorem dR_script_66 : decode prog_14_method_177_code 66 = .ok (.iconst 1, 1) := by decide +kernel
theorem dR_script_67 : decode prog_14_method_177_code 67 = .ok (.iastore, 1) := by decide +kernel
theorem dR_script_68 : decode prog_14_method_177_code 68 = .ok (.aload_n 0, 1) := by decide +kernel
theorem dR_script_69 : decode prog_14_method_177_code 69 = .ok (.getfield 35, 3) := by decide +kernel
theorem dR_script_72 : decode prog_14_method_177_code 72 = .ok (.sipush 636, 3) := by decide +kernel
theorem dR_script_75 : decode prog_14_method_177_code 75 = .ok (.aload_n 0, 1) := by decide +kernel
theorem dR_script_76 : decode prog_14_method_177_code 76 = .ok (.getfield 649, 3) := by decide +kernel
theorem dR_script_79 : decode prog_14_method_177_code 79 = .ok (.iastore, 1) := by decide +kernel
theorem dR_script_80 : decode prog_14_method_177_code 80 = .ok (.iconst 0, 1) := by decide +kernel
theorem dR_script_81 : decode prog_14_method_177_code 81 = .ok (.istore_n 2, 1) := by decide +kernel
theorem dR_script_82 : decode prog_14_method_177_code 82 = .ok (.iload_n 2, 1) := by decide +kernel
theorem dR_script_83 : decode prog_14_method_177_code 83 = .ok (.bipush 7, 2) := by decide +kernel
theorem dR_script_85 : decode prog_14_method_177_code 85 = .ok (.aload_n 0, 1) := by decide +kernel
theorem dR_script_86 : decode prog_14_method_177_code 86 = .ok (.getfield 649, 3) := by decide +kernel
theorem dR_script_89 : decode prog_14_method_177_code 89 = .ok (.imul, 1) := by decide +kernel
theorem dR_script_90 : decode prog_14_method_177_code 90 = .ok (.if_icmp .ge 25, 3) := by decide +kernel
theorem dR_script_93 : decode prog_14_method_177_code 93 = .ok (.aload_n 0, 1) := by decide +kernel
theorem dR_script_94 : decode prog_14_method_177_code 94 = .ok (.getfield 35, 3) := by decide +kernel
theorem dR_script_97 : decode prog_14_method_177_code 97 = .ok (.sipush 637, 3) := by decide +kernel
theorem dR_script_100 : decode prog_14_method_177_code 100 = .ok (.iload_n 2, 1) := by decide +kernel
theorem dR_script_101 : decode prog_14_method_177_code 101 = .ok (.iadd, 1) := by decide +kernel
theorem dR_script_102 : decode prog_14_method_177_code 102 = .ok (.aload_n 0, 1) := by decide +kernel
theorem dR_script_103 : decode prog_14_method_177_code 103 = .ok (.getfield 44, 3) := by decide +kernel
theorem dR_script_106 : decode prog_14_method_177_code 106 = .ok (.iload_n 2, 1) := by decide +kernel
theorem dR_script_107 : decode prog_14_method_177_code 107 = .ok (.iaload, 1) := by decide +kernel
theorem dR_script_108 : decode prog_14_method_177_code 108 = .ok (.iastore, 1) := by decide +kernel
theorem dR_script_109 : decode prog_14_method_177_code 109 = .ok (.iinc 2 1, 3) := by decide +kernel
theorem dR_script_112 : decode prog_14_method_177_code 112 = .ok (.goto (-30), 3) := by decide +kernel
theorem dR_script_115 : decode prog_14_method_177_code 115 = .ok (.aload_n 0, 1) := by decide +kernel
theorem dR_script_116 : decode prog_14_method_177_code 116 = .ok (.getfield 649, 3) := by decide +kernel
theorem dR_script_119 : decode prog_14_method_177_code 119 = .ok (.ireturn, 1) := by decide +kernel
theorem t_R_script {d : Nat} {x1 : Int} {σ : SG} {Q : Int → SG → Prop} (h : inI x1 → ((∀ σ1, σ1 = up σ 161 1 0 → (∀ σ2, σ2 = up σ1 161 0 0 → Tri d M_R_opens [vA 161, vI x1, vI 300] σ2 (fun r3 σ3 => (r3 ≠ 0 → (∀ σ5, σ5 = up σ3 161 70 0 → L (d + 1) M_R_script 28 [vA 161, vU, vU] [] σ5 Q)) ∧ (r3 = 0 → Q (-1) σ3)))))) : Tri (d + 1) M_R_script [vA 161, vI x1] σ Q :=
  Tri_intro rfl (Nat.le_of_ble_eq_true rfl) (ls := [vA 161, vI x1, vU]) rfl (fun hok => L_aload_n dR_script_0 rfl (L_iconst dR_script_1 in_0 (L_putfN fp_R_132 rfl rfl (fun _ => ⟨rfl, rfl⟩) dR_script_2 ⟨ob_161, fun σ1 e1 => L_aload_n dR_script_5 rfl (L_iconst dR_script_6 in_0 (L_putfN fp_R_135 rfl rfl (fun _ => ⟨rfl, rfl⟩) dR_script_7 ⟨ob_161, fun σ2 e2 => L_aload_n dR_script_10 rfl (L_iload_n dR_script_11 rfl (L_sipush dR_script_12 sp_300 in_300 (L_callVI rfl cv_R_opens (As := [vI x1, vI 300]) rfl (tk7 232 rfl rfl) rfl (Nat.le_of_ble_eq_true rfl) dR_script_15 ⟨ob_161, Tri.mono (((h (hok _ (List.mem_of_getElem? (i := 1) rfl))) σ1 e1) σ2 e2) (fun r3 σ3 q3 => L_if_ne dR_script_18 (by decide) ⟨fun c4 => L_aload_n dR_script_23 rfl (L_iconst dR_script_24 in_0 (L_putfN fp_R_649 rfl rfl (fun _ => ⟨rfl, rfl⟩) dR_script_25 ⟨ob_161, fun σ5 e5 => L_weak [true, false, true] ((q3.1 c4) σ5 e5)⟩)), fun c4 => L_iconst dR_script_21 in_m1 (L_ireturn rfl dR_script_22 (q3.2 c4))⟩)⟩)))⟩))⟩)))
theorem s_R_script_28 {d : Nat} {σ : SG} {Q : Int → SG → Prop} (h : (σ 161 12 ≠ 0 → L (d + 1) M_R_script 50 [vA 161, vU, vU] [] σ Q) ∧ (σ 161 12 = 0 → (σ 161 14 = 0 → L (d + 1) M_R_script 50 [vA 161, vU, vU] [] σ Q) ∧ (σ 161 14 ≠ 0 → Tri d M_R_readStep [vA 161, vI 0] σ (fun r3 σ3 => L (d + 1) M_R_script 28 [vA 161, vU, vU] [] σ3 Q)))) : L (d + 1) M_R_script 28 [vA 161, vU, vU] [] σ Q :=
  L_aload_n dR_script_28 rfl (L_getf fw_R_221 rfl dR_script_29 ⟨ob_161, L_if_ne dR_script_32 (by decide) ⟨fun c1 => (h.1 c1), fun c1 => L_aload_n dR_script_35 rfl (L_getf fw_R_183 rfl dR_script_36 ⟨ob_161, L_if_eq dR_script_39 (by decide) ⟨fun c2 => ((h.2 c1).1 c2), fun c2 => L_aload_n dR_script_42 rfl (L_iconst dR_script_43 in_0 (L_callVV rfl cv_R_readStep (As := [vI 0]) rfl (tk10 116 rfl rfl) rfl (Nat.le_of_ble_eq_true rfl) dR_script_44 ⟨ob_161, Tri.mono ((h.2 c1).2 c2) (fun r3 σ3 q3 => L_goto dR_script_47 (by decide) q3)⟩))⟩⟩)⟩⟩)
theorem s_R_script_50 {d : Nat} {σ : SG} {Q : Int → SG → Prop} (h : Tri d M_R_isWell [vA 161] σ (fun r1 σ1 => (r1 ≠ 0 → (∀ σ3, σ3 = up σ1 166 635 1 → (∀ σ4, σ4 = up σ3 166 636 (σ3 161 70) → L (d + 1) M_R_script 82 [vA 161, vU, vI 0] [] σ4 Q))) ∧ (r1 = 0 → Q (-1) σ1))) : L (d + 1) M_R_script 50 [vA 161, vU, vU] [] σ Q :=
  L_aload_n dR_script_50 rfl (L_callVI rfl cv_R_isWell (As := []) rfl (tk8 96 rfl rfl) rfl (Nat.le_of_ble_eq_true rfl) dR_script_51 ⟨ob_161, Tri.mono h (fun r1 σ1 q1 => L_if_ne dR_script_54 (by decide) ⟨fun c2 => L_aload_n dR_script_59 rfl (L_getF (b := 166) fw_R_35 rfl rfl (by decide) dR_script_60 ⟨ob_161, L_sipush dR_script_63 sp_635 in_635 (L_iconst dR_script_66 in_1 (L_iastoreL (by decide) kd_166 dR_script_67 ⟨⟨by decide, by decide⟩, fun σ3 e3 => L_aload_n dR_script_68 rfl (L_getF (b := 166) fw_R_35 rfl rfl (by decide) dR_script_69 ⟨ob_161, L_sipush dR_script_72 sp_636 in_636 (L_aload_n dR_script_75 rfl (L_getf fw_R_649 rfl dR_script_76 ⟨ob_161, L_iastoreL (by decide) kd_166 dR_script_79 ⟨⟨by decide, by decide⟩, fun σ4 e4 => L_iconst dR_script_80 in_0 (L_istore_n dR_script_81 (by decide) (((q1.1 c2) σ3 e3) σ4 e4))⟩⟩))⟩)⟩))⟩), fun c2 => L_iconst dR_script_57 in_m1 (L_ireturn rfl dR_script_58 (q1.2 c2))⟩)⟩)
theorem s_R_script_82 {d : Nat} {x2 : Int} {σ : SG} {Q : Int → SG → Prop} (h : (w32 (7 * (σ 161 70)) ≤ x2 → Q (σ 161 70) σ) ∧ (x2 < w32 (7 * (σ 161 70)) → (0 ≤ x2 ∧ x2 < 300) ∧ (0 ≤ w32 (637 + x2) ∧ w32 (637 + x2) < 3440) ∧ (∀ σ2, σ2 = up σ 166 (w32 (637 + x2)) (σ 169 x2) → L (d + 1) M_R_script 82 [vA 161, vU, vI (w32 (x2 + 1))] [] σ2 Q))) : L (d + 1) M_R_script 82 [vA 161, vU, vI x2] [] σ Q :=
  L_iload_n dR_script_82 rfl (L_bipush dR_script_83 bp_7 in_7 (L_aload_n dR_script_85 rfl (L_getf fw_R_649 rfl dR_script_86 ⟨ob_161, L_imul dR_script_89 (L_icmp_ge dR_script_90 (by decide) ⟨fun c1 => L_aload_n dR_script_115 rfl (L_getf fw_R_649 rfl dR_script_116 ⟨ob_161, L_ireturn rfl dR_script_119 (h.1 c1)⟩), fun c1 => L_aload_n dR_script_93 rfl (L_getF (b := 166) fw_R_35 rfl rfl (by decide) dR_script_94 ⟨ob_161, L_sipush dR_script_97 sp_637 in_637 (L_iload_n dR_script_100 rfl (L_iadd dR_script_101 (L_aload_n dR_script_102 rfl (L_getF (b := 169) fw_R_44 rfl rfl (by decide) dR_script_103 ⟨ob_161, L_iload_n dR_script_106 rfl (L_ialoadL kd_169 dR_script_107 ⟨(h.2 c1).1, L_iastoreL (by decide) kd_166 dR_script_108 ⟨(h.2 c1).2.1, fun σ2 e2 => L_iinc dR_script_109 rfl (by decide) (L_goto dR_script_112 (by decide) ((h.2 c1).2.2 σ2 e2))⟩⟩)⟩))))⟩)⟩)⟩)))
theorem dR_linear_0 : decode prog_14_method_178_code 0 = .ok (.aload_n 0, 1) := by decide +kernel
theorem dR_linear_1 : decode prog_14_method_178_code 1 = .ok (.getfield 35, 3) := by decide +kernel
theorem dR_linear_4 : decode prog_14_method_178_code 4 = .ok (.iload_n 1, 1) := by decide +kernel
theorem dR_linear_5 : decode prog_14_method_178_code 5 = .ok (.iaload, 1) := by decide +kernel
theorem dR_linear_6 : decode prog_14_method_178_code 6 = .ok (.istore_n 2, 1) := by decide +kernel
theorem dR_linear_7 : decode prog_14_method_178_code 7 = .ok (.aload_n 0, 1) := by decide +kernel
theorem dR_linear_8 : decode prog_14_method_178_code 8 = .ok (.getfield 35, 3) := by decide +kernel
theorem dR_linear_11 : decode prog_14_method_178_code 11 = .ok (.iload_n 1, 1) := by decide +kernel
theorem dR_linear_12 : decode prog_14_method_178_code 12 = .ok (.iconst 1, 1) := by decide +kernel
theorem dR_linear_13 : decode prog_14_method_178_code 13 = .ok (.iadd, 1) := by decide +kernel
theorem dR_linear_14 : decode prog_14_method_178_code 14 = .ok (.iaload, 1) := by decide +kernel
theorem dR_linear_15 : decode prog_14_method_178_code 15 = .ok (.istore_n 3, 1) := by decide +kernel
theorem dR_linear_16 : decode prog_14_method_178_code 16 = .ok (.aload_n 0, 1) := by decide +kernel
theorem dR_linear_17 : decode prog_14_method_178_code 17 = .ok (.getfield 35, 3) := by decide +kernel
theorem dR_linear_20 : decode prog_14_method_178_code 20 = .ok (.iload_n 1, 1) := by decide +kernel
theorem dR_linear_21 : decode prog_14_method_178_code 21 = .ok (.iconst 2, 1) := by decide +kernel
theorem dR_linear_22 : decode prog_14_method_178_code 22 = .ok (.iadd, 1) := by decide +kernel
theorem dR_linear_23 : decode prog_14_method_178_code 23 = .ok (.iaload, 1) := by decide +kernel
theorem dR_linear_24 : decode prog_14_method_178_code 24 = .ok (.istore 4, 2) := by decide +kernel
theorem dR_linear_26 : decode prog_14_method_178_code 26 = .ok (.aload_n 0, 1) := by decide +kernel
theorem dR_linear_27 : decode prog_14_method_178_code 27 = .ok (.iload_n 3, 1) := by decide +kernel
theorem dR_linear_28 : decode prog_14_method_178_code 28 = .ok (.invokevirtual 354, 3) := by decide +kernel
theorem dR_linear_31 : decode prog_14_method_178_code 31 = .ok (.ifCond .eq 38, 3) := by decide +kernel
theorem dR_linear_34 : decode prog_14_method_178_code 34 = .ok (.iload_n 2, 1) := by decide +kernel
theorem dR_linear_35 : decode prog_14_method_178_code 35 = .ok (.iconst 1, 1) := by decide +kernel
theorem dR_linear_36 : decode prog_14_method_178_code 36 = .ok (.if_icmp .eq 18, 3) := by decide +kernel
theorem dR_linear_39 : decode prog_14_method_178_code 39 = .ok (.aload_n 0, 1) := by decide +kernel
theorem dR_linear_40 : decode prog_14_method_178_code 40 = .ok (.iload 4, 2) := by decide +kernel
theorem dR_linear_42 : decode prog_14_method_178_code 42 = .ok (.invokevirtual 354, 3) := by decide +kernel
theorem dR_linear_45 : decode prog_14_method_178_code 45 = .ok (.ifCond .eq 24, 3) := by decide +kernel
theorem dR_linear_48 : decode prog_14_method_178_code 48 = .ok (.iload_n 3, 1) := by decide +kernel
theorem dR_linear_49 : decode prog_14_method_178_code 49 = .ok (.iload 4, 2) := by decide +kernel
theorem dR_linear_51 : decode prog_14_method_178_code 51 = .ok (.if_icmp .eq 18, 3) := by decide +kernel
theorem dR_linear_54 : decode prog_14_method_178_code 54 = .ok (.iload_n 2, 1) := by decide +kernel
theorem dR_linear_55 : decode prog_14_method_178_code 55 = .ok (.iconst 1, 1) := by decide +kernel
theorem dR_linear_56 : decode prog_14_method_178_code 56 = .ok (.if_icmp .ne 15, 3) := by decide +kernel
theorem dR_linear_59 : decode prog_14_method_178_code 59 = .ok (.iload 4, 2) := by decide +kernel
theorem dR_linear_61 : decode prog_14_method_178_code 61 = .ok (.aload_n 0, 1) := by decide +kernel
theorem dR_linear_62 : decode prog_14_method_178_code 62 = .ok (.getfield 250, 3) := by decide +kernel
theorem dR_linear_65 : decode prog_14_method_178_code 65 = .ok (.irem, 1) := by decide +kernel
theorem dR_linear_66 : decode prog_14_method_178_code 66 = .ok (.ifCond .ne 5, 3) := by decide +kernel
theorem dR_linear_69 : decode prog_14_method_178_code 69 = .ok (.iconst 0, 1) := by decide +kernel
theorem dR_linear_70 : decode prog_14_method_178_code 70 = .ok (.ireturn, 1) := by decide +kernel
theorem dR_linear_71 : decode prog_14_method_178_code 71 = .ok (.aload_n 0, 1) := by decide +kernel
theorem dR_linear_72 : decode prog_14_method_178_code 72 = .ok (.aload_n 0, 1) := by decide +kernel
theorem dR_linear_73 : decode prog_14_method_178_code 73 = .ok (.getfield 119, 3) := by decide +kernel
theorem dR_linear_76 : decode prog_14_method_178_code 76 = .ok (.invokevirtual 398, 3) := by decide +kernel
theorem dR_linear_79 : decode prog_14_method_178_code 79 = .ok (.pop, 1) := by decide +kernel
theorem dR_linear_80 : decode prog_14_method_178_code 80 = .ok (.iload_n 2, 1) := by decide +kernel
theorem dR_linear_81 : decode prog_14_method_178_code 81 = .ok (.ifCond .ne 17, 3) := by decide +kernel
theorem dR_linear_84 : decode prog_14_method_178_code 84 = .ok (.aload_n 0, 1) := by decide +kernel
theorem dR_linear_85 : decode prog_14_method_178_code 85 = .ok (.aload_n 0, 1) := by decide +kernel
theorem dR_linear_86 : decode prog_14_method_178_code 86 = .ok (.getfield 119, 3) := by decide +kernel
theorem dR_linear_89 : decode prog_14_method_178_code 89 = .ok (.iload_n 3, 1) := by decide +kernel
theorem dR_linear_90 : decode prog_14_method_178_code 90 = .ok (.iload 4, 2) := by decide +kernel
theorem dR_linear_92 : decode prog_14_method_178_code 92 = .ok (.invokevirtual 579, 3) := by decide +kernel
theorem dR_linear_95 : decode prog_14_method_178_code 95 = .ok (.goto 52, 3) := by decide +kernel
theorem dR_linear_98 : decode prog_14_method_178_code 98 = .ok (.iload_n 2, 1) := by decide +kernel
theorem dR_linear_99 : decode prog_14_method_178_code 99 = .ok (.iconst 1, 1) := by decide +kernel
theorem dR_linear_100 : decode prog_14_method_178_code 100 = .ok (.if_icmp .ne 23, 3) := by decide +kernel
theorem dR_linear_103 : decode prog_14_method_178_code 103 = .ok (.aload_n 0, 1) := by decide +kernel
theorem dR_linear_104 : decode prog_14_method_178_code 104 = .ok (.getfield 119, 3) := by decide +kernel
theorem dR_linear_107 : decode prog_14_method_178_code 107 = .ok (.iconst 5, 1) := by decide +kernel
theorem dR_linear_108 : decode prog_14_method_178_code 108 = .ok (.iload_n 3, 1) := by decide +kernel
theorem dR_linear_109 : decode prog_14_method_178_code 109 = .ok (.imul, 1) := by decide +kernel
theorem dR_linear_110 : decode prog_14_method_178_code 110 = .ok (.iload_n 3, 1) := by decide +kernel
theorem dR_linear_111 : decode prog_14_method_178_code 111 = .ok (.iadd, 1) := by decide +kernel
theorem dR_linear_112 : decode prog_14_method_178_code 112 = .ok (.iload 4, 2) := by decide +kernel
theorem dR_linear_114 : decode prog_14_method_178_code 114 = .ok (.aload_n 0, 1) := by decide +kernel
theorem dR_linear_115 : decode prog_14_method_178_code 115 = .ok (.getfield 250, 3) := by decide +kernel
theorem dR_linear_118 : decode prog_14_method_178_code 118 = .ok (.irem, 1) := by decide +kernel
theorem dR_linear_119 : decode prog_14_method_178_code 119 = .ok (.iastore, 1) := by decide +kernel
theorem dR_linear_120 : decode prog_14_method_178_code 120 = .ok (.goto 27, 3) := by decide +kernel
theorem dR_linear_123 : decode prog_14_method_178_code 123 = .ok (.aload_n 0, 1) := by decide +kernel
theorem dR_linear_124 : decode prog_14_method_178_code 124 = .ok (.getfield 119, 3) := by decide +kernel
theorem dR_linear_127 : decode prog_14_method_178_code 127 = .ok (.iconst 5, 1) := by decide +kernel
theorem dR_linear_128 : decode prog_14_method_178_code 128 = .ok (.iload 4, 2) := by decide +kernel
theorem dR_linear_130 : decode prog_14_method_178_code 130 = .ok (.imul, 1) := by decide +kernel
theorem dR_linear_131 : decode prog_14_method_178_code 131 = .ok (.iload_n 3, 1) := by decide +kernel
theorem dR_linear_132 : decode prog_14_method_178_code 132 = .ok (.iadd, 1) := by decide +kernel
theorem dR_linear_133 : decode prog_14_method_178_code 133 = .ok (.aload_n 0, 1) := by decide +kernel
theorem dR_linear_134 : decode prog_14_method_178_code 134 = .ok (.getfield 35, 3) := by decide +kernel
theorem dR_linear_137 : decode prog_14_method_178_code 137 = .ok (.iload_n 1, 1) := by decide +kernel
theorem dR_linear_138 : decode prog_14_method_178_code 138 = .ok (.iconst 3, 1) := by decide +kernel
theorem dR_linear_139 : decode prog_14_method_178_code 139 = .ok (.iadd, 1) := by decide +kernel
theorem dR_linear_140 : decode prog_14_method_178_code 140 = .ok (.iaload, 1) := by decide +kernel
theorem dR_linear_141 : decode prog_14_method_178_code 141 = .ok (.aload_n 0, 1) := by decide +kernel
theorem dR_linear_142 : decode prog_14_method_178_code 142 = .ok (.getfield 250, 3) := by decide +kernel
theorem dR_linear_145 : decode prog_14_method_178_code 145 = .ok (.irem, 1) := by decide +kernel
theorem dR_linear_146 : decode prog_14_method_178_code 146 = .ok (.iastore, 1) := by decide +kernel
theorem dR_linear_147 : decode prog_14_method_178_code 147 = .ok (.aload_n 0, 1) := by decide +kernel
theorem dR_linear_148 : decode prog_14_method_178_code 148 = .ok (.invokevirtual 586, 3) := by decide +kernel
theorem dR_linear_151 : decode prog_14_method_178_code 151 = .ok (.pop, 1) := by decide +kernel
theorem dR_linear_152 : decode prog_14_method_178_code 152 = .ok (.aload_n 0, 1) := by decide +kernel
theorem dR_linear_153 : decode prog_14_method_178_code 153 = .ok (.invokevirtual 589, 3) := by decide +kernel
theorem dR_linear_156 : decode prog_14_method_178_code 156 = .ok (.iconst 1, 1) := by decide +kernel
theorem dR_linear_157 : decode prog_14_method_178_code 157 = .ok (.ireturn, 1) := by decide +kernel
theorem t_R_linear {d : Nat} {x1 : Int} {σ : SG} {Q : Int → SG → Prop} (h : inI x1 → ((0 ≤ x1 ∧ x1 < 3440) ∧ (0 ≤ w32 (x1 + 1) ∧ w32 (x1 + 1) < 3440) ∧ (0 ≤ w32 (x1 + 2) ∧ w32 (x1 + 2) < 3440) ∧ Tri d M_R_isBase [vA 161, vI (σ 166 (w32 (x1 + 1)))] σ (fun r1 σ1 => (r1 = 0 → Q 0 σ1) ∧ (r1 ≠ 0 → (σ 166 x1 = 1 → (σ 166 x1 ≠ 1 → L (d + 1) M_R_linear 71 [vA 161, vI x1, vI (σ 166 x1), vI (σ 166 (w32 (x1 + 1))), vI (σ 166 (w32 (x1 + 2)))] [] σ1 Q) ∧ (σ 166 x1 = 1 → σ1 161 26 ≠ 0 ∧ ((σ 166 (w32 (x1 + 2))).tmod (σ1 161 26) ≠ 0 → L (d + 1) M_R_linear 71 [vA 161, vI x1, vI (σ 166 x1), vI (σ 166 (w32 (x1 + 1))), vI (σ 166 (w32 (x1 + 2)))] [] σ1 Q) ∧ ((σ 166 (w32 (x1 + 2))).tmod (σ1 161 26) = 0 → Q 0 σ1))) ∧ (σ 166 x1 ≠ 1 → Tri d M_R_isBase [vA 161, vI (σ 166 (w32 (x1 + 2)))] σ1 (fun r6 σ6 => (r6 = 0 → Q 0 σ6) ∧ (r6 ≠ 0 → (σ 166 (w32 (x1 + 1)) = σ 166 (w32 (x1 + 2)) → Q 0 σ6) ∧ (σ 166 (w32 (x1 + 1)) ≠ σ 166 (w32 (x1 + 2)) → (σ 166 x1 ≠ 1 → L (d + 1) M_R_linear 71 [vA 161, vI x1, vI (σ 166 x1), vI (σ 166 (w32 (x1 + 1))), vI (σ 166 (w32 (x1 + 2)))] [] σ6 Q) ∧ (σ 166 x1 = 1 → σ6 161 26 ≠ 0 ∧ ((σ 166 (w32 (x1 + 2))).tmod (σ6 161 26) ≠ 0 → L (d + 1) M_R_linear 71 [vA 161, vI x1, vI (σ 166 x1), vI (σ 166 (w32 (x1 + 1))), vI (σ 166 (w32 (x1 + 2)))] [] σ6 Q) ∧ ((σ 166 (w32 (x1 + 2))).tmod (σ6 161 26) = 0 → Q 0 σ6)))))))))) : Tri (d + 1) M_R_linear [vA 161, vI x1] σ Q :=
  Tri_intro rfl (Nat.le_of_ble_eq_true rfl) (ls := [vA 161, vI x1, vU, vU, vU]) rfl (fun hok => L_aload_n dR_linear_0 rfl (L_getF (b := 166) fw_R_35 rfl rfl (by decide) dR_linear_1 ⟨ob_161, L_iload_n dR_linear_4 rfl (L_ialoadL kd_166 dR_linear_5 ⟨(h (hok _ (List.mem_of_getElem? (i := 1) rfl))).1, L_istore_n dR_linear_6 (by decide) (L_aload_n dR_linear_7 rfl (L_getF (b := 166) fw_R_35 rfl rfl (by decide) dR_linear_8 ⟨ob_161, L_iload_n dR_linear_11 rfl (L_iconst dR_linear_12 in_1 (L_iadd dR_linear_13 (L_ialoadL kd_166 dR_linear_14 ⟨(h (hok _ (List.mem_of_getElem? (i := 1) rfl))).2.1, L_istore_n dR_linear_15 (by decide) (L_aload_n dR_linear_16 rfl (L_getF (b := 166) fw_R_35 rfl rfl (by decide) dR_linear_17 ⟨ob_161, L_iload_n dR_linear_20 rfl (L_iconst dR_linear_21 in_2 (L_iadd dR_linear_22 (L_ialoadL kd_166 dR_linear_23 ⟨(h (hok _ (List.mem_of_getElem? (i := 1) rfl))).2.2.1, L_istore dR_linear_24 (by decide) (L_aload_n dR_linear_26 rfl (L_iload_n dR_linear_27 rfl (L_callVI rfl cv_R_isBase (As := [vI (σ 166 (w32 (x1 + 1)))]) rfl (tk8 129 rfl rfl) rfl (Nat.le_of_ble_eq_true rfl) dR_linear_28 ⟨ob_161, Tri.mono ((h (hok _ (List.mem_of_getElem? (i := 1) rfl))).2.2.2) (fun r1 σ1 q1 => L_if_eq dR_linear_31 (by decide) ⟨fun c2 => L_iconst dR_linear_69 in_0 (L_zreturn0 rfl dR_linear_70 (q1.1 c2)), fun c2 => L_iload_n dR_linear_34 rfl (L_iconst dR_linear_35 in_1 (L_icmp_eq dR_linear_36 (by decide) ⟨fun c3 => L_iload_n dR_linear_54 rfl (L_iconst dR_linear_55 in_1 (L_icmp_ne dR_linear_56 (by decide) ⟨fun c4 => (((q1.2 c2).1 c3).1 c4), fun c4 => L_iload dR_linear_59 rfl (L_aload_n dR_linear_61 rfl (L_getf fw_R_250 rfl dR_linear_62 ⟨ob_161, L_irem dR_linear_65 ⟨(((q1.2 c2).1 c3).2 c4).1, L_if_ne dR_linear_66 (by decide) ⟨fun c5 => ((((q1.2 c2).1 c3).2 c4).2.1 c5), fun c5 => L_iconst dR_linear_69 in_0 (L_zreturn0 rfl dR_linear_70 ((((q1.2 c2).1 c3).2 c4).2.2 c5))⟩⟩⟩))⟩)), fun c3 => L_aload_n dR_linear_39 rfl (L_iload dR_linear_40 rfl (L_callVI rfl cv_R_isBase (As := [vI (σ 166 (w32 (x1 + 2)))]) rfl (tk8 129 rfl rfl) rfl (Nat.le_of_ble_eq_true rfl) dR_linear_42 ⟨ob_161, Tri.mono ((q1.2 c2).2 c3) (fun r6 σ6 q6 => L_if_eq dR_linear_45 (by decide) ⟨fun c7 => L_iconst dR_linear_69 in_0 (L_zreturn0 rfl dR_linear_70 (q6.1 c7)), fun c7 => L_iload_n dR_linear_48 rfl (L_iload dR_linear_49 rfl (L_icmp_eq dR_linear_51 (by decide) ⟨fun c8 => L_iconst dR_linear_69 in_0 (L_zreturn0 rfl dR_linear_70 ((q6.2 c7).1 c8)), fun c8 => L_iload_n dR_linear_54 rfl (L_iconst dR_linear_55 in_1 (L_icmp_ne dR_linear_56 (by decide) ⟨fun c9 => (((q6.2 c7).2 c8).1 c9), fun c9 => L_iload dR_linear_59 rfl (L_aload_n dR_linear_61 rfl (L_getf fw_R_250 rfl dR_linear_62 ⟨ob_161, L_irem dR_linear_65 ⟨(((q6.2 c7).2 c8).2 c9).1, L_if_ne dR_linear_66 (by decide) ⟨fun c10 => ((((q6.2 c7).2 c8).2 c9).2.1 c10), fun c10 => L_iconst dR_linear_69 in_0 (L_zreturn0 rfl dR_linear_70 ((((q6.2 c7).2 c8).2 c9).2.2 c10))⟩⟩⟩))⟩))⟩))⟩)⟩))⟩))⟩)⟩)))⟩)))⟩))⟩)))⟩))⟩)⟩))
theorem s_R_linear_71 {d : Nat} {x1 x2 x3 x4 : Int} {σ : SG} {Q : Int → SG → Prop} (h : Tri d M_R_wholeSpan [vA 161, vA 193] σ (fun r1 σ1 => (x2 ≠ 0 → (x2 ≠ 1 → (0 ≤ w32 (x1 + 3) ∧ w32 (x1 + 3) < 3440) ∧ σ1 161 26 ≠ 0 ∧ (0 ≤ w32 ((w32 (5 * x4)) + x3) ∧ w32 ((w32 (5 * x4)) + x3) < 25) ∧ (∀ σ4, σ4 = up σ1 193 (w32 ((w32 (5 * x4)) + x3)) ((σ1 166 (w32 (x1 + 3))).tmod (σ1 161 26)) → Tri d M_R_changeInto [vA 161] σ4 (fun r5 σ5 => Tri d M_R_takeOther [vA 161] σ5 (fun r6 σ6 => Q 1 σ6)))) ∧ (x2 = 1 → σ1 161 26 ≠ 0 ∧ (0 ≤ w32 ((w32 (5 * x3)) + x3) ∧ w32 ((w32 (5 * x3)) + x3) < 25) ∧ (∀ σ7, σ7 = up σ1 193 (w32 ((w32 (5 * x3)) + x3)) (x4.tmod (σ1 161 26)) → Tri d M_R_changeInto [vA 161] σ7 (fun r8 σ8 => Tri d M_R_takeOther [vA 161] σ8 (fun r9 σ9 => Q 1 σ9))))) ∧ (x2 = 0 → Tri d M_R_exchange [vA 161, vA 193, vI x3, vI x4] σ1 (fun r10 σ10 => Tri d M_R_changeInto [vA 161] σ10 (fun r11 σ11 => Tri d M_R_takeOther [vA 161] σ11 (fun r12 σ12 => Q 1 σ12)))))) : L (d + 1) M_R_linear 71 [vA 161, vI x1, vI x2, vI x3, vI x4] [] σ Q :=
  L_aload_n dR_linear_71 rfl (L_aload_n dR_linear_72 rfl (L_getF (b := 193) fw_R_119 rfl rfl (by decide) dR_linear_73 ⟨ob_161, L_callVI rfl cv_R_wholeSpan (As := [vA 193]) rfl (tk9 6 rfl rfl) rfl (Nat.le_of_ble_eq_true rfl) dR_linear_76 ⟨ob_161, Tri.mono h (fun r1 σ1 q1 => L_pop dR_linear_79 n01 (L_iload_n dR_linear_80 rfl (L_if_ne dR_linear_81 (by decide) ⟨fun c2 => L_iload_n dR_linear_98 rfl (L_iconst dR_linear_99 in_1 (L_icmp_ne dR_linear_100 (by decide) ⟨fun c3 => L_aload_n dR_linear_123 rfl (L_getF (b := 193) fw_R_119 rfl rfl (by decide) dR_linear_124 ⟨ob_161, L_iconst dR_linear_127 in_5 (L_iload dR_linear_128 rfl (L_imul dR_linear_130 (L_iload_n dR_linear_131 rfl (L_iadd dR_linear_132 (L_aload_n dR_linear_133 rfl (L_getF (b := 166) fw_R_35 rfl rfl (by decide) dR_linear_134 ⟨ob_161, L_iload_n dR_linear_137 rfl (L_iconst dR_linear_138 in_3 (L_iadd dR_linear_139 (L_ialoadL kd_166 dR_linear_140 ⟨((q1.1 c2).1 c3).1, L_aload_n dR_linear_141 rfl (L_getf fw_R_250 rfl dR_linear_142 ⟨ob_161, L_irem dR_linear_145 ⟨((q1.1 c2).1 c3).2.1, L_iastoreL (by decide) kd_193 dR_linear_146 ⟨((q1.1 c2).1 c3).2.2.1, fun σ4 e4 => L_aload_n dR_linear_147 rfl (L_callVI rfl cv_R_changeInto (As := []) rfl (tk10 15 rfl rfl) rfl (Nat.le_of_ble_eq_true rfl) dR_linear_148 ⟨ob_161, Tri.mono (((q1.1 c2).1 c3).2.2.2 σ4 e4) (fun r5 σ5 q5 => L_pop dR_linear_151 n01 (L_aload_n dR_linear_152 rfl (L_callVV rfl cv_R_takeOther (As := []) rfl (tk10 27 rfl rfl) rfl (Nat.le_of_ble_eq_true rfl) dR_linear_153 ⟨ob_161, Tri.mono q5 (fun r6 σ6 q6 => L_iconst dR_linear_156 in_1 (L_zreturn1 rfl dR_linear_157 q6))⟩)))⟩)⟩⟩⟩)⟩)))⟩))))))⟩), fun c3 => L_aload_n dR_linear_103 rfl (L_getF (b := 193) fw_R_119 rfl rfl (by decide) dR_linear_104 ⟨ob_161, L_iconst dR_linear_107 in_5 (L_iload_n dR_linear_108 rfl (L_imul dR_linear_109 (L_iload_n dR_linear_110 rfl (L_iadd dR_linear_111 (L_iload dR_linear_112 rfl (L_aload_n dR_linear_114 rfl (L_getf fw_R_250 rfl dR_linear_115 ⟨ob_161, L_irem dR_linear_118 ⟨((q1.1 c2).2 c3).1, L_iastoreL (by decide) kd_193 dR_linear_119 ⟨((q1.1 c2).2 c3).2.1, fun σ7 e7 => L_goto dR_linear_120 (by decide) (L_aload_n dR_linear_147 rfl (L_callVI rfl cv_R_changeInto (As := []) rfl (tk10 15 rfl rfl) rfl (Nat.le_of_ble_eq_true rfl) dR_linear_148 ⟨ob_161, Tri.mono (((q1.1 c2).2 c3).2.2 σ7 e7) (fun r8 σ8 q8 => L_pop dR_linear_151 n01 (L_aload_n dR_linear_152 rfl (L_callVV rfl cv_R_takeOther (As := []) rfl (tk10 27 rfl rfl) rfl (Nat.le_of_ble_eq_true rfl) dR_linear_153 ⟨ob_161, Tri.mono q8 (fun r9 σ9 q9 => L_iconst dR_linear_156 in_1 (L_zreturn1 rfl dR_linear_157 q9))⟩)))⟩))⟩⟩⟩)))))))⟩)⟩)), fun c2 => L_aload_n dR_linear_84 rfl (L_aload_n dR_linear_85 rfl (L_getF (b := 193) fw_R_119 rfl rfl (by decide) dR_linear_86 ⟨ob_161, L_iload_n dR_linear_89 rfl (L_iload dR_linear_90 rfl (L_callVV rfl cv_R_exchange (As := [vA 193, vI x3, vI x4]) rfl (tk10 23 rfl rfl) rfl (Nat.le_of_ble_eq_true rfl) dR_linear_92 ⟨ob_161, Tri.mono (q1.2 c2) (fun r10 σ10 q10 => L_goto dR_linear_95 (by decide) (L_aload_n dR_linear_147 rfl (L_callVI rfl cv_R_changeInto (As := []) rfl (tk10 15 rfl rfl) rfl (Nat.le_of_ble_eq_true rfl) dR_linear_148 ⟨ob_161, Tri.mono q10 (fun r11 σ11 q11 => L_pop dR_linear_151 n01 (L_aload_n dR_linear_152 rfl (L_callVV rfl cv_R_takeOther (As := []) rfl (tk10 27 rfl rfl) rfl (Nat.le_of_ble_eq_true rfl) dR_linear_153 ⟨ob_161, Tri.mono q11 (fun r12 σ12 q12 => L_iconst dR_linear_156 in_1 (L_zreturn1 rfl dR_linear_157 q12))⟩)))⟩)))⟩))⟩))⟩)))⟩⟩))
theorem dR_doPlain_0 : decode prog_14_method_179_code 0 = .ok (.aload_n 0, 1) := by decide +kernel
theorem dR_doPlain_1 : decode prog_14_method_179_code 1 = .ok (.getfield 35, 3) := by decide +kernel
theorem dR_doPlain_4 : decode prog_14_method_179_code 4 = .ok (.iload_n 1, 1) := by decide +kernel
theorem dR_doPlain_5 : decode prog_14_method_179_code 5 = .ok (.iaload, 1) := by decide +kernel
theorem dR_doPlain_6 : decode prog_14_method_179_code 6 = .ok (.istore_n 2, 1) := by decide +kernel
theorem dR_doPlain_7 : decode prog_14_method_179_code 7 = .ok (.iload_n 2, 1) := by decide +kernel
theorem dR_doPlain_8 : decode prog_14_method_179_code 8 = .ok (.iconst 3, 1) := by decide +kernel
theorem dR_doPlain_9 : decode prog_14_method_179_code 9 = .ok (.if_icmp .ge 9, 3) := by decide +kernel
theorem dR_doPlain_12 : decode prog_14_method_179_code 12 = .ok (.aload_n 0, 1) := by decide +kernel
theorem dR_doPlain_13 : decode prog_14_method_179_code 13 = .ok (.iload_n 1, 1) := by decide +kernel
theorem dR_doPlain_14 : decode prog_14_method_179_code 14 = .ok (.invokevirtual 661, 3) := by decide +kernel
theorem dR_doPlain_17 : decode prog_14_method_179_code 17 = .ok (.ireturn, 1) := by decide +kernel
theorem dR_doPlain_18 : decode prog_14_method_179_code 18 = .ok (.aload_n 0, 1) := by decide +kernel
theorem dR_doPlain_19 : decode prog_14_method_179_code 19 = .ok (.getfield 35, 3) := by decide +kernel
theorem dR_doPlain_22 : decode prog_14_method_179_code 22 = .ok (.iload_n 1, 1) := by decide +kernel
theorem dR_doPlain_23 : decode prog_14_method_179_code 23 = .ok (.iconst 1, 1) := by decide +kernel
theorem dR_doPlain_24 : decode prog_14_method_179_code 24 = .ok (.iadd, 1) := by decide +kernel
theorem dR_doPlain_25 : decode prog_14_method_179_code 25 = .ok (.iaload, 1) := by decide +kernel
theorem dR_doPlain_26 : decode prog_14_method_179_code 26 = .ok (.istore_n 3, 1) := by decide +kernel
theorem dR_doPlain_27 : decode prog_14_method_179_code 27 = .ok (.iload_n 2, 1) := by decide +kernel
theorem dR_doPlain_28 : decode prog_14_method_179_code 28 = .ok (.iconst 3, 1) := by decide +kernel
theorem dR_doPlain_29 : decode prog_14_method_179_code 29 = .ok (.if_icmp .ne 24, 3) := by decide +kernel
theorem dR_doPlain_32 : decode prog_14_method_179_code 32 = .ok (.aload_n 0, 1) := by decide +kernel
theorem dR_doPlain_33 : decode prog_14_method_179_code 33 = .ok (.aload_n 0, 1) := by decide +kernel
theorem dR_doPlain_34 : decode prog_14_method_179_code 34 = .ok (.getfield 35, 3) := by decide +kernel
theorem dR_doPlain_37 : decode prog_14_method_179_code 37 = .ok (.iconst 0, 1) := by decide +kernel
theorem dR_doPlain_38 : decode prog_14_method_179_code 38 = .ok (.aload_n 0, 1) := by decide +kernel
theorem dR_doPlain_39 : decode prog_14_method_179_code 39 = .ok (.getfield 35, 3) := by decide +kernel
theorem dR_doPlain_42 : decode prog_14_method_179_code 42 = .ok (.bipush 127, 2) := by decide +kernel
theorem dR_doPlain_44 : decode prog_14_method_179_code 44 = .ok (.iload_n 3, 1) := by decide +kernel
theorem dR_doPlain_45 : decode prog_14_method_179_code 45 = .ok (.iconst 1, 1) := by decide +kernel
theorem dR_doPlain_46 : decode prog_14_method_179_code 46 = .ok (.iadd, 1) := by decide +kernel
theorem dR_doPlain_47 : decode prog_14_method_179_code 47 = .ok (.imul, 1) := by decide +kernel
theorem dR_doPlain_48 : decode prog_14_method_179_code 48 = .ok (.invokevirtual 316, 3) := by decide +kernel
theorem dR_doPlain_51 : decode prog_14_method_179_code 51 = .ok (.iconst 1, 1) := by decide +kernel
theorem dR_doPlain_52 : decode prog_14_method_179_code 52 = .ok (.ireturn, 1) := by decide +kernel
theorem dR_doPlain_53 : decode prog_14_method_179_code 53 = .ok (.aload_n 0, 1) := by decide +kernel
theorem dR_doPlain_54 : decode prog_14_method_179_code 54 = .ok (.iload_n 3, 1) := by decide +kernel
theorem dR_doPlain_55 : decode prog_14_method_179_code 55 = .ok (.invokevirtual 387, 3) := by decide +kernel
theorem dR_doPlain_58 : decode prog_14_method_179_code 58 = .ok (.ifCond .eq 5, 3) := by decide +kernel
theorem dR_doPlain_61 : decode prog_14_method_179_code 61 = .ok (.iconst 0, 1) := by decide +kernel
theorem dR_doPlain_62 : decode prog_14_method_179_code 62 = .ok (.ireturn, 1) := by decide +kernel
theorem dR_doPlain_63 : decode prog_14_method_179_code 63 = .ok (.iload_n 2, 1) := by decide +kernel
theorem dR_doPlain_64 : decode prog_14_method_179_code 64 = .ok (.iconst 5, 1) := by decide +kernel
theorem dR_doPlain_65 : decode prog_14_method_179_code 65 = .ok (.if_icmp .ne 17, 3) := by decide +kernel
theorem dR_doPlain_68 : decode prog_14_method_179_code 68 = .ok (.aload_n 0, 1) := by decide +kernel
theorem dR_doPlain_69 : decode prog_14_method_179_code 69 = .ok (.iload_n 3, 1) := by decide +kernel
theorem dR_doPlain_70 : decode prog_14_method_179_code 70 = .ok (.invokevirtual 613, 3) := by decide +kernel
theorem dR_doPlain_73 : decode prog_14_method_179_code 73 = .ok (.ifCond .ne 7, 3) := by decide +kernel
theorem dR_doPlain_76 : decode prog_14_method_179_code 76 = .ok (.iconst 1, 1) := by decide +kernel
theorem dR_doPlain_77 : decode prog_14_method_179_code 77 = .ok (.goto 4, 3) := by decide +kernel
theorem dR_doPlain_80 : decode prog_14_method_179_code 80 = .ok (.iconst 0, 1) := by decide +kernel
theorem dR_doPlain_81 : decode prog_14_method_179_code 81 = .ok (.ireturn, 1) := by decide +kernel
theorem dR_doPlain_82 : decode prog_14_method_179_code 82 = .ok (.aload_n 0, 1) := by decide +kernel
theorem dR_doPlain_83 : decode prog_14_method_179_code 83 = .ok (.aload_n 0, 1) := by decide +kernel
theorem dR_doPlain_84 : decode prog_14_method_179_code 84 = .ok (.getfield 35, 3) := by decide +kernel
theorem dR_doPlain_87 : decode prog_14_method_179_code 87 = .ok (.bipush 127, 2) := by decide +kernel
theorem dR_doPlain_89 : decode prog_14_method_179_code 89 = .ok (.iload_n 3, 1) := by decide +kernel
theorem dR_doPlain_90 : decode prog_14_method_179_code 90 = .ok (.iconst 1, 1) := by decide +kernel
theorem dR_doPlain_91 : decode prog_14_method_179_code 91 = .ok (.iadd, 1) := by decide +kernel
theorem dR_doPlain_92 : decode prog_14_method_179_code 92 = .ok (.imul, 1) := by decide +kernel
theorem dR_doPlain_93 : decode prog_14_method_179_code 93 = .ok (.aload_n 0, 1) := by decide +kernel
theorem dR_doPlain_94 : decode prog_14_method_179_code 94 = .ok (.getfield 35, 3) := by decide +kernel
theorem dR_doPlain_97 : decode prog_14_method_179_code 97 = .ok (.iconst 0, 1) := by decide +kernel
theorem dR_doPlain_98 : decode prog_14_method_179_code 98 = .ok (.invokevirtual 316, 3) := by decide +kernel
theorem dR_doPlain_101 : decode prog_14_method_179_code 101 = .ok (.iconst 1, 1) := by decide +kernel
theorem dR_doPlain_102 : decode prog_14_method_179_code 102 = .ok (.ireturn, 1) := by decide +kernel
theorem t_R_doPlain {d : Nat} {x1 : Int} {σ : SG} {Q : Int → SG → Prop} (h : inI x1 → ((0 ≤ x1 ∧ x1 < 3440) ∧ (3 ≤ σ 166 x1 → (0 ≤ w32 (x1 + 1) ∧ w32 (x1 + 1) < 3440) ∧ (σ 166 x1 ≠ 3 → Tri d M_R_isEmpty [vA 161, vI (σ 166 (w32 (x1 + 1)))] σ (fun r3 σ3 => (r3 = 0 → (σ 166 x1 ≠ 5 → Tri d M_R_move [vA 161, vA 166, vI (w32 (127 * (w32 ((σ 166 (w32 (x1 + 1))) + 1)))), vA 166, vI 0] σ3 (fun r6 σ6 => Q 1 σ6)) ∧ (σ 166 x1 = 5 → Tri d M_R_sumWith [vA 161, vI (σ 166 (w32 (x1 + 1)))] σ3 (fun r7 σ7 => (r7 ≠ 0 → Q 0 σ7) ∧ (r7 = 0 → Q 1 σ7)))) ∧ (r3 ≠ 0 → Q 0 σ3))) ∧ (σ 166 x1 = 3 → Tri d M_R_move [vA 161, vA 166, vI 0, vA 166, vI (w32 (127 * (w32 ((σ 166 (w32 (x1 + 1))) + 1))))] σ (fun r9 σ9 => Q 1 σ9))) ∧ (σ 166 x1 < 3 → Tri d M_R_linear [vA 161, vI x1] σ (fun r10 σ10 => (r10 = 0 ∨ r10 = 1) ∧ Q r10 σ10)))) : Tri (d + 1) M_R_doPlain [vA 161, vI x1] σ Q :=
  Tri_intro rfl (Nat.le_of_ble_eq_true rfl) (ls := [vA 161, vI x1, vU, vU]) rfl (fun hok => L_aload_n dR_doPlain_0 rfl (L_getF (b := 166) fw_R_35 rfl rfl (by decide) dR_doPlain_1 ⟨ob_161, L_iload_n dR_doPlain_4 rfl (L_ialoadL kd_166 dR_doPlain_5 ⟨(h (hok _ (List.mem_of_getElem? (i := 1) rfl))).1, L_istore_n dR_doPlain_6 (by decide) (L_iload_n dR_doPlain_7 rfl (L_iconst dR_doPlain_8 in_3 (L_icmp_ge dR_doPlain_9 (by decide) ⟨fun c1 => L_aload_n dR_doPlain_18 rfl (L_getF (b := 166) fw_R_35 rfl rfl (by decide) dR_doPlain_19 ⟨ob_161, L_iload_n dR_doPlain_22 rfl (L_iconst dR_doPlain_23 in_1 (L_iadd dR_doPlain_24 (L_ialoadL kd_166 dR_doPlain_25 ⟨((h (hok _ (List.mem_of_getElem? (i := 1) rfl))).2.1 c1).1, L_istore_n dR_doPlain_26 (by decide) (L_iload_n dR_doPlain_27 rfl (L_iconst dR_doPlain_28 in_3 (L_icmp_ne dR_doPlain_29 (by decide) ⟨fun c2 => L_aload_n dR_doPlain_53 rfl (L_iload_n dR_doPlain_54 rfl (L_callVI rfl cv_R_isEmpty (As := [vI (σ 166 (w32 (x1 + 1)))]) rfl (tk8 205 rfl rfl) rfl (Nat.le_of_ble_eq_true rfl) dR_doPlain_55 ⟨ob_161, Tri.mono (((h (hok _ (List.mem_of_getElem? (i := 1) rfl))).2.1 c1).2.1 c2) (fun r3 σ3 q3 => L_if_eq dR_doPlain_58 (by decide) ⟨fun c4 => L_iload_n dR_doPlain_63 rfl (L_iconst dR_doPlain_64 in_5 (L_icmp_ne dR_doPlain_65 (by decide) ⟨fun c5 => L_aload_n dR_doPlain_82 rfl (L_aload_n dR_doPlain_83 rfl (L_getF (b := 166) fw_R_35 rfl rfl (by decide) dR_doPlain_84 ⟨ob_161, L_bipush dR_doPlain_87 bp_127 in_127 (L_iload_n dR_doPlain_89 rfl (L_iconst dR_doPlain_90 in_1 (L_iadd dR_doPlain_91 (L_imul dR_doPlain_92 (L_aload_n dR_doPlain_93 rfl (L_getF (b := 166) fw_R_35 rfl rfl (by decide) dR_doPlain_94 ⟨ob_161, L_iconst dR_doPlain_97 in_0 (L_callVV rfl cv_R_move (As := [vA 166, vI (w32 (127 * (w32 ((σ 166 (w32 (x1 + 1))) + 1)))), vA 166, vI 0]) rfl (tk8 100 rfl rfl) rfl (Nat.le_of_ble_eq_true rfl) dR_doPlain_98 ⟨ob_161, Tri.mono ((q3.1 c4).1 c5) (fun r6 σ6 q6 => L_iconst dR_doPlain_101 in_1 (L_zreturn1 rfl dR_doPlain_102 q6))⟩)⟩))))))⟩)), fun c5 => L_aload_n dR_doPlain_68 rfl (L_iload_n dR_doPlain_69 rfl (L_callVI rfl cv_R_sumWith (As := [vI (σ 166 (w32 (x1 + 1)))]) rfl (tk10 76 rfl rfl) rfl (Nat.le_of_ble_eq_true rfl) dR_doPlain_70 ⟨ob_161, Tri.mono ((q3.1 c4).2 c5) (fun r7 σ7 q7 => L_if_ne dR_doPlain_73 (by decide) ⟨fun c8 => L_iconst dR_doPlain_80 in_0 (L_zreturn0 rfl dR_doPlain_81 (q7.1 c8)), fun c8 => L_iconst dR_doPlain_76 in_1 (L_goto dR_doPlain_77 (by decide) (L_zreturn1 rfl dR_doPlain_81 (q7.2 c8)))⟩)⟩))⟩)), fun c4 => L_iconst dR_doPlain_61 in_0 (L_zreturn0 rfl dR_doPlain_62 (q3.2 c4))⟩)⟩)), fun c2 => L_aload_n dR_doPlain_32 rfl (L_aload_n dR_doPlain_33 rfl (L_getF (b := 166) fw_R_35 rfl rfl (by decide) dR_doPlain_34 ⟨ob_161, L_iconst dR_doPlain_37 in_0 (L_aload_n dR_doPlain_38 rfl (L_getF (b := 166) fw_R_35 rfl rfl (by decide) dR_doPlain_39 ⟨ob_161, L_bipush dR_doPlain_42 bp_127 in_127 (L_iload_n dR_doPlain_44 rfl (L_iconst dR_doPlain_45 in_1 (L_iadd dR_doPlain_46 (L_imul dR_doPlain_47 (L_callVV rfl cv_R_move (As := [vA 166, vI 0, vA 166, vI (w32 (127 * (w32 ((σ 166 (w32 (x1 + 1))) + 1))))]) rfl (tk8 100 rfl rfl) rfl (Nat.le_of_ble_eq_true rfl) dR_doPlain_48 ⟨ob_161, Tri.mono (((h (hok _ (List.mem_of_getElem? (i := 1) rfl))).2.1 c1).2.2 c2) (fun r9 σ9 q9 => L_iconst dR_doPlain_51 in_1 (L_zreturn1 rfl dR_doPlain_52 q9))⟩)))))⟩))⟩))⟩)))⟩)))⟩), fun c1 => L_aload_n dR_doPlain_12 rfl (L_iload_n dR_doPlain_13 rfl (L_callVI rfl cv_R_linear (As := [vI x1]) rfl (tk10 176 rfl rfl) rfl (Nat.le_of_ble_eq_true rfl) dR_doPlain_14 ⟨ob_161, Tri.mono ((h (hok _ (List.mem_of_getElem? (i := 1) rfl))).2.2 c1) (fun r10 σ10 q10 => L_zreturn rfl dR_doPlain_17 q10)⟩))⟩)))⟩)⟩))
theorem dR_compares_0 : decode prog_14_method_180_code 0 = .ok (.aload_n 0, 1) := by decide +kernel
theorem dR_compares_1 : decode prog_14_method_180_code 1 = .ok (.getfield 35, 3) := by decide +kernel
theorem dR_compares_4 : decode prog_14_method_180_code 4 = .ok (.iload_n 2, 1) := by decide +kernel
theorem dR_compares_5 : decode prog_14_method_180_code 5 = .ok (.iconst 4, 1) := by decide +kernel
theorem dR_compares_6 : decode prog_14_method_180_code 6 = .ok (.iadd, 1) := by decide +kernel
theorem dR_compares_7 : decode prog_14_method_180_code 7 = .ok (.iaload, 1) := by decide +kernel
theorem dR_compares_8 : decode prog_14_method_180_code 8 = .ok (.bipush 60, 2) := by decide +kernel
theorem dR_compares_10 : decode prog_14_method_180_code 10 = .ok (.if_icmp .ne 23, 3) := by decide +kernel
theorem dR_compares_13 : decode prog_14_method_180_code 13 = .ok (.iload_n 1, 1) := by decide +kernel
theorem dR_compares_14 : decode prog_14_method_180_code 14 = .ok (.aload_n 0, 1) := by decide +kernel
theorem dR_compares_15 : decode prog_14_method_180_code 15 = .ok (.getfield 35, 3) := by decide +kernel
theorem dR_compares_18 : decode prog_14_method_180_code 18 = .ok (.iload_n 2, 1) := by decide +kernel
theorem dR_compares_19 : decode prog_14_method_180_code 19 = .ok (.iconst 5, 1) := by decide +kernel
theorem dR_compares_20 : decode prog_14_method_180_code 20 = .ok (.iadd, 1) := by decide +kernel
theorem dR_compares_21 : decode prog_14_method_180_code 21 = .ok (.iaload, 1) := by decide +kernel
theorem dR_compares_22 : decode prog_14_method_180_code 22 = .ok (.if_icmp .ge 7, 3) := by decide +kernel
theorem dR_compares_25 : decode prog_14_method_180_code 25 = .ok (.iconst 1, 1) := by decide +kernel
theorem dR_compares_26 : decode prog_14_method_180_code 26 = .ok (.goto 57, 3) := by decide +kernel
theorem dR_compares_29 : decode prog_14_method_180_code 29 = .ok (.iconst 0, 1) := by decide +kernel
theorem dR_compares_30 : decode prog_14_method_180_code 30 = .ok (.goto 53, 3) := by decide +kernel
theorem dR_compares_33 : decode prog_14_method_180_code 33 = .ok (.aload_n 0, 1) := by decide +kernel
theorem dR_compares_34 : decode prog_14_method_180_code 34 = .ok (.getfield 35, 3) := by decide +kernel
theorem dR_compares_37 : decode prog_14_method_180_code 37 = .ok (.iload_n 2, 1) := by decide +kernel
theorem dR_compares_38 : decode prog_14_method_180_code 38 = .ok (.iconst 4, 1) := by decide +kernel
theorem dR_compares_39 : decode prog_14_method_180_code 39 = .ok (.iadd, 1) := by decide +kernel
theorem dR_compares_40 : decode prog_14_method_180_code 40 = .ok (.iaload, 1) := by decide +kernel
theorem dR_compares_41 : decode prog_14_method_180_code 41 = .ok (.bipush 62, 2) := by decide +kernel
theorem dR_compares_43 : decode prog_14_method_180_code 43 = .ok (.if_icmp .ne 23, 3) := by decide +kernel
theorem dR_compares_46 : decode prog_14_method_180_code 46 = .ok (.iload_n 1, 1) := by decide +kernel
theorem dR_compares_47 : decode prog_14_method_180_code 47 = .ok (.aload_n 0, 1) := by decide +kernel
theorem dR_compares_48 : decode prog_14_method_180_code 48 = .ok (.getfield 35, 3) := by decide +kernel
theorem dR_compares_51 : decode prog_14_method_180_code 51 = .ok (.iload_n 2, 1) := by decide +kernel
theorem dR_compares_52 : decode prog_14_method_180_code 52 = .ok (.iconst 5, 1) := by decide +kernel
theorem dR_compares_53 : decode prog_14_method_180_code 53 = .ok (.iadd, 1) := by decide +kernel
theorem dR_compares_54 : decode prog_14_method_180_code 54 = .ok (.iaload, 1) := by decide +kernel
theorem dR_compares_55 : decode prog_14_method_180_code 55 = .ok (.if_icmp .le 7, 3) := by decide +kernel
theorem dR_compares_58 : decode prog_14_method_180_code 58 = .ok (.iconst 1, 1) := by decide +kernel
theorem dR_compares_59 : decode prog_14_method_180_code 59 = .ok (.goto 24, 3) := by decide +kernel
theorem dR_compares_62 : decode prog_14_method_180_code 62 = .ok (.iconst 0, 1) := by decide +kernel
theorem dR_compares_63 : decode prog_14_method_180_code 63 = .ok (.goto 20, 3) := by decide +kernel
theorem dR_compares_66 : decode prog_14_method_180_code 66 = .ok (.iload_n 1, 1) := by decide +kernel
theorem dR_compares_67 : decode prog_14_method_180_code 67 = .ok (.aload_n 0, 1) := by decide +kernel
theorem dR_compares_68 : decode prog_14_method_180_code 68 = .ok (.getfield 35, 3) := by decide +kernel
theorem dR_compares_71 : decode prog_14_method_180_code 71 = .ok (.iload_n 2, 1) := by decide +kernel
theorem dR_compares_72 : decode prog_14_method_180_code 72 = .ok (.iconst 5, 1) := by decide +kernel
theorem dR_compares_73 : decode prog_14_method_180_code 73 = .ok (.iadd, 1) := by decide +kernel
theorem dR_compares_74 : decode prog_14_method_180_code 74 = .ok (.iaload, 1) := by decide +kernel
theorem dR_compares_75 : decode prog_14_method_180_code 75 = .ok (.if_icmp .ne 7, 3) := by decide +kernel
theorem dR_compares_78 : decode prog_14_method_180_code 78 = .ok (.iconst 1, 1) := by decide +kernel
theorem dR_compares_79 : decode prog_14_method_180_code 79 = .ok (.goto 4, 3) := by decide +kernel
theorem dR_compares_82 : decode prog_14_method_180_code 82 = .ok (.iconst 0, 1) := by decide +kernel
theorem dR_compares_83 : decode prog_14_method_180_code 83 = .ok (.ireturn, 1) := by decide +kernel
theorem t_R_compares {d : Nat} {x1 x2 : Int} {σ : SG} {Q : Int → SG → Prop} (h : inI x1 → inI x2 → ((0 ≤ w32 (x2 + 4) ∧ w32 (x2 + 4) < 3440) ∧ (σ 166 (w32 (x2 + 4)) ≠ 60 → (0 ≤ w32 (x2 + 4) ∧ w32 (x2 + 4) < 3440) ∧ (σ 166 (w32 (x2 + 4)) ≠ 62 → (0 ≤ w32 (x2 + 5) ∧ w32 (x2 + 5) < 3440) ∧ (x1 ≠ σ 166 (w32 (x2 + 5)) → Q 0 σ) ∧ (x1 = σ 166 (w32 (x2 + 5)) → Q 1 σ)) ∧ (σ 166 (w32 (x2 + 4)) = 62 → (0 ≤ w32 (x2 + 5) ∧ w32 (x2 + 5) < 3440) ∧ (x1 ≤ σ 166 (w32 (x2 + 5)) → Q 0 σ) ∧ (σ 166 (w32 (x2 + 5)) < x1 → Q 1 σ))) ∧ (σ 166 (w32 (x2 + 4)) = 60 → (0 ≤ w32 (x2 + 5) ∧ w32 (x2 + 5) < 3440) ∧ (σ 166 (w32 (x2 + 5)) ≤ x1 → Q 0 σ) ∧ (x1 < σ 166 (w32 (x2 + 5)) → Q 1 σ)))) : Tri (d + 1) M_R_compares [vA 161, vI x1, vI x2] σ Q :=
  Tri_intro rfl (Nat.le_of_ble_eq_true rfl) (ls := [vA 161, vI x1, vI x2]) rfl (fun hok => L_aload_n dR_compares_0 rfl (L_getF (b := 166) fw_R_35 rfl rfl (by decide) dR_compares_1 ⟨ob_161, L_iload_n dR_compares_4 rfl (L_iconst dR_compares_5 in_4 (L_iadd dR_compares_6 (L_ialoadL kd_166 dR_compares_7 ⟨(h (hok _ (List.mem_of_getElem? (i := 1) rfl)) (hok _ (List.mem_of_getElem? (i := 2) rfl))).1, L_bipush dR_compares_8 bp_60 in_60 (L_icmp_ne dR_compares_10 (by decide) ⟨fun c1 => L_aload_n dR_compares_33 rfl (L_getF (b := 166) fw_R_35 rfl rfl (by decide) dR_compares_34 ⟨ob_161, L_iload_n dR_compares_37 rfl (L_iconst dR_compares_38 in_4 (L_iadd dR_compares_39 (L_ialoadL kd_166 dR_compares_40 ⟨((h (hok _ (List.mem_of_getElem? (i := 1) rfl)) (hok _ (List.mem_of_getElem? (i := 2) rfl))).2.1 c1).1, L_bipush dR_compares_41 bp_62 in_62 (L_icmp_ne dR_compares_43 (by decide) ⟨fun c2 => L_iload_n dR_compares_66 rfl (L_aload_n dR_compares_67 rfl (L_getF (b := 166) fw_R_35 rfl rfl (by decide) dR_compares_68 ⟨ob_161, L_iload_n dR_compares_71 rfl (L_iconst dR_compares_72 in_5 (L_iadd dR_compares_73 (L_ialoadL kd_166 dR_compares_74 ⟨(((h (hok _ (List.mem_of_getElem? (i := 1) rfl)) (hok _ (List.mem_of_getElem? (i := 2) rfl))).2.1 c1).2.1 c2).1, L_icmp_ne dR_compares_75 (by decide) ⟨fun c3 => L_iconst dR_compares_82 in_0 (L_zreturn0 rfl dR_compares_83 ((((h (hok _ (List.mem_of_getElem? (i := 1) rfl)) (hok _ (List.mem_of_getElem? (i := 2) rfl))).2.1 c1).2.1 c2).2.1 c3)), fun c3 => L_iconst dR_compares_78 in_1 (L_goto dR_compares_79 (by decide) (L_zreturn1 rfl dR_compares_83 ((((h (hok _ (List.mem_of_getElem? (i := 1) rfl)) (hok _ (List.mem_of_getElem? (i := 2) rfl))).2.1 c1).2.1 c2).2.2 c3)))⟩⟩)))⟩)), fun c2 => L_iload_n dR_compares_46 rfl (L_aload_n dR_compares_47 rfl (L_getF (b := 166) fw_R_35 rfl rfl (by decide) dR_compares_48 ⟨ob_161, L_iload_n dR_compares_51 rfl (L_iconst dR_compares_52 in_5 (L_iadd dR_compares_53 (L_ialoadL kd_166 dR_compares_54 ⟨(((h (hok _ (List.mem_of_getElem? (i := 1) rfl)) (hok _ (List.mem_of_getElem? (i := 2) rfl))).2.1 c1).2.2 c2).1, L_icmp_le dR_compares_55 (by decide) ⟨fun c4 => L_iconst dR_compares_62 in_0 (L_goto dR_compares_63 (by decide) (L_zreturn0 rfl dR_compares_83 ((((h (hok _ (List.mem_of_getElem? (i := 1) rfl)) (hok _ (List.mem_of_getElem? (i := 2) rfl))).2.1 c1).2.2 c2).2.1 c4))), fun c4 => L_iconst dR_compares_58 in_1 (L_goto dR_compares_59 (by decide) (L_zreturn1 rfl dR_compares_83 ((((h (hok _ (List.mem_of_getElem? (i := 1) rfl)) (hok _ (List.mem_of_getElem? (i := 2) rfl))).2.1 c1).2.2 c2).2.2 c4)))⟩⟩)))⟩))⟩)⟩)))⟩), fun c1 => L_iload_n dR_compares_13 rfl (L_aload_n dR_compares_14 rfl (L_getF (b := 166) fw_R_35 rfl rfl (by decide) dR_compares_15 ⟨ob_161, L_iload_n dR_compares_18 rfl (L_iconst dR_compares_19 in_5 (L_iadd dR_compares_20 (L_ialoadL kd_166 dR_compares_21 ⟨((h (hok _ (List.mem_of_getElem? (i := 1) rfl)) (hok _ (List.mem_of_getElem? (i := 2) rfl))).2.2 c1).1, L_icmp_ge dR_compares_22 (by decide) ⟨fun c5 => L_iconst dR_compares_29 in_0 (L_goto dR_compares_30 (by decide) (L_zreturn0 rfl dR_compares_83 (((h (hok _ (List.mem_of_getElem? (i := 1) rfl)) (hok _ (List.mem_of_getElem? (i := 2) rfl))).2.2 c1).2.1 c5))), fun c5 => L_iconst dR_compares_25 in_1 (L_goto dR_compares_26 (by decide) (L_zreturn1 rfl dR_compares_83 (((h (hok _ (List.mem_of_getElem? (i := 1) rfl)) (hok _ (List.mem_of_getElem? (i := 2) rfl))).2.2 c1).2.2 c5)))⟩⟩)))⟩))⟩)⟩)))⟩))
theorem dR_isSoNow_0 : decode prog_14_method_181_code 0 = .ok (.aload_n 0, 1) := by decide +kernel
theorem dR_isSoNow_1 : decode prog_14_method_181_code 1 = .ok (.getfield 35, 3) := by decide +kernel
theorem dR_isSoNow_4 : decode prog_14_method_181_code 4 = .ok (.iload_n 1, 1) := by decide +kernel
theorem dR_isSoNow_5 : decode prog_14_method_181_code 5 = .ok (.iconst 1, 1) := by decide +kernel
theorem dR_isSoNow_6 : decode prog_14_method_181_code 6 = .ok (.iadd, 1) := by decide +kernel
theorem dR_isSoNow_7 : decode prog_14_method_181_code 7 = .ok (.iaload, 1) := by decide +kernel
theorem dR_isSoNow_8 : decode prog_14_method_181_code 8 = .ok (.istore_n 2, 1) := by decide +kernel
theorem dR_isSoNow_9 : decode prog_14_method_181_code 9 = .ok (.iload_n 2, 1) := by decide +kernel
theorem dR_isSoNow_10 : decode prog_14_method_181_code 10 = .ok (.ifCond .ne 8, 3) := by decide +kernel
theorem dR_isSoNow_13 : decode prog_14_method_181_code 13 = .ok (.aload_n 0, 1) := by decide +kernel
theorem dR_isSoNow_14 : decode prog_14_method_181_code 14 = .ok (.invokevirtual 379, 3) := by decide +kernel
theorem dR_isSoNow_17 : decode prog_14_method_181_code 17 = .ok (.ireturn, 1) := by decide +kernel
theorem dR_isSoNow_18 : decode prog_14_method_181_code 18 = .ok (.iload_n 2, 1) := by decide +kernel
theorem dR_isSoNow_19 : decode prog_14_method_181_code 19 = .ok (.iconst 4, 1) := by decide +kernel
theorem dR_isSoNow_20 : decode prog_14_method_181_code 20 = .ok (.if_icmp .ge 11, 3) := by decide +kernel
theorem dR_isSoNow_23 : decode prog_14_method_181_code 23 = .ok (.aload_n 0, 1) := by decide +kernel
theorem dR_isSoNow_24 : decode prog_14_method_181_code 24 = .ok (.iload_n 2, 1) := by decide +kernel
theorem dR_isSoNow_25 : decode prog_14_method_181_code 25 = .ok (.iconst 1, 1) := by decide +kernel
theorem dR_isSoNow_26 : decode prog_14_method_181_code 26 = .ok (.isub, 1) := by decide +kernel
theorem dR_isSoNow_27 : decode prog_14_method_181_code 27 = .ok (.invokevirtual 495, 3) := by decide +kernel
theorem dR_isSoNow_30 : decode prog_14_method_181_code 30 = .ok (.ireturn, 1) := by decide +kernel
theorem dR_isSoNow_31 : decode prog_14_method_181_code 31 = .ok (.iload_n 2, 1) := by decide +kernel
theorem dR_isSoNow_32 : decode prog_14_method_181_code 32 = .ok (.iconst 4, 1) := by decide +kernel
theorem dR_isSoNow_33 : decode prog_14_method_181_code 33 = .ok (.if_icmp .ne 22, 3) := by decide +kernel
theorem dR_isSoNow_36 : decode prog_14_method_181_code 36 = .ok (.aload_n 0, 1) := by decide +kernel
theorem dR_isSoNow_37 : decode prog_14_method_181_code 37 = .ok (.aload_n 0, 1) := by decide +kernel
theorem dR_isSoNow_38 : decode prog_14_method_181_code 38 = .ok (.aload_n 0, 1) := by decide +kernel
theorem dR_isSoNow_39 : decode prog_14_method_181_code 39 = .ok (.getfield 35, 3) := by decide +kernel
theorem dR_isSoNow_42 : decode prog_14_method_181_code 42 = .ok (.iload_n 1, 1) := by decide +kernel
theorem dR_isSoNow_43 : decode prog_14_method_181_code 43 = .ok (.iconst 2, 1) := by decide +kernel
theorem dR_isSoNow_44 : decode prog_14_method_181_code 44 = .ok (.iadd, 1) := by decide +kernel
theorem dR_isSoNow_45 : decode prog_14_method_181_code 45 = .ok (.iaload, 1) := by decide +kernel
theorem dR_isSoNow_46 : decode prog_14_method_181_code 46 = .ok (.iconst 0, 1) := by decide +kernel
theorem dR_isSoNow_47 : decode prog_14_method_181_code 47 = .ok (.invokevirtual 419, 3) := by decide +kernel
theorem dR_isSoNow_50 : decode prog_14_method_181_code 50 = .ok (.iload_n 1, 1) := by decide +kernel
theorem dR_isSoNow_51 : decode prog_14_method_181_code 51 = .ok (.invokevirtual 664, 3) := by decide +kernel
theorem dR_isSoNow_54 : decode prog_14_method_181_code 54 = .ok (.ireturn, 1) := by decide +kernel
theorem dR_isSoNow_55 : decode prog_14_method_181_code 55 = .ok (.iload_n 2, 1) := by decide +kernel
theorem dR_isSoNow_56 : decode prog_14_method_181_code 56 = .ok (.iconst 5, 1) := by decide +kernel
theorem dR_isSoNow_57 : decode prog_14_method_181_code 57 = .ok (.if_icmp .ne 13, 3) := by decide +kernel
theorem dR_isSoNow_60 : decode prog_14_method_181_code 60 = .ok (.aload_n 0, 1) := by decide +kernel
theorem dR_isSoNow_61 : decode prog_14_method_181_code 61 = .ok (.aload_n 0, 1) := by decide +kernel
theorem dR_isSoNow_62 : decode prog_14_method_181_code 62 = .ok (.getfield 253, 3) := by decide +kernel
theorem dR_isSoNow_65 : decode prog_14_method_181_code 65 = .ok (.iload_n 1, 1) := by decide +kernel
theorem dR_isSoNow_66 : decode prog_14_method_181_code 66 = .ok (.invokevirtual 664, 3) := by decide +kernel
theorem dR_isSoNow_69 : decode prog_14_method_181_code 69 = .ok (.ireturn, 1) := by decide +kernel
theorem dR_isSoNow_70 : decode prog_14_method_181_code 70 = .ok (.aload_n 0, 1) := by decide +kernel
theorem dR_isSoNow_71 : decode prog_14_method_181_code 71 = .ok (.aload_n 0, 1) := by decide +kernel
theorem dR_isSoNow_72 : decode prog_14_method_181_code 72 = .ok (.getfield 35, 3) := by decide +kernel
theorem dR_isSoNow_75 : decode prog_14_method_181_code 75 = .ok (.iload_n 1, 1) := by decide +kernel
theorem dR_isSoNow_76 : decode prog_14_method_181_code 76 = .ok (.iconst 2, 1) := by decide +kernel
theorem dR_isSoNow_77 : decode prog_14_method_181_code 77 = .ok (.iadd, 1) := by decide +kernel
theorem dR_isSoNow_78 : decode prog_14_method_181_code 78 = .ok (.iaload, 1) := by decide +kernel
theorem dR_isSoNow_79 : decode prog_14_method_181_code 79 = .ok (.invokevirtual 387, 3) := by decide +kernel
theorem dR_isSoNow_82 : decode prog_14_method_181_code 82 = .ok (.ifCond .ne 23, 3) := by decide +kernel
theorem dR_isSoNow_85 : decode prog_14_method_181_code 85 = .ok (.aload_n 0, 1) := by decide +kernel
theorem dR_isSoNow_86 : decode prog_14_method_181_code 86 = .ok (.aload_n 0, 1) := by decide +kernel
theorem dR_isSoNow_87 : decode prog_14_method_181_code 87 = .ok (.getfield 35, 3) := by decide +kernel
theorem dR_isSoNow_90 : decode prog_14_method_181_code 90 = .ok (.iload_n 1, 1) := by decide +kernel
theorem dR_isSoNow_91 : decode prog_14_method_181_code 91 = .ok (.iconst 2, 1) := by decide +kernel
theorem dR_isSoNow_92 : decode prog_14_method_181_code 92 = .ok (.iadd, 1) := by decide +kernel
theorem dR_isSoNow_93 : decode prog_14_method_181_code 93 = .ok (.iaload, 1) := by decide +kernel
theorem dR_isSoNow_94 : decode prog_14_method_181_code 94 = .ok (.invokevirtual 573, 3) := by decide +kernel
theorem dR_isSoNow_97 : decode prog_14_method_181_code 97 = .ok (.iconst 1, 1) := by decide +kernel
theorem dR_isSoNow_98 : decode prog_14_method_181_code 98 = .ok (.if_icmp .ne 7, 3) := by decide +kernel
theorem dR_isSoNow_101 : decode prog_14_method_181_code 101 = .ok (.iconst 1, 1) := by decide +kernel
theorem dR_isSoNow_102 : decode prog_14_method_181_code 102 = .ok (.goto 4, 3) := by decide +kernel
theorem dR_isSoNow_105 : decode prog_14_method_181_code 105 = .ok (.iconst 0, 1) := by decide +kernel
theorem dR_isSoNow_106 : decode prog_14_method_181_code 106 = .ok (.ireturn, 1) := by decide +kernel
theorem t_R_isSoNow {d : Nat} {x1 : Int} {σ : SG} {Q : Int → SG → Prop} (h : inI x1 → ((0 ≤ w32 (x1 + 1) ∧ w32 (x1 + 1) < 3440) ∧ (σ 166 (w32 (x1 + 1)) ≠ 0 → (4 ≤ σ 166 (w32 (x1 + 1)) → (σ 166 (w32 (x1 + 1)) ≠ 4 → (σ 166 (w32 (x1 + 1)) ≠ 5 → (0 ≤ w32 (x1 + 2) ∧ w32 (x1 + 2) < 3440) ∧ Tri d M_R_isEmpty [vA 161, vI (σ 166 (w32 (x1 + 2)))] σ (fun r5 σ5 => (r5 ≠ 0 → Q 0 σ5) ∧ (r5 = 0 → (0 ≤ w32 (x1 + 2) ∧ w32 (x1 + 2) < 3440) ∧ Tri d M_R_same [vA 161, vI (σ5 166 (w32 (x1 + 2)))] σ5 (fun r7 σ7 => (r7 ≠ 1 → Q 0 σ7) ∧ (r7 = 1 → Q 1 σ7))))) ∧ (σ 166 (w32 (x1 + 1)) = 5 → Tri d M_R_compares [vA 161, vI (σ 161 27), vI x1] σ (fun r9 σ9 => (r9 = 0 ∨ r9 = 1) ∧ Q r9 σ9))) ∧ (σ 166 (w32 (x1 + 1)) = 4 → (0 ≤ w32 (x1 + 2) ∧ w32 (x1 + 2) < 3440) ∧ Tri d M_R_seriesOf [vA 161, vI (σ 166 (w32 (x1 + 2))), vI 0] σ (fun r10 σ10 => Tri d M_R_compares [vA 161, vI r10, vI x1] σ10 (fun r11 σ11 => (r11 = 0 ∨ r11 = 1) ∧ Q r11 σ11)))) ∧ (σ 166 (w32 (x1 + 1)) < 4 → Tri d M_R_isSo [vA 161, vI (w32 ((σ 166 (w32 (x1 + 1))) - 1))] σ (fun r12 σ12 => (r12 = 0 ∨ r12 = 1) ∧ Q r12 σ12))) ∧ (σ 166 (w32 (x1 + 1)) = 0 → Tri d M_R_isLawful [vA 161] σ (fun r13 σ13 => (r13 = 0 ∨ r13 = 1) ∧ Q r13 σ13)))) : Tri (d + 1) M_R_isSoNow [vA 161, vI x1] σ Q :=
  Tri_intro rfl (Nat.le_of_ble_eq_true rfl) (ls := [vA 161, vI x1, vU]) rfl (fun hok => L_aload_n dR_isSoNow_0 rfl (L_getF (b := 166) fw_R_35 rfl rfl (by decide) dR_isSoNow_1 ⟨ob_161, L_iload_n dR_isSoNow_4 rfl (L_iconst dR_isSoNow_5 in_1 (L_iadd dR_isSoNow_6 (L_ialoadL kd_166 dR_isSoNow_7 ⟨(h (hok _ (List.mem_of_getElem? (i := 1) rfl))).1, L_istore_n dR_isSoNow_8 (by decide) (L_iload_n dR_isSoNow_9 rfl (L_if_ne dR_isSoNow_10 (by decide) ⟨fun c1 => L_iload_n dR_isSoNow_18 rfl (L_iconst dR_isSoNow_19 in_4 (L_icmp_ge dR_isSoNow_20 (by decide) ⟨fun c2 => L_iload_n dR_isSoNow_31 rfl (L_iconst dR_isSoNow_32 in_4 (L_icmp_ne dR_isSoNow_33 (by decide) ⟨fun c3 => L_iload_n dR_isSoNow_55 rfl (L_iconst dR_isSoNow_56 in_5 (L_icmp_ne dR_isSoNow_57 (by decide) ⟨fun c4 => L_aload_n dR_isSoNow_70 rfl (L_aload_n dR_isSoNow_71 rfl (L_getF (b := 166) fw_R_35 rfl rfl (by decide) dR_isSoNow_72 ⟨ob_161, L_iload_n dR_isSoNow_75 rfl (L_iconst dR_isSoNow_76 in_2 (L_iadd dR_isSoNow_77 (L_ialoadL kd_166 dR_isSoNow_78 ⟨(((((h (hok _ (List.mem_of_getElem? (i := 1) rfl))).2.1 c1).1 c2).1 c3).1 c4).1, L_callVI rfl cv_R_isEmpty (As := [vI (σ 166 (w32 (x1 + 2)))]) rfl (tk8 205 rfl rfl) rfl (Nat.le_of_ble_eq_true rfl) dR_isSoNow_79 ⟨ob_161, Tri.mono ((((((h (hok _ (List.mem_of_getElem? (i := 1) rfl))).2.1 c1).1 c2).1 c3).1 c4).2) (fun r5 σ5 q5 => L_if_ne dR_isSoNow_82 (by decide) ⟨fun c6 => L_iconst dR_isSoNow_105 in_0 (L_zreturn0 rfl dR_isSoNow_106 (q5.1 c6)), fun c6 => L_aload_n dR_isSoNow_85 rfl (L_aload_n dR_isSoNow_86 rfl (L_getF (b := 166) fw_R_35 rfl rfl (by decide) dR_isSoNow_87 ⟨ob_161, L_iload_n dR_isSoNow_90 rfl (L_iconst dR_isSoNow_91 in_2 (L_iadd dR_isSoNow_92 (L_ialoadL kd_166 dR_isSoNow_93 ⟨(q5.2 c6).1, L_callVI rfl cv_R_same (As := [vI (σ5 166 (w32 (x1 + 2)))]) rfl (tk9 231 rfl rfl) rfl (Nat.le_of_ble_eq_true rfl) dR_isSoNow_94 ⟨ob_161, Tri.mono ((q5.2 c6).2) (fun r7 σ7 q7 => L_iconst dR_isSoNow_97 in_1 (L_icmp_ne dR_isSoNow_98 (by decide) ⟨fun c8 => L_iconst dR_isSoNow_105 in_0 (L_zreturn0 rfl dR_isSoNow_106 (q7.1 c8)), fun c8 => L_iconst dR_isSoNow_101 in_1 (L_goto dR_isSoNow_102 (by decide) (L_zreturn1 rfl dR_isSoNow_106 (q7.2 c8)))⟩))⟩⟩)))⟩))⟩)⟩⟩)))⟩)), fun c4 => L_aload_n dR_isSoNow_60 rfl (L_aload_n dR_isSoNow_61 rfl (L_getf fw_R_253 rfl dR_isSoNow_62 ⟨ob_161, L_iload_n dR_isSoNow_65 rfl (L_callVI rfl cv_R_compares (As := [vI (σ 161 27), vI x1]) rfl (tk10 168 rfl rfl) rfl (Nat.le_of_ble_eq_true rfl) dR_isSoNow_66 ⟨ob_161, Tri.mono (((((h (hok _ (List.mem_of_getElem? (i := 1) rfl))).2.1 c1).1 c2).1 c3).2 c4) (fun r9 σ9 q9 => L_zreturn rfl dR_isSoNow_69 q9)⟩)⟩))⟩)), fun c3 => L_aload_n dR_isSoNow_36 rfl (L_aload_n dR_isSoNow_37 rfl (L_aload_n dR_isSoNow_38 rfl (L_getF (b := 166) fw_R_35 rfl rfl (by decide) dR_isSoNow_39 ⟨ob_161, L_iload_n dR_isSoNow_42 rfl (L_iconst dR_isSoNow_43 in_2 (L_iadd dR_isSoNow_44 (L_ialoadL kd_166 dR_isSoNow_45 ⟨((((h (hok _ (List.mem_of_getElem? (i := 1) rfl))).2.1 c1).1 c2).2 c3).1, L_iconst dR_isSoNow_46 in_0 (L_callVI rfl cv_R_seriesOf (As := [vI (σ 166 (w32 (x1 + 2))), vI 0]) rfl (tk9 15 rfl rfl) rfl (Nat.le_of_ble_eq_true rfl) dR_isSoNow_47 ⟨ob_161, Tri.mono (((((h (hok _ (List.mem_of_getElem? (i := 1) rfl))).2.1 c1).1 c2).2 c3).2) (fun r10 σ10 q10 => L_iload_n dR_isSoNow_50 rfl (L_callVI rfl cv_R_compares (As := [vI r10, vI x1]) rfl (tk10 168 rfl rfl) rfl (Nat.le_of_ble_eq_true rfl) dR_isSoNow_51 ⟨ob_161, Tri.mono q10 (fun r11 σ11 q11 => L_zreturn rfl dR_isSoNow_54 q11)⟩))⟩)⟩)))⟩)))⟩)), fun c2 => L_aload_n dR_isSoNow_23 rfl (L_iload_n dR_isSoNow_24 rfl (L_iconst dR_isSoNow_25 in_1 (L_isub dR_isSoNow_26 (L_callVI rfl cv_R_isSo (As := [vI (w32 ((σ 166 (w32 (x1 + 1))) - 1))]) rfl (tk9 119 rfl rfl) rfl (Nat.le_of_ble_eq_true rfl) dR_isSoNow_27 ⟨ob_161, Tri.mono (((h (hok _ (List.mem_of_getElem? (i := 1) rfl))).2.1 c1).2 c2) (fun r12 σ12 q12 => L_zreturn rfl dR_isSoNow_30 q12)⟩))))⟩)), fun c1 => L_aload_n dR_isSoNow_13 rfl (L_callVI rfl cv_R_isLawful (As := []) rfl (tk8 169 rfl rfl) rfl (Nat.le_of_ble_eq_true rfl) dR_isSoNow_14 ⟨ob_161, Tri.mono ((h (hok _ (List.mem_of_getElem? (i := 1) rfl))).2.2 c1) (fun r13 σ13 q13 => L_zreturn rfl dR_isSoNow_17 q13)⟩)⟩))⟩)))⟩))
theorem dR_doOne_0 : decode prog_14_method_182_code 0 = .ok (.aload_n 0, 1) := by decide +kernel
theorem dR_doOne_1 : decode prog_14_method_182_code 1 = .ok (.getfield 667, 3) := by decide +kernel
theorem dR_doOne_4 : decode prog_14_method_182_code 4 = .ok (.sipush 300, 3) := by decide +kernel
theorem dR_doOne_7 : decode prog_14_method_182_code 7 = .ok (.if_icmp .ne 14, 3) := by decide +kernel
theorem dR_doOne_10 : decode prog_14_method_182_code 10 = .ok (.aload_n 0, 1) := by decide +kernel
theorem dR_doOne_11 : decode prog_14_method_182_code 11 = .ok (.iconst 1, 1) := by decide +kernel
theorem dR_doOne_12 : decode prog_14_method_182_code 12 = .ok (.putfield 670, 3) := by decide +kernel
theorem dR_doOne_15 : decode prog_14_method_182_code 15 = .ok (.aload_n 0, 1) := by decide +kernel
theorem dR_doOne_16 : decode prog_14_method_182_code 16 = .ok (.iconst 1, 1) := by decide +kernel
theorem dR_doOne_17 : decode prog_14_method_182_code 17 = .ok (.putfield 673, 3) := by decide +kernel
theorem dR_doOne_20 : decode prog_14_method_182_code 20 = .ok (.return_, 1) := by decide +kernel
theorem dR_doOne_21 : decode prog_14_method_182_code 21 = .ok (.aload_n 0, 1) := by decide +kernel
theorem dR_doOne_22 : decode prog_14_method_182_code 22 = .ok (.dup, 1) := by decide +kernel
theorem dR_doOne_23 : decode prog_14_method_182_code 23 = .ok (.getfield 667, 3) := by decide +kernel
theorem dR_doOne_26 : decode prog_14_method_182_code 26 = .ok (.iconst 1, 1) := by decide +kernel
theorem dR_doOne_27 : decode prog_14_method_182_code 27 = .ok (.iadd, 1) := by decide +kernel
theorem dR_doOne_28 : decode prog_14_method_182_code 28 = .ok (.putfield 667, 3) := by decide +kernel
theorem dR_doOne_31 : decode prog_14_method_182_code 31 = .ok (.sipush 637, 3) := by decide +kernel
theorem dR_doOne_34 : decode prog_14_method_182_code 34 = .ok (.bipush 7, 2) := by decide +kernel
theorem dR_doOne_36 : decode prog_14_method_182_code 36 = .ok (.iload_n 1, 1) := by decide +kernel
theorem dR_doOne_37 : decode prog_14_method_182_code 37 = .ok (.imul, 1) := by decide +kernel
theorem dR_doOne_38 : decode prog_14_method_182_code 38 = .ok (.iadd, 1) := by decide +kernel
theorem dR_doOne_39 : decode prog_14_method_182_code 39 = .ok (.istore_n 2, 1) := by decide +kernel
theorem dR_doOne_40 : decode prog_14_method_182_code 40 = .ok (.aload_n 0, 1) := by decide +kernel
theorem dR_doOne_41 : decode prog_14_method_182_code 41 = .ok (.invokevirtual 348, 3) := by decide +kernel
theorem dR_doOne_44 : decode prog_14_method_182_code 44 = .ok (.aload_n 0, 1) := by decide +kernel
theorem dR_doOne_45 : decode prog_14_method_182_code 45 = .ok (.getfield 35, 3) := by decide +kernel
theorem dR_doOne_48 : decode prog_14_method_182_code 48 = .ok (.iload_n 2, 1) := by decide +kernel
theorem dR_doOne_49 : decode prog_14_method_182_code 49 = .ok (.iaload, 1) := by decide +kernel
theorem dR_doOne_50 : decode prog_14_method_182_code 50 = .ok (.bipush 6, 2) := by decide +kernel
theorem dR_doOne_52 : decode prog_14_method_182_code 52 = .ok (.if_icmp .ne 30, 3) := by decide +kernel
theorem dR_doOne_55 : decode prog_14_method_182_code 55 = .ok (.aload_n 0, 1) := by decide +kernel
theorem dR_doOne_56 : decode prog_14_method_182_code 56 = .ok (.iload_n 2, 1) := by decide +kernel
theorem dR_doOne_57 : decode prog_14_method_182_code 57 = .ok (.invokevirtual 676, 3) := by decide +kernel
theorem dR_doOne_60 : decode prog_14_method_182_code 60 = .ok (.ifCond .eq 116, 3) := by decide +kernel
theorem dR_doOne_63 : decode prog_14_method_182_code 63 = .ok (.aload_n 0, 1) := by decide +kernel
theorem dR_doOne_64 : decode prog_14_method_182_code 64 = .ok (.iload_n 1, 1) := by decide +kernel
theorem dR_doOne_65 : decode prog_14_method_182_code 65 = .ok (.iconst 1, 1) := by decide +kernel
theorem dR_doOne_66 : decode prog_14_method_182_code 66 = .ok (.iadd, 1) := by decide +kernel
theorem dR_doOne_67 : decode prog_14_method_182_code 67 = .ok (.aload_n 0, 1) := by decide +kernel
theorem dR_doOne_68 : decode prog_14_method_182_code 68 = .ok (.getfield 35, 3) := by decide +kernel
theorem dR_doOne_71 : decode prog_14_method_182_code 71 = .ok (.iload_n 2, 1) := by decide +kernel
theorem dR_doOne_72 : decode prog_14_method_182_code 72 = .ok (.bipush 6, 2) := by decide +kernel
theorem dR_doOne_74 : decode prog_14_method_182_code 74 = .ok (.iadd, 1) := by decide +kernel
theorem dR_doOne_75 : decode prog_14_method_182_code 75 = .ok (.iaload, 1) := by decide +kernel
theorem dR_doOne_76 : decode prog_14_method_182_code 76 = .ok (.invokevirtual 679, 3) := by decide +kernel
theorem dR_doOne_79 : decode prog_14_method_182_code 79 = .ok (.goto 97, 3) := by decide +kernel
theorem dR_doOne_82 : decode prog_14_method_182_code 82 = .ok (.aload_n 0, 1) := by decide +kernel
theorem dR_doOne_83 : decode prog_14_method_182_code 83 = .ok (.getfield 35, 3) := by decide +kernel
theorem dR_doOne_86 : decode prog_14_method_182_code 86 = .ok (.iload_n 2, 1) := by decide +kernel
theorem dR_doOne_87 : decode prog_14_method_182_code 87 = .ok (.iaload, 1) := by decide +kernel
theorem dR_doOne_88 : decode prog_14_method_182_code 88 = .ok (.bipush 7, 2) := by decide +kernel
theorem dR_doOne_90 : decode prog_14_method_182_code 90 = .ok (.if_icmp .ne 49, 3) := by decide +kernel
theorem dR_doOne_93 : decode prog_14_method_182_code 93 = .ok (.iconst 0, 1) := by decide +kernel
theorem dR_doOne_94 : decode prog_14_method_182_code 94 = .ok (.istore_n 3, 1) := by decide +kernel
theorem dR_doOne_95 : decode prog_14_method_182_code 95 = .ok (.iload_n 3, 1) := by decide +kernel
theorem dR_doOne_96 : decode prog_14_method_182_code 96 = .ok (.aload_n 0, 1) := by decide +kernel
theorem dR_doOne_97 : decode prog_14_method_182_code 97 = .ok (.getfield 35, 3) := by decide +kernel
theorem dR_doOne_100 : decode prog_14_method_182_code 100 = .ok (.iload_n 2, 1) := by decide +kernel
theorem dR_doOne_101 : decode prog_14_method_182_code 101 = .ok (.iconst 1, 1) := by decide +kernel
theorem dR_doOne_102 : decode prog_14_method_182_code 102 = .ok (.iadd, 1) := by decide +kernel
theorem dR_doOne_103 : decode prog_14_method_182_code 103 = .ok (.iaload, 1) := by decide +kernel
theorem dR_doOne_104 : decode prog_14_method_182_code 104 = .ok (.if_icmp .ge 32, 3) := by decide +kernel
theorem dR_doOne_107 : decode prog_14_method_182_code 107 = .ok (.aload_n 0, 1) := by decide +kernel
theorem dR_doOne_108 : decode prog_14_method_182_code 108 = .ok (.getfield 673, 3) := by decide +kernel
theorem dR_doOne_111 : decode prog_14_method_182_code 111 = .ok (.ifCond .ne 25, 3) := by decide +kernel
theorem dR_doOne_114 : decode prog_14_method_182_code 114 = .ok (.aload_n 0, 1) := by decide +kernel
theorem dR_doOne_115 : decode prog_14_method_182_code 115 = .ok (.iload_n 1, 1) := by decide +kernel
theorem dR_doOne_116 : decode prog_14_method_182_code 116 = .ok (.iconst 1, 1) := by decide +kernel
theorem dR_doOne_117 : decode prog_14_method_182_code 117 = .ok (.iadd, 1) := by decide +kernel
theorem dR_doOne_118 : decode prog_14_method_182_code 118 = .ok (.aload_n 0, 1) := by decide +kernel
theorem dR_doOne_119 : decode prog_14_method_182_code 119 = .ok (.getfield 35, 3) := by decide +kernel
theorem dR_doOne_122 : decode prog_14_method_182_code 122 = .ok (.iload_n 2, 1) := by decide +kernel
theorem dR_doOne_123 : decode prog_14_method_182_code 123 = .ok (.bipush 6, 2) := by decide +kernel
theorem dR_doOne_125 : decode prog_14_method_182_code 125 = .ok (.iadd, 1) := by decide +kernel
theorem dR_doOne_126 : decode prog_14_method_182_code 126 = .ok (.iaload, 1) := by decide +kernel
theorem dR_doOne_127 : decode prog_14_method_182_code 127 = .ok (.invokevirtual 679, 3) := by decide +kernel
theorem dR_doOne_130 : decode prog_14_method_182_code 130 = .ok (.iinc 3 1, 3) := by decide +kernel
theorem dR_doOne_133 : decode prog_14_method_182_code 133 = .ok (.goto (-38), 3) := by decide +kernel
theorem dR_doOne_136 : decode prog_14_method_182_code 136 = .ok (.goto 40, 3) := by decide +kernel
theorem dR_doOne_139 : decode prog_14_method_182_code 139 = .ok (.aload_n 0, 1) := by decide +kernel
theorem dR_doOne_140 : decode prog_14_method_182_code 140 = .ok (.getfield 35, 3) := by decide +kernel
theorem dR_doOne_143 : decode prog_14_method_182_code 143 = .ok (.iload_n 2, 1) := by decide +kernel
theorem dR_doOne_144 : decode prog_14_method_182_code 144 = .ok (.iaload, 1) := by decide +kernel
theorem dR_doOne_145 : decode prog_14_method_182_code 145 = .ok (.bipush 7, 2) := by decide +kernel
theorem dR_doOne_147 : decode prog_14_method_182_code 147 = .ok (.if_icmp .le 11, 3) := by decide +kernel
theorem dR_doOne_150 : decode prog_14_method_182_code 150 = .ok (.aload_n 0, 1) := by decide +kernel
theorem dR_doOne_151 : decode prog_14_method_182_code 151 = .ok (.iconst 1, 1) := by decide +kernel
theorem dR_doOne_152 : decode prog_14_method_182_code 152 = .ok (.putfield 673, 3) := by decide +kernel
theorem dR_doOne_155 : decode prog_14_method_182_code 155 = .ok (.goto 21, 3) := by decide +kernel
theorem dR_doOne_158 : decode prog_14_method_182_code 158 = .ok (.aload_n 0, 1) := by decide +kernel
theorem dR_doOne_159 : decode prog_14_method_182_code 159 = .ok (.iload_n 2, 1) := by decide +kernel
theorem dR_doOne_160 : decode prog_14_method_182_code 160 = .ok (.invokevirtual 682, 3) := by decide +kernel
theorem dR_doOne_163 : decode prog_14_method_182_code 163 = .ok (.ifCond .ne 13, 3) := by decide +kernel
theorem dR_doOne_166 : decode prog_14_method_182_code 166 = .ok (.aload_n 0, 1) := by decide +kernel
theorem dR_doOne_167 : decode prog_14_method_182_code 167 = .ok (.dup, 1) := by decide +kernel
theorem dR_doOne_168 : decode prog_14_method_182_code 168 = .ok (.getfield 685, 3) := by decide +kernel
theorem dR_doOne_171 : decode prog_14_method_182_code 171 = .ok (.iconst 1, 1) := by decide +kernel
theorem dR_doOne_172 : decode prog_14_method_182_code 172 = .ok (.iadd, 1) := by decide +kernel
theorem dR_doOne_173 : decode prog_14_method_182_code 173 = .ok (.putfield 685, 3) := by decide +kernel
theorem dR_doOne_176 : decode prog_14_method_182_code 176 = .ok (.return_, 1) := by decide +kernel
theorem t_R_doOne {d : Nat} {x1 : Int} {σ : SG} {Q : Int → SG → Prop} (h : inI x1 → ((σ 161 51 ≠ 300 → (∀ σ2, σ2 = up σ 161 51 (w32 ((σ 161 51) + 1)) → Tri d M_R_askNow [vA 161] σ2 (fun r3 σ3 => (0 ≤ w32 (637 + (w32 (7 * x1))) ∧ w32 (637 + (w32 (7 * x1))) < 3440) ∧ (σ3 166 (w32 (637 + (w32 (7 * x1)))) ≠ 6 → (0 ≤ w32 (637 + (w32 (7 * x1))) ∧ w32 (637 + (w32 (7 * x1))) < 3440) ∧ (σ3 166 (w32 (637 + (w32 (7 * x1)))) ≠ 7 → (0 ≤ w32 (637 + (w32 (7 * x1))) ∧ w32 (637 + (w32 (7 * x1))) < 3440) ∧ (σ3 166 (w32 (637 + (w32 (7 * x1)))) ≤ 7 → Tri d M_R_doPlain [vA 161, vI (w32 (637 + (w32 (7 * x1))))] σ3 (fun r7 σ7 => (r7 ≠ 0 → Q 0 σ7) ∧ (r7 = 0 → (∀ σ9, σ9 = up σ7 161 52 (w32 ((σ7 161 52) + 1)) → Q 0 σ9)))) ∧ (7 < σ3 166 (w32 (637 + (w32 (7 * x1)))) → (∀ σ10, σ10 = up σ3 161 50 1 → Q 0 σ10))) ∧ (σ3 166 (w32 (637 + (w32 (7 * x1)))) = 7 → L (d + 1) M_R_doOne 95 [vA 161, vI x1, vI (w32 (637 + (w32 (7 * x1)))), vI 0] [] σ3 Q)) ∧ (σ3 166 (w32 (637 + (w32 (7 * x1)))) = 6 → Tri d M_R_isSoNow [vA 161, vI (w32 (637 + (w32 (7 * x1))))] σ3 (fun r11 σ11 => (r11 = 0 → Q 0 σ11) ∧ (r11 ≠ 0 → (0 ≤ w32 ((w32 (637 + (w32 (7 * x1)))) + 6) ∧ w32 ((w32 (637 + (w32 (7 * x1)))) + 6) < 3440) ∧ Tri d M_R_doAll [vA 161, vI (w32 (x1 + 1)), vI (σ11 166 (w32 ((w32 (637 + (w32 (7 * x1)))) + 6)))] σ11 (fun r13 σ13 => Q 0 σ13))))))) ∧ (σ 161 51 = 300 → (∀ σ14, σ14 = up σ 161 53 1 → (∀ σ15, σ15 = up σ14 161 50 1 → Q 0 σ15))))) : Tri (d + 1) M_R_doOne [vA 161, vI x1] σ Q :=
  Tri_intro rfl (Nat.le_of_ble_eq_true rfl) (ls := [vA 161, vI x1, vU, vU]) rfl (fun hok => L_aload_n dR_doOne_0 rfl (L_getf fw_R_667 rfl dR_doOne_1 ⟨ob_161, L_sipush dR_doOne_4 sp_300 in_300 (L_icmp_ne dR_doOne_7 (by decide) ⟨fun c1 => L_aload_n dR_doOne_21 rfl (L_dup dR_doOne_22 n21 (L_getf fw_R_667 rfl dR_doOne_23 ⟨ob_161, L_iconst dR_doOne_26 in_1 (L_iadd dR_doOne_27 (L_putfN fp_R_667 rfl rfl (fun _ => ⟨rfl, rfl⟩) dR_doOne_28 ⟨ob_161, fun σ2 e2 => L_sipush dR_doOne_31 sp_637 in_637 (L_bipush dR_doOne_34 bp_7 in_7 (L_iload_n dR_doOne_36 rfl (L_imul dR_doOne_37 (L_iadd dR_doOne_38 (L_istore_n dR_doOne_39 (by decide) (L_aload_n dR_doOne_40 rfl (L_callVV rfl cv_R_askNow (As := []) rfl (tk8 108 rfl rfl) rfl (Nat.le_of_ble_eq_true rfl) dR_doOne_41 ⟨ob_161, Tri.mono (((h (hok _ (List.mem_of_getElem? (i := 1) rfl))).1 c1) σ2 e2) (fun r3 σ3 q3 => L_aload_n dR_doOne_44 rfl (L_getF (b := 166) fw_R_35 rfl rfl (by decide) dR_doOne_45 ⟨ob_161, L_iload_n dR_doOne_48 rfl (L_ialoadL kd_166 dR_doOne_49 ⟨q3.1, L_bipush dR_doOne_50 bp_6 in_6 (L_icmp_ne dR_doOne_52 (by decide) ⟨fun c4 => L_aload_n dR_doOne_82 rfl (L_getF (b := 166) fw_R_35 rfl rfl (by decide) dR_doOne_83 ⟨ob_161, L_iload_n dR_doOne_86 rfl (L_ialoadL kd_166 dR_doOne_87 ⟨(q3.2.1 c4).1, L_bipush dR_doOne_88 bp_7 in_7 (L_icmp_ne dR_doOne_90 (by decide) ⟨fun c5 => L_aload_n dR_doOne_139 rfl (L_getF (b := 166) fw_R_35 rfl rfl (by decide) dR_doOne_140 ⟨ob_161, L_iload_n dR_doOne_143 rfl (L_ialoadL kd_166 dR_doOne_144 ⟨((q3.2.1 c4).2.1 c5).1, L_bipush dR_doOne_145 bp_7 in_7 (L_icmp_le dR_doOne_147 (by decide) ⟨fun c6 => L_aload_n dR_doOne_158 rfl (L_iload_n dR_doOne_159 rfl (L_callVI rfl cv_R_doPlain (As := [vI (w32 (637 + (w32 (7 * x1))))]) rfl (tk10 172 rfl rfl) rfl (Nat.le_of_ble_eq_true rfl) dR_doOne_160 ⟨ob_161, Tri.mono (((q3.2.1 c4).2.1 c5).2.1 c6) (fun r7 σ7 q7 => L_if_ne dR_doOne_163 (by decide) ⟨fun c8 => L_return rfl dR_doOne_176 (q7.1 c8), fun c8 => L_aload_n dR_doOne_166 rfl (L_dup dR_doOne_167 n21 (L_getf fw_R_685 rfl dR_doOne_168 ⟨ob_161, L_iconst dR_doOne_171 in_1 (L_iadd dR_doOne_172 (L_putfN fp_R_685 rfl rfl (fun _ => ⟨rfl, rfl⟩) dR_doOne_173 ⟨ob_161, fun σ9 e9 => L_return rfl dR_doOne_176 ((q7.2 c8) σ9 e9)⟩))⟩))⟩)⟩)), fun c6 => L_aload_n dR_doOne_150 rfl (L_iconst dR_doOne_151 in_1 (L_putfN fp_R_673 rfl rfl (fit_z (by decide)) dR_doOne_152 ⟨ob_161, fun σ10 e10 => L_goto dR_doOne_155 (by decide) (L_return rfl dR_doOne_176 ((((q3.2.1 c4).2.1 c5).2.2 c6) σ10 e10))⟩))⟩)⟩)⟩), fun c5 => L_iconst dR_doOne_93 in_0 (L_istore_n dR_doOne_94 (by decide) ((q3.2.1 c4).2.2 c5))⟩)⟩)⟩), fun c4 => L_aload_n dR_doOne_55 rfl (L_iload_n dR_doOne_56 rfl (L_callVI rfl cv_R_isSoNow (As := [vI (w32 (637 + (w32 (7 * x1))))]) rfl (tk10 164 rfl rfl) rfl (Nat.le_of_ble_eq_true rfl) dR_doOne_57 ⟨ob_161, Tri.mono (q3.2.2 c4) (fun r11 σ11 q11 => L_if_eq dR_doOne_60 (by decide) ⟨fun c12 => L_return rfl dR_doOne_176 (q11.1 c12), fun c12 => L_aload_n dR_doOne_63 rfl (L_iload_n dR_doOne_64 rfl (L_iconst dR_doOne_65 in_1 (L_iadd dR_doOne_66 (L_aload_n dR_doOne_67 rfl (L_getF (b := 166) fw_R_35 rfl rfl (by decide) dR_doOne_68 ⟨ob_161, L_iload_n dR_doOne_71 rfl (L_bipush dR_doOne_72 bp_6 in_6 (L_iadd dR_doOne_74 (L_ialoadL kd_166 dR_doOne_75 ⟨(q11.2 c12).1, L_callVV rfl cv_R_doAll (As := [vI (w32 (x1 + 1)), vI (σ11 166 (w32 ((w32 (637 + (w32 (7 * x1)))) + 6)))]) rfl (tk10 156 rfl rfl) rfl (Nat.le_of_ble_eq_true rfl) dR_doOne_76 ⟨ob_161, Tri.mono ((q11.2 c12).2) (fun r13 σ13 q13 => L_goto dR_doOne_79 (by decide) (L_return rfl dR_doOne_176 q13))⟩⟩)))⟩)))))⟩)⟩))⟩)⟩)⟩))⟩)))))))⟩))⟩)), fun c1 => L_aload_n dR_doOne_10 rfl (L_iconst dR_doOne_11 in_1 (L_putfN fp_R_670 rfl rfl (fun _ => ⟨rfl, rfl⟩) dR_doOne_12 ⟨ob_161, fun σ14 e14 => L_aload_n dR_doOne_15 rfl (L_iconst dR_doOne_16 in_1 (L_putfN fp_R_673 rfl rfl (fit_z (by decide)) dR_doOne_17 ⟨ob_161, fun σ15 e15 => L_return rfl dR_doOne_20 ((((h (hok _ (List.mem_of_getElem? (i := 1) rfl))).2 c1) σ14 e14) σ15 e15)⟩))⟩))⟩)⟩))
theorem s_R_doOne_95 {d : Nat} {x1 x2 x3 : Int} {σ : SG} {Q : Int → SG → Prop} (h : (0 ≤ w32 (x2 + 1) ∧ w32 (x2 + 1) < 3440) ∧ (σ 166 (w32 (x2 + 1)) ≤ x3 → Q 0 σ) ∧ (x3 < σ 166 (w32 (x2 + 1)) → (σ 161 50 ≠ 0 → Q 0 σ) ∧ (σ 161 50 = 0 → (0 ≤ w32 (x2 + 6) ∧ w32 (x2 + 6) < 3440) ∧ Tri d M_R_doAll [vA 161, vI (w32 (x1 + 1)), vI (σ 166 (w32 (x2 + 6)))] σ (fun r3 σ3 => L (d + 1) M_R_doOne 95 [vA 161, vI x1, vI x2, vI (w32 (x3 + 1))] [] σ3 Q)))) : L (d + 1) M_R_doOne 95 [vA 161, vI x1, vI x2, vI x3] [] σ Q :=
  L_iload_n dR_doOne_95 rfl (L_aload_n dR_doOne_96 rfl (L_getF (b := 166) fw_R_35 rfl rfl (by decide) dR_doOne_97 ⟨ob_161, L_iload_n dR_doOne_100 rfl (L_iconst dR_doOne_101 in_1 (L_iadd dR_doOne_102 (L_ialoadL kd_166 dR_doOne_103 ⟨h.1, L_icmp_ge dR_doOne_104 (by decide) ⟨fun c1 => L_goto dR_doOne_136 (by decide) (L_return rfl dR_doOne_176 (h.2.1 c1)), fun c1 => L_aload_n dR_doOne_107 rfl (L_getf fw_R_673 rfl dR_doOne_108 ⟨ob_161, L_if_ne dR_doOne_111 (by decide) ⟨fun c2 => L_goto dR_doOne_136 (by decide) (L_return rfl dR_doOne_176 ((h.2.2 c1).1 c2)), fun c2 => L_aload_n dR_doOne_114 rfl (L_iload_n dR_doOne_115 rfl (L_iconst dR_doOne_116 in_1 (L_iadd dR_doOne_117 (L_aload_n dR_doOne_118 rfl (L_getF (b := 166) fw_R_35 rfl rfl (by decide) dR_doOne_119 ⟨ob_161, L_iload_n dR_doOne_122 rfl (L_bipush dR_doOne_123 bp_6 in_6 (L_iadd dR_doOne_125 (L_ialoadL kd_166 dR_doOne_126 ⟨((h.2.2 c1).2 c2).1, L_callVV rfl cv_R_doAll (As := [vI (w32 (x1 + 1)), vI (σ 166 (w32 (x2 + 6)))]) rfl (tk10 156 rfl rfl) rfl (Nat.le_of_ble_eq_true rfl) dR_doOne_127 ⟨ob_161, Tri.mono (((h.2.2 c1).2 c2).2) (fun r3 σ3 q3 => L_iinc dR_doOne_130 rfl (by decide) (L_goto dR_doOne_133 (by decide) q3))⟩⟩)))⟩)))))⟩⟩)⟩⟩)))⟩))
theorem dR_doAll_0 : decode prog_14_method_183_code 0 = .ok (.iload_n 1, 1) := by decide +kernel
theorem dR_doAll_1 : decode prog_14_method_183_code 1 = .ok (.istore_n 3, 1) := by decide +kernel
theorem dR_doAll_2 : decode prog_14_method_183_code 2 = .ok (.iload_n 3, 1) := by decide +kernel
theorem dR_doAll_3 : decode prog_14_method_183_code 3 = .ok (.iload_n 2, 1) := by decide +kernel
theorem dR_doAll_4 : decode prog_14_method_183_code 4 = .ok (.if_icmp .ge 35, 3) := by decide +kernel
theorem dR_doAll_7 : decode prog_14_method_183_code 7 = .ok (.aload_n 0, 1) := by decide +kernel
theorem dR_doAll_8 : decode prog_14_method_183_code 8 = .ok (.getfield 673, 3) := by decide +kernel
theorem dR_doAll_11 : decode prog_14_method_183_code 11 = .ok (.ifCond .ne 28, 3) := by decide +kernel
theorem dR_doAll_14 : decode prog_14_method_183_code 14 = .ok (.aload_n 0, 1) := by decide +kernel
theorem dR_doAll_15 : decode prog_14_method_183_code 15 = .ok (.iload_n 3, 1) := by decide +kernel
theorem dR_doAll_16 : decode prog_14_method_183_code 16 = .ok (.invokevirtual 688, 3) := by decide +kernel
theorem dR_doAll_19 : decode prog_14_method_183_code 19 = .ok (.aload_n 0, 1) := by decide +kernel
theorem dR_doAll_20 : decode prog_14_method_183_code 20 = .ok (.getfield 35, 3) := by decide +kernel
theorem dR_doAll_23 : decode prog_14_method_183_code 23 = .ok (.sipush 637, 3) := by decide +kernel
theorem dR_doAll_26 : decode prog_14_method_183_code 26 = .ok (.bipush 7, 2) := by decide +kernel
theorem dR_doAll_28 : decode prog_14_method_183_code 28 = .ok (.iload_n 3, 1) := by decide +kernel
theorem dR_doAll_29 : decode prog_14_method_183_code 29 = .ok (.imul, 1) := by decide +kernel
theorem dR_doAll_30 : decode prog_14_method_183_code 30 = .ok (.iadd, 1) := by decide +kernel
theorem dR_doAll_31 : decode prog_14_method_183_code 31 = .ok (.bipush 6, 2) := by decide +kernel
theorem dR_doAll_33 : decode prog_14_method_183_code 33 = .ok (.iadd, 1) := by decide +kernel
theorem dR_doAll_34 : decode prog_14_method_183_code 34 = .ok (.iaload, 1) := by decide +kernel
theorem dR_doAll_35 : decode prog_14_method_183_code 35 = .ok (.istore_n 3, 1) := by decide +kernel
theorem dR_doAll_36 : decode prog_14_method_183_code 36 = .ok (.goto (-34), 3) := by decide +kernel
theorem dR_doAll_39 : decode prog_14_method_183_code 39 = .ok (.return_, 1) := by decide +kernel
theorem t_R_doAll {d : Nat} {x1 x2 : Int} {σ : SG} {Q : Int → SG → Prop} (h : inI x1 → inI x2 → (L (d + 1) M_R_doAll 2 [vA 161, vU, vI x2, vI x1] [] σ Q)) : Tri (d + 1) M_R_doAll [vA 161, vI x1, vI x2] σ Q :=
  Tri_intro rfl (Nat.le_of_ble_eq_true rfl) (ls := [vA 161, vI x1, vI x2, vU]) rfl (fun hok => L_iload_n dR_doAll_0 rfl (L_istore_n dR_doAll_1 (by decide) (L_weak [true, false, true, true] ((h (hok _ (List.mem_of_getElem? (i := 1) rfl)) (hok _ (List.mem_of_getElem? (i := 2) rfl)))))))
theorem s_R_doAll_2 {d : Nat} {x2 x3 : Int} {σ : SG} {Q : Int → SG → Prop} (h : (x2 ≤ x3 → Q 0 σ) ∧ (x3 < x2 → (σ 161 50 ≠ 0 → Q 0 σ) ∧ (σ 161 50 = 0 → Tri d M_R_doOne [vA 161, vI x3] σ (fun r3 σ3 => (0 ≤ w32 ((w32 (637 + (w32 (7 * x3)))) + 6) ∧ w32 ((w32 (637 + (w32 (7 * x3)))) + 6) < 3440) ∧ L (d + 1) M_R_doAll 2 [vA 161, vU, vI x2, vI (σ3 166 (w32 ((w32 (637 + (w32 (7 * x3)))) + 6)))] [] σ3 Q)))) : L (d + 1) M_R_doAll 2 [vA 161, vU, vI x2, vI x3] [] σ Q :=
  L_iload_n dR_doAll_2 rfl (L_iload_n dR_doAll_3 rfl (L_icmp_ge dR_doAll_4 (by decide) ⟨fun c1 => L_return rfl dR_doAll_39 (h.1 c1), fun c1 => L_aload_n dR_doAll_7 rfl (L_getf fw_R_673 rfl dR_doAll_8 ⟨ob_161, L_if_ne dR_doAll_11 (by decide) ⟨fun c2 => L_return rfl dR_doAll_39 ((h.2 c1).1 c2), fun c2 => L_aload_n dR_doAll_14 rfl (L_iload_n dR_doAll_15 rfl (L_callVV rfl cv_R_doOne (As := [vI x3]) rfl (tk10 160 rfl rfl) rfl (Nat.le_of_ble_eq_true rfl) dR_doAll_16 ⟨ob_161, Tri.mono ((h.2 c1).2 c2) (fun r3 σ3 q3 => L_aload_n dR_doAll_19 rfl (L_getF (b := 166) fw_R_35 rfl rfl (by decide) dR_doAll_20 ⟨ob_161, L_sipush dR_doAll_23 sp_637 in_637 (L_bipush dR_doAll_26 bp_7 in_7 (L_iload_n dR_doAll_28 rfl (L_imul dR_doAll_29 (L_iadd dR_doAll_30 (L_bipush dR_doAll_31 bp_6 in_6 (L_iadd dR_doAll_33 (L_ialoadL kd_166 dR_doAll_34 ⟨q3.1, L_istore_n dR_doAll_35 (by decide) (L_goto dR_doAll_36 (by decide) q3.2)⟩)))))))⟩))⟩))⟩⟩)⟩))
theorem dR_run_0 : decode prog_14_method_184_code 0 = .ok (.aload_n 0, 1) := by decide +kernel
theorem dR_run_1 : decode prog_14_method_184_code 1 = .ok (.iconst 0, 1) := by decide +kernel
theorem dR_run_2 : decode prog_14_method_184_code 2 = .ok (.putfield 132, 3) := by decide +kernel
theorem dR_run_5 : decode prog_14_method_184_code 5 = .ok (.aload_n 0, 1) := by decide +kernel
theorem dR_run_6 : decode prog_14_method_184_code 6 = .ok (.iconst 0, 1) := by decide +kernel
theorem dR_run_7 : decode prog_14_method_184_code 7 = .ok (.putfield 135, 3) := by decide +kernel
theorem dR_run_10 : decode prog_14_method_184_code 10 = .ok (.aload_n 0, 1) := by decide +kernel
theorem dR_run_11 : decode prog_14_method_184_code 11 = .ok (.getfield 35, 3) := by decide +kernel
theorem dR_run_14 : decode prog_14_method_184_code 14 = .ok (.sipush 635, 3) := by decide +kernel
theorem dR_run_17 : decode prog_14_method_184_code 17 = .ok (.iaload, 1) := by decide +kernel
theorem dR_run_18 : decode prog_14_method_184_code 18 = .ok (.ifCond .ne 10, 3) := by decide +kernel
theorem dR_run_21 : decode prog_14_method_184_code 21 = .ok (.aload_n 0, 1) := by decide +kernel
theorem dR_run_22 : decode prog_14_method_184_code 22 = .ok (.bipush 8, 2) := by decide +kernel
theorem dR_run_24 : decode prog_14_method_184_code 24 = .ok (.invokevirtual 351, 3) := by decide +kernel
theorem dR_run_27 : decode prog_14_method_184_code 27 = .ok (.ireturn, 1) := by decide +kernel
theorem dR_run_28 : decode prog_14_method_184_code 28 = .ok (.aload_n 0, 1) := by decide +kernel
theorem dR_run_29 : decode prog_14_method_184_code 29 = .ok (.iconst 0, 1) := by decide +kernel
theorem dR_run_30 : decode prog_14_method_184_code 30 = .ok (.putfield 667, 3) := by decide +kernel
theorem dR_run_33 : decode prog_14_method_184_code 33 = .ok (.aload_n 0, 1) := by decide +kernel
theorem dR_run_34 : decode prog_14_method_184_code 34 = .ok (.iconst 0, 1) := by decide +kernel
theorem dR_run_35 : decode prog_14_method_184_code 35 = .ok (.putfield 685, 3) := by decide +kernel
theorem dR_run_38 : decode prog_14_method_184_code 38 = .ok (.aload_n 0, 1) := by decide +kernel
theorem dR_run_39 : decode prog_14_method_184_code 39 = .ok (.iconst 0, 1) := by decide +kernel
theorem dR_run_40 : decode prog_14_method_184_code 40 = .ok (.putfield 670, 3) := by decide +kernel
theorem dR_run_43 : decode prog_14_method_184_code 43 = .ok (.aload_n 0, 1) := by decide +kernel
theorem dR_run_44 : decode prog_14_method_184_code 44 = .ok (.iconst 0, 1) := by decide +kernel
theorem dR_run_45 : decode prog_14_method_184_code 45 = .ok (.putfield 673, 3) := by decide +kernel
theorem dR_run_48 : decode prog_14_method_184_code 48 = .ok (.aload_n 0, 1) := by decide +kernel
theorem dR_run_49 : decode prog_14_method_184_code 49 = .ok (.iconst 0, 1) := by decide +kernel
theorem dR_run_50 : decode prog_14_method_184_code 50 = .ok (.aload_n 0, 1) := by decide +kernel
theorem dR_run_51 : decode prog_14_method_184_code 51 = .ok (.getfield 35, 3) := by decide +kernel
theorem dR_run_54 : decode prog_14_method_184_code 54 = .ok (.sipush 636, 3) := by decide +kernel
theorem dR_run_57 : decode prog_14_method_184_code 57 = .ok (.iaload, 1) := by decide +kernel
theorem dR_run_58 : decode prog_14_method_184_code 58 = .ok (.invokevirtual 679, 3) := by decide +kernel
theorem dR_run_61 : decode prog_14_method_184_code 61 = .ok (.aload_n 0, 1) := by decide +kernel
theorem dR_run_62 : decode prog_14_method_184_code 62 = .ok (.getfield 92, 3) := by decide +kernel
theorem dR_run_65 : decode prog_14_method_184_code 65 = .ok (.iconst 0, 1) := by decide +kernel
theorem dR_run_66 : decode prog_14_method_184_code 66 = .ok (.aload_n 0, 1) := by decide +kernel
theorem dR_run_67 : decode prog_14_method_184_code 67 = .ok (.getfield 685, 3) := by decide +kernel
theorem dR_run_70 : decode prog_14_method_184_code 70 = .ok (.iastore, 1) := by decide +kernel
theorem dR_run_71 : decode prog_14_method_184_code 71 = .ok (.aload_n 0, 1) := by decide +kernel
theorem dR_run_72 : decode prog_14_method_184_code 72 = .ok (.getfield 92, 3) := by decide +kernel
theorem dR_run_75 : decode prog_14_method_184_code 75 = .ok (.iconst 1, 1) := by decide +kernel
theorem dR_run_76 : decode prog_14_method_184_code 76 = .ok (.aload_n 0, 1) := by decide +kernel
theorem dR_run_77 : decode prog_14_method_184_code 77 = .ok (.getfield 670, 3) := by decide +kernel
theorem dR_run_80 : decode prog_14_method_184_code 80 = .ok (.iastore, 1) := by decide +kernel
theorem dR_run_81 : decode prog_14_method_184_code 81 = .ok (.aload_n 0, 1) := by decide +kernel
theorem dR_run_82 : decode prog_14_method_184_code 82 = .ok (.iconst 1, 1) := by decide +kernel
theorem dR_run_83 : decode prog_14_method_184_code 83 = .ok (.putfield 691, 3) := by decide +kernel
theorem dR_run_86 : decode prog_14_method_184_code 86 = .ok (.aload_n 0, 1) := by decide +kernel
theorem dR_run_87 : decode prog_14_method_184_code 87 = .ok (.getfield 667, 3) := by decide +kernel
theorem dR_run_90 : decode prog_14_method_184_code 90 = .ok (.ireturn, 1) := by decide +kernel
theorem t_R_run {d : Nat} {σ : SG} {Q : Int → SG → Prop} (h : (∀ σ1, σ1 = up σ 161 1 0 → (∀ σ2, σ2 = up σ1 161 0 0 → (σ2 166 635 ≠ 0 → (∀ σ4, σ4 = up σ2 161 51 0 → (∀ σ5, σ5 = up σ4 161 52 0 → (∀ σ6, σ6 = up σ5 161 53 0 → (∀ σ7, σ7 = up σ6 161 50 0 → Tri d M_R_doAll [vA 161, vI 0, vI (σ7 166 636)] σ7 (fun r8 σ8 => (∀ σ9, σ9 = up σ8 184 0 (σ8 161 52) → (∀ σ10, σ10 = up σ9 184 1 (σ9 161 53) → (∀ σ11, σ11 = up σ10 161 49 1 → Q (σ11 161 51) σ11))))))))) ∧ (σ2 166 635 = 0 → Tri d M_R_refuse [vA 161, vI 8] σ2 (fun r12 σ12 => Q r12 σ12))))) : Tri (d + 1) M_R_run [vA 161] σ Q :=
  Tri_intro rfl (Nat.le_of_ble_eq_true rfl) (ls := [vA 161]) rfl (fun hok => L_aload_n dR_run_0 rfl (L_iconst dR_run_1 in_0 (L_putfN fp_R_132 rfl rfl (fun _ => ⟨rfl, rfl⟩) dR_run_2 ⟨ob_161, fun σ1 e1 => L_aload_n dR_run_5 rfl (L_iconst dR_run_6 in_0 (L_putfN fp_R_135 rfl rfl (fun _ => ⟨rfl, rfl⟩) dR_run_7 ⟨ob_161, fun σ2 e2 => L_aload_n dR_run_10 rfl (L_getF (b := 166) fw_R_35 rfl rfl (by decide) dR_run_11 ⟨ob_161, L_sipush dR_run_14 sp_635 in_635 (L_ialoadL kd_166 dR_run_17 ⟨⟨by decide, by decide⟩, L_if_ne dR_run_18 (by decide) ⟨fun c3 => L_aload_n dR_run_28 rfl (L_iconst dR_run_29 in_0 (L_putfN fp_R_667 rfl rfl (fun _ => ⟨rfl, rfl⟩) dR_run_30 ⟨ob_161, fun σ4 e4 => L_aload_n dR_run_33 rfl (L_iconst dR_run_34 in_0 (L_putfN fp_R_685 rfl rfl (fun _ => ⟨rfl, rfl⟩) dR_run_35 ⟨ob_161, fun σ5 e5 => L_aload_n dR_run_38 rfl (L_iconst dR_run_39 in_0 (L_putfN fp_R_670 rfl rfl (fun _ => ⟨rfl, rfl⟩) dR_run_40 ⟨ob_161, fun σ6 e6 => L_aload_n dR_run_43 rfl (L_iconst dR_run_44 in_0 (L_putfN fp_R_673 rfl rfl (fit_z (by decide)) dR_run_45 ⟨ob_161, fun σ7 e7 => L_aload_n dR_run_48 rfl (L_iconst dR_run_49 in_0 (L_aload_n dR_run_50 rfl (L_getF (b := 166) fw_R_35 rfl rfl (by decide) dR_run_51 ⟨ob_161, L_sipush dR_run_54 sp_636 in_636 (L_ialoadL kd_166 dR_run_57 ⟨⟨by decide, by decide⟩, L_callVV rfl cv_R_doAll (As := [vI 0, vI (σ7 166 636)]) rfl (tk10 156 rfl rfl) rfl (Nat.le_of_ble_eq_true rfl) dR_run_58 ⟨ob_161, Tri.mono (((((((h σ1 e1) σ2 e2).1 c3) σ4 e4) σ5 e5) σ6 e6) σ7 e7) (fun r8 σ8 q8 => L_aload_n dR_run_61 rfl (L_getF (b := 184) fw_R_92 rfl rfl (by decide) dR_run_62 ⟨ob_161, L_iconst dR_run_65 in_0 (L_aload_n dR_run_66 rfl (L_getf fw_R_685 rfl dR_run_67 ⟨ob_161, L_iastoreL (by decide) kd_184 dR_run_70 ⟨⟨by decide, by decide⟩, fun σ9 e9 => L_aload_n dR_run_71 rfl (L_getF (b := 184) fw_R_92 rfl rfl (by decide) dR_run_72 ⟨ob_161, L_iconst dR_run_75 in_1 (L_aload_n dR_run_76 rfl (L_getf fw_R_670 rfl dR_run_77 ⟨ob_161, L_iastoreL (by decide) kd_184 dR_run_80 ⟨⟨by decide, by decide⟩, fun σ10 e10 => L_aload_n dR_run_81 rfl (L_iconst dR_run_82 in_1 (L_putfN fp_R_691 rfl rfl (fit_z (by decide)) dR_run_83 ⟨ob_161, fun σ11 e11 => L_aload_n dR_run_86 rfl (L_getf fw_R_667 rfl dR_run_87 ⟨ob_161, L_ireturn rfl dR_run_90 (((q8 σ9 e9) σ10 e10) σ11 e11)⟩)⟩))⟩⟩))⟩)⟩⟩))⟩))⟩⟩)⟩)))⟩))⟩))⟩))⟩)), fun c3 => L_aload_n dR_run_21 rfl (L_bipush dR_run_22 bp_8 in_8 (L_callVI rfl cv_R_refuse (As := [vI 8]) rfl (tk8 117 rfl rfl) rfl (Nat.le_of_ble_eq_true rfl) dR_run_24 ⟨ob_161, Tri.mono (((h σ1 e1) σ2 e2).2 c3) (fun r12 σ12 q12 => L_ireturn rfl dR_run_27 q12)⟩))⟩⟩)⟩)⟩))⟩)))
theorem dR_ran_0 : decode prog_14_method_185_code 0 = .ok (.aload_n 0, 1) := by decide +kernel
theorem dR_ran_1 : decode prog_14_method_185_code 1 = .ok (.iconst 0, 1) := by decide +kernel
theorem dR_ran_2 : decode prog_14_method_185_code 2 = .ok (.putfield 132, 3) := by decide +kernel
theorem dR_ran_5 : decode prog_14_method_185_code 5 = .ok (.aload_n 0, 1) := by decide +kernel
theorem dR_ran_6 : decode prog_14_method_185_code 6 = .ok (.iconst 0, 1) := by decide +kernel
theorem dR_ran_7 : decode prog_14_method_185_code 7 = .ok (.putfield 135, 3) := by decide +kernel
theorem dR_ran_10 : decode prog_14_method_185_code 10 = .ok (.iload_n 1, 1) := by decide +kernel
theorem dR_ran_11 : decode prog_14_method_185_code 11 = .ok (.i2l, 1) := by decide +kernel
theorem dR_ran_12 : decode prog_14_method_185_code 12 = .ok (.lconst 0, 1) := by decide +kernel
theorem dR_ran_13 : decode prog_14_method_185_code 13 = .ok (.lconst 1, 1) := by decide +kernel
theorem dR_ran_14 : decode prog_14_method_185_code 14 = .ok (.invokestatic 167, 3) := by decide +kernel
theorem dR_ran_17 : decode prog_14_method_185_code 17 = .ok (.ifCond .ne 9, 3) := by decide +kernel
theorem dR_ran_20 : decode prog_14_method_185_code 20 = .ok (.aload_n 0, 1) := by decide +kernel
theorem dR_ran_21 : decode prog_14_method_185_code 21 = .ok (.iconst 5, 1) := by decide +kernel
theorem dR_ran_22 : decode prog_14_method_185_code 22 = .ok (.invokevirtual 351, 3) := by decide +kernel
theorem dR_ran_25 : decode prog_14_method_185_code 25 = .ok (.ireturn, 1) := by decide +kernel
theorem dR_ran_26 : decode prog_14_method_185_code 26 = .ok (.aload_n 0, 1) := by decide +kernel
theorem dR_ran_27 : decode prog_14_method_185_code 27 = .ok (.getfield 691, 3) := by decide +kernel
theorem dR_ran_30 : decode prog_14_method_185_code 30 = .ok (.ifCond .eq 12, 3) := by decide +kernel
theorem dR_ran_33 : decode prog_14_method_185_code 33 = .ok (.aload_n 0, 1) := by decide +kernel
theorem dR_ran_34 : decode prog_14_method_185_code 34 = .ok (.getfield 92, 3) := by decide +kernel
theorem dR_ran_37 : decode prog_14_method_185_code 37 = .ok (.iload_n 1, 1) := by decide +kernel
theorem dR_ran_38 : decode prog_14_method_185_code 38 = .ok (.iaload, 1) := by decide +kernel
theorem dR_ran_39 : decode prog_14_method_185_code 39 = .ok (.goto 9, 3) := by decide +kernel
theorem dR_ran_42 : decode prog_14_method_185_code 42 = .ok (.aload_n 0, 1) := by decide +kernel
theorem dR_ran_43 : decode prog_14_method_185_code 43 = .ok (.bipush 8, 2) := by decide +kernel
theorem dR_ran_45 : decode prog_14_method_185_code 45 = .ok (.invokevirtual 351, 3) := by decide +kernel
theorem dR_ran_48 : decode prog_14_method_185_code 48 = .ok (.ireturn, 1) := by decide +kernel
theorem t_R_ran {d : Nat} {x1 : Int} {σ : SG} {Q : Int → SG → Prop} (h : inI x1 → ((∀ σ1, σ1 = up σ 161 1 0 → (∀ σ2, σ2 = up σ1 161 0 0 → Tri d M_R_isIn [vJ x1, vJ 0, vJ 1] σ2 (fun r3 σ3 => (r3 ≠ 0 → (σ3 161 49 = 0 → Tri d M_R_refuse [vA 161, vI 8] σ3 (fun r6 σ6 => Q r6 σ6)) ∧ (σ3 161 49 ≠ 0 → (0 ≤ x1 ∧ x1 < 2) ∧ Q (σ3 184 x1) σ3)) ∧ (r3 = 0 → Tri d M_R_refuse [vA 161, vI 5] σ3 (fun r7 σ7 => Q r7 σ7))))))) : Tri (d + 1) M_R_ran [vA 161, vI x1] σ Q :=
  Tri_intro rfl (Nat.le_of_ble_eq_true rfl) (ls := [vA 161, vI x1]) rfl (fun hok => L_aload_n dR_ran_0 rfl (L_iconst dR_ran_1 in_0 (L_putfN fp_R_132 rfl rfl (fun _ => ⟨rfl, rfl⟩) dR_ran_2 ⟨ob_161, fun σ1 e1 => L_aload_n dR_ran_5 rfl (L_iconst dR_ran_6 in_0 (L_putfN fp_R_135 rfl rfl (fun _ => ⟨rfl, rfl⟩) dR_ran_7 ⟨ob_161, fun σ2 e2 => L_iload_n dR_ran_10 rfl (L_i2l dR_ran_11 (L_lconst (x := 0) dR_ran_12 rfl inJ_0 (L_lconst (x := 1) dR_ran_13 rfl inJ_1 (L_callSI rfl cs_R_isIn (As := [vJ x1, vJ 0, vJ 1]) rfl (tk8 47 rfl rfl) rfl (Nat.le_of_ble_eq_true rfl) dR_ran_14 (Tri.mono (((h (hok _ (List.mem_of_getElem? (i := 1) rfl))) σ1 e1) σ2 e2) (fun r3 σ3 q3 => L_if_ne dR_ran_17 (by decide) ⟨fun c4 => L_aload_n dR_ran_26 rfl (L_getf fw_R_691 rfl dR_ran_27 ⟨ob_161, L_if_eq dR_ran_30 (by decide) ⟨fun c5 => L_aload_n dR_ran_42 rfl (L_bipush dR_ran_43 bp_8 in_8 (L_callVI rfl cv_R_refuse (As := [vI 8]) rfl (tk8 117 rfl rfl) rfl (Nat.le_of_ble_eq_true rfl) dR_ran_45 ⟨ob_161, Tri.mono ((q3.1 c4).1 c5) (fun r6 σ6 q6 => L_ireturn rfl dR_ran_48 q6)⟩)), fun c5 => L_aload_n dR_ran_33 rfl (L_getF (b := 184) fw_R_92 rfl rfl (by decide) dR_ran_34 ⟨ob_161, L_iload_n dR_ran_37 rfl (L_ialoadL kd_184 dR_ran_38 ⟨((q3.1 c4).2 c5).1, L_goto dR_ran_39 (by decide) (L_ireturn rfl dR_ran_48 (((q3.1 c4).2 c5).2))⟩)⟩)⟩⟩), fun c4 => L_aload_n dR_ran_20 rfl (L_iconst dR_ran_21 in_5 (L_callVI rfl cv_R_refuse (As := [vI 5]) rfl (tk8 117 rfl rfl) rfl (Nat.le_of_ble_eq_true rfl) dR_ran_22 ⟨ob_161, Tri.mono (q3.2 c4) (fun r7 σ7 q7 => L_ireturn rfl dR_ran_25 q7)⟩))⟩))))))⟩))⟩)))
theorem dR_copy_0 : decode prog_14_method_186_code 0 = .ok (.iconst 0, 1) := by decide +kernel
theorem dR_copy_1 : decode prog_14_method_186_code 1 = .ok (.istore_n 3, 1) := by decide +kernel
theorem dR_copy_2 : decode prog_14_method_186_code 2 = .ok (.iload_n 3, 1) := by decide +kernel
theorem dR_copy_3 : decode prog_14_method_186_code 3 = .ok (.sipush 860, 3) := by decide +kernel
theorem dR_copy_6 : decode prog_14_method_186_code 6 = .ok (.if_icmp .ge 33, 3) := by decide +kernel
theorem dR_copy_9 : decode prog_14_method_186_code 9 = .ok (.aload_n 0, 1) := by decide +kernel
theorem dR_copy_10 : decode prog_14_method_186_code 10 = .ok (.getfield 35, 3) := by decide +kernel
theorem dR_copy_13 : decode prog_14_method_186_code 13 = .ok (.sipush 860, 3) := by decide +kernel
theorem dR_copy_16 : decode prog_14_method_186_code 16 = .ok (.iload_n 2, 1) := by decide +kernel
theorem dR_copy_17 : decode prog_14_method_186_code 17 = .ok (.imul, 1) := by decide +kernel
theorem dR_copy_18 : decode prog_14_method_186_code 18 = .ok (.iload_n 3, 1) := by decide +kernel
theorem dR_copy_19 : decode prog_14_method_186_code 19 = .ok (.iadd, 1) := by decide +kernel
theorem dR_copy_20 : decode prog_14_method_186_code 20 = .ok (.aload_n 0, 1) := by decide +kernel
theorem dR_copy_21 : decode prog_14_method_186_code 21 = .ok (.getfield 35, 3) := by decide +kernel
theorem dR_copy_24 : decode prog_14_method_186_code 24 = .ok (.sipush 860, 3) := by decide +kernel
theorem dR_copy_27 : decode prog_14_method_186_code 27 = .ok (.iload_n 1, 1) := by decide +kernel
theorem dR_copy_28 : decode prog_14_method_186_code 28 = .ok (.imul, 1) := by decide +kernel
theorem dR_copy_29 : decode prog_14_method_186_code 29 = .ok (.iload_n 3, 1) := by decide +kernel
theorem dR_copy_30 : decode prog_14_method_186_code 30 = .ok (.iadd, 1) := by decide +kernel
theorem dR_copy_31 : decode prog_14_method_186_code 31 = .ok (.iaload, 1) := by decide +kernel
theorem dR_copy_32 : decode prog_14_method_186_code 32 = .ok (.iastore, 1) := by decide +kernel
theorem dR_copy_33 : decode prog_14_method_186_code 33 = .ok (.iinc 3 1, 3) := by decide +kernel
theorem dR_copy_36 : decode prog_14_method_186_code 36 = .ok (.goto (-34), 3) := by decide +kernel
theorem dR_copy_39 : decode prog_14_method_186_code 39 = .ok (.return_, 1) := by decide +kernel
theorem t_R_copy {d : Nat} {x1 x2 : Int} {σ : SG} {Q : Int → SG → Prop} (h : inI x1 → inI x2 → (L (d + 1) M_R_copy 2 [vA 161, vI x1, vI x2, vI 0] [] σ Q)) : Tri (d + 1) M_R_copy [vA 161, vI x1, vI x2] σ Q :=
  Tri_intro rfl (Nat.le_of_ble_eq_true rfl) (ls := [vA 161, vI x1, vI x2, vU]) rfl (fun hok => L_iconst dR_copy_0 in_0 (L_istore_n dR_copy_1 (by decide) ((h (hok _ (List.mem_of_getElem? (i := 1) rfl)) (hok _ (List.mem_of_getElem? (i := 2) rfl))))))
theorem s_R_copy_2 {d : Nat} {x1 x2 x3 : Int} {σ : SG} {Q : Int → SG → Prop} (h : (860 ≤ x3 → Q 0 σ) ∧ (x3 < 860 → (0 ≤ w32 ((w32 (860 * x1)) + x3) ∧ w32 ((w32 (860 * x1)) + x3) < 3440) ∧ (0 ≤ w32 ((w32 (860 * x2)) + x3) ∧ w32 ((w32 (860 * x2)) + x3) < 3440) ∧ (∀ σ2, σ2 = up σ 166 (w32 ((w32 (860 * x2)) + x3)) (σ 166 (w32 ((w32 (860 * x1)) + x3))) → L (d + 1) M_R_copy 2 [vA 161, vI x1, vI x2, vI (w32 (x3 + 1))] [] σ2 Q))) : L (d + 1) M_R_copy 2 [vA 161, vI x1, vI x2, vI x3] [] σ Q :=
  L_iload_n dR_copy_2 rfl (L_sipush dR_copy_3 sp_860 in_860 (L_icmp_ge dR_copy_6 (by decide) ⟨fun c1 => L_return rfl dR_copy_39 (h.1 c1), fun c1 => L_aload_n dR_copy_9 rfl (L_getF (b := 166) fw_R_35 rfl rfl (by decide) dR_copy_10 ⟨ob_161, L_sipush dR_copy_13 sp_860 in_860 (L_iload_n dR_copy_16 rfl (L_imul dR_copy_17 (L_iload_n dR_copy_18 rfl (L_iadd dR_copy_19 (L_aload_n dR_copy_20 rfl (L_getF (b := 166) fw_R_35 rfl rfl (by decide) dR_copy_21 ⟨ob_161, L_sipush dR_copy_24 sp_860 in_860 (L_iload_n dR_copy_27 rfl (L_imul dR_copy_28 (L_iload_n dR_copy_29 rfl (L_iadd dR_copy_30 (L_ialoadL kd_166 dR_copy_31 ⟨(h.2 c1).1, L_iastoreL (by decide) kd_166 dR_copy_32 ⟨(h.2 c1).2.1, fun σ2 e2 => L_iinc dR_copy_33 rfl (by decide) (L_goto dR_copy_36 (by decide) ((h.2 c1).2.2 σ2 e2))⟩⟩)))))⟩))))))⟩)⟩))
theorem dR_mark_0 : decode prog_14_method_187_code 0 = .ok (.aload_n 0, 1) := by decide +kernel
theorem dR_mark_1 : decode prog_14_method_187_code 1 = .ok (.iconst 0, 1) := by decide +kernel
theorem dR_mark_2 : decode prog_14_method_187_code 2 = .ok (.putfield 132, 3) := by decide +kernel
theorem dR_mark_5 : decode prog_14_method_187_code 5 = .ok (.aload_n 0, 1) := by decide +kernel
theorem dR_mark_6 : decode prog_14_method_187_code 6 = .ok (.iconst 0, 1) := by decide +kernel
theorem dR_mark_7 : decode prog_14_method_187_code 7 = .ok (.putfield 135, 3) := by decide +kernel
theorem dR_mark_10 : decode prog_14_method_187_code 10 = .ok (.aload_n 0, 1) := by decide +kernel
theorem dR_mark_11 : decode prog_14_method_187_code 11 = .ok (.getfield 694, 3) := by decide +kernel
theorem dR_mark_14 : decode prog_14_method_187_code 14 = .ok (.iconst 3, 1) := by decide +kernel
theorem dR_mark_15 : decode prog_14_method_187_code 15 = .ok (.if_icmp .ne 10, 3) := by decide +kernel
theorem dR_mark_18 : decode prog_14_method_187_code 18 = .ok (.aload_n 0, 1) := by decide +kernel
theorem dR_mark_19 : decode prog_14_method_187_code 19 = .ok (.bipush 7, 2) := by decide +kernel
theorem dR_mark_21 : decode prog_14_method_187_code 21 = .ok (.invokevirtual 351, 3) := by decide +kernel
theorem dR_mark_24 : decode prog_14_method_187_code 24 = .ok (.ireturn, 1) := by decide +kernel
theorem dR_mark_25 : decode prog_14_method_187_code 25 = .ok (.aload_n 0, 1) := by decide +kernel
theorem dR_mark_26 : decode prog_14_method_187_code 26 = .ok (.dup, 1) := by decide +kernel
theorem dR_mark_27 : decode prog_14_method_187_code 27 = .ok (.getfield 694, 3) := by decide +kernel
theorem dR_mark_30 : decode prog_14_method_187_code 30 = .ok (.iconst 1, 1) := by decide +kernel
theorem dR_mark_31 : decode prog_14_method_187_code 31 = .ok (.iadd, 1) := by decide +kernel
theorem dR_mark_32 : decode prog_14_method_187_code 32 = .ok (.putfield 694, 3) := by decide +kernel
theorem dR_mark_35 : decode prog_14_method_187_code 35 = .ok (.aload_n 0, 1) := by decide +kernel
theorem dR_mark_36 : decode prog_14_method_187_code 36 = .ok (.iconst 0, 1) := by decide +kernel
theorem dR_mark_37 : decode prog_14_method_187_code 37 = .ok (.aload_n 0, 1) := by decide +kernel
theorem dR_mark_38 : decode prog_14_method_187_code 38 = .ok (.getfield 694, 3) := by decide +kernel
theorem dR_mark_41 : decode prog_14_method_187_code 41 = .ok (.invokevirtual 697, 3) := by decide +kernel
theorem dR_mark_44 : decode prog_14_method_187_code 44 = .ok (.aload_n 0, 1) := by decide +kernel
theorem dR_mark_45 : decode prog_14_method_187_code 45 = .ok (.getfield 694, 3) := by decide +kernel
theorem dR_mark_48 : decode prog_14_method_187_code 48 = .ok (.ireturn, 1) := by decide +kernel
theorem t_R_mark {d : Nat} {σ : SG} {Q : Int → SG → Prop} (h : (∀ σ1, σ1 = up σ 161 1 0 → (∀ σ2, σ2 = up σ1 161 0 0 → (σ2 161 23 ≠ 3 → (∀ σ4, σ4 = up σ2 161 23 (w32 ((σ2 161 23) + 1)) → Tri d M_R_copy [vA 161, vI 0, vI (σ4 161 23)] σ4 (fun r5 σ5 => Q (σ5 161 23) σ5))) ∧ (σ2 161 23 = 3 → Tri d M_R_refuse [vA 161, vI 7] σ2 (fun r6 σ6 => Q r6 σ6))))) : Tri (d + 1) M_R_mark [vA 161] σ Q :=
  Tri_intro rfl (Nat.le_of_ble_eq_true rfl) (ls := [vA 161]) rfl (fun hok => L_aload_n dR_mark_0 rfl (L_iconst dR_mark_1 in_0 (L_putfN fp_R_132 rfl rfl (fun _ => ⟨rfl, rfl⟩) dR_mark_2 ⟨ob_161, fun σ1 e1 => L_aload_n dR_mark_5 rfl (L_iconst dR_mark_6 in_0 (L_putfN fp_R_135 rfl rfl (fun _ => ⟨rfl, rfl⟩) dR_mark_7 ⟨ob_161, fun σ2 e2 => L_aload_n dR_mark_10 rfl (L_getf fw_R_694 rfl dR_mark_11 ⟨ob_161, L_iconst dR_mark_14 in_3 (L_icmp_ne dR_mark_15 (by decide) ⟨fun c3 => L_aload_n dR_mark_25 rfl (L_dup dR_mark_26 n21 (L_getf fw_R_694 rfl dR_mark_27 ⟨ob_161, L_iconst dR_mark_30 in_1 (L_iadd dR_mark_31 (L_putfN fp_R_694 rfl rfl (fun _ => ⟨rfl, rfl⟩) dR_mark_32 ⟨ob_161, fun σ4 e4 => L_aload_n dR_mark_35 rfl (L_iconst dR_mark_36 in_0 (L_aload_n dR_mark_37 rfl (L_getf fw_R_694 rfl dR_mark_38 ⟨ob_161, L_callVV rfl cv_R_copy (As := [vI 0, vI (σ4 161 23)]) rfl (tk10 188 rfl rfl) rfl (Nat.le_of_ble_eq_true rfl) dR_mark_41 ⟨ob_161, Tri.mono ((((h σ1 e1) σ2 e2).1 c3) σ4 e4) (fun r5 σ5 q5 => L_aload_n dR_mark_44 rfl (L_getf fw_R_694 rfl dR_mark_45 ⟨ob_161, L_ireturn rfl dR_mark_48 q5⟩))⟩⟩)))⟩))⟩)), fun c3 => L_aload_n dR_mark_18 rfl (L_bipush dR_mark_19 bp_7 in_7 (L_callVI rfl cv_R_refuse (As := [vI 7]) rfl (tk8 117 rfl rfl) rfl (Nat.le_of_ble_eq_true rfl) dR_mark_21 ⟨ob_161, Tri.mono (((h σ1 e1) σ2 e2).2 c3) (fun r6 σ6 q6 => L_ireturn rfl dR_mark_24 q6)⟩))⟩)⟩)⟩))⟩)))
theorem dR_back_0 : decode prog_14_method_188_code 0 = .ok (.aload_n 0, 1) := by decide +kernel
theorem dR_back_1 : decode prog_14_method_188_code 1 = .ok (.iconst 0, 1) := by decide +kernel
theorem dR_back_2 : decode prog_14_method_188_code 2 = .ok (.putfield 132, 3) := by decide +kernel
theorem dR_back_5 : decode prog_14_method_188_code 5 = .ok (.aload_n 0, 1) := by decide +kernel
theorem dR_back_6 : decode prog_14_method_188_code 6 = .ok (.iconst 0, 1) := by decide +kernel
theorem dR_back_7 : decode prog_14_method_188_code 7 = .ok (.putfield 135, 3) := by decide +kernel
theorem dR_back_10 : decode prog_14_method_188_code 10 = .ok (.aload_n 0, 1) := by decide +kernel
theorem dR_back_11 : decode prog_14_method_188_code 11 = .ok (.getfield 694, 3) := by decide +kernel
theorem dR_back_14 : decode prog_14_method_188_code 14 = .ok (.ifCond .ne 10, 3) := by decide +kernel
theorem dR_back_17 : decode prog_14_method_188_code 17 = .ok (.aload_n 0, 1) := by decide +kernel
theorem dR_back_18 : decode prog_14_method_188_code 18 = .ok (.bipush 8, 2) := by decide +kernel
theorem dR_back_20 : decode prog_14_method_188_code 20 = .ok (.invokevirtual 351, 3) := by decide +kernel
theorem dR_back_23 : decode prog_14_method_188_code 23 = .ok (.ireturn, 1) := by decide +kernel
theorem dR_back_24 : decode prog_14_method_188_code 24 = .ok (.aload_n 0, 1) := by decide +kernel
theorem dR_back_25 : decode prog_14_method_188_code 25 = .ok (.aload_n 0, 1) := by decide +kernel
theorem dR_back_26 : decode prog_14_method_188_code 26 = .ok (.getfield 694, 3) := by decide +kernel
theorem dR_back_29 : decode prog_14_method_188_code 29 = .ok (.iconst 0, 1) := by decide +kernel
theorem dR_back_30 : decode prog_14_method_188_code 30 = .ok (.invokevirtual 697, 3) := by decide +kernel
theorem dR_back_33 : decode prog_14_method_188_code 33 = .ok (.aload_n 0, 1) := by decide +kernel
theorem dR_back_34 : decode prog_14_method_188_code 34 = .ok (.dup, 1) := by decide +kernel
theorem dR_back_35 : decode prog_14_method_188_code 35 = .ok (.getfield 694, 3) := by decide +kernel
theorem dR_back_38 : decode prog_14_method_188_code 38 = .ok (.iconst 1, 1) := by decide +kernel
theorem dR_back_39 : decode prog_14_method_188_code 39 = .ok (.isub, 1) := by decide +kernel
theorem dR_back_40 : decode prog_14_method_188_code 40 = .ok (.putfield 694, 3) := by decide +kernel
theorem dR_back_43 : decode prog_14_method_188_code 43 = .ok (.aload_n 0, 1) := by decide +kernel
theorem dR_back_44 : decode prog_14_method_188_code 44 = .ok (.getfield 694, 3) := by decide +kernel
theorem dR_back_47 : decode prog_14_method_188_code 47 = .ok (.ireturn, 1) := by decide +kernel
theorem t_R_back {d : Nat} {σ : SG} {Q : Int → SG → Prop} (h : (∀ σ1, σ1 = up σ 161 1 0 → (∀ σ2, σ2 = up σ1 161 0 0 → (σ2 161 23 ≠ 0 → Tri d M_R_copy [vA 161, vI (σ2 161 23), vI 0] σ2 (fun r4 σ4 => (∀ σ5, σ5 = up σ4 161 23 (w32 ((σ4 161 23) - 1)) → Q (σ5 161 23) σ5))) ∧ (σ2 161 23 = 0 → Tri d M_R_refuse [vA 161, vI 8] σ2 (fun r6 σ6 => Q r6 σ6))))) : Tri (d + 1) M_R_back [vA 161] σ Q :=
  Tri_intro rfl (Nat.le_of_ble_eq_true rfl) (ls := [vA 161]) rfl (fun hok => L_aload_n dR_back_0 rfl (L_iconst dR_back_1 in_0 (L_putfN fp_R_132 rfl rfl (fun _ => ⟨rfl, rfl⟩) dR_back_2 ⟨ob_161, fun σ1 e1 => L_aload_n dR_back_5 rfl (L_iconst dR_back_6 in_0 (L_putfN fp_R_135 rfl rfl (fun _ => ⟨rfl, rfl⟩) dR_back_7 ⟨ob_161, fun σ2 e2 => L_aload_n dR_back_10 rfl (L_getf fw_R_694 rfl dR_back_11 ⟨ob_161, L_if_ne dR_back_14 (by decide) ⟨fun c3 => L_aload_n dR_back_24 rfl (L_aload_n dR_back_25 rfl (L_getf fw_R_694 rfl dR_back_26 ⟨ob_161, L_iconst dR_back_29 in_0 (L_callVV rfl cv_R_copy (As := [vI (σ2 161 23), vI 0]) rfl (tk10 188 rfl rfl) rfl (Nat.le_of_ble_eq_true rfl) dR_back_30 ⟨ob_161, Tri.mono (((h σ1 e1) σ2 e2).1 c3) (fun r4 σ4 q4 => L_aload_n dR_back_33 rfl (L_dup dR_back_34 n21 (L_getf fw_R_694 rfl dR_back_35 ⟨ob_161, L_iconst dR_back_38 in_1 (L_isub dR_back_39 (L_putfN fp_R_694 rfl rfl (fun _ => ⟨rfl, rfl⟩) dR_back_40 ⟨ob_161, fun σ5 e5 => L_aload_n dR_back_43 rfl (L_getf fw_R_694 rfl dR_back_44 ⟨ob_161, L_ireturn rfl dR_back_47 (q4 σ5 e5)⟩)⟩))⟩)))⟩)⟩)), fun c3 => L_aload_n dR_back_17 rfl (L_bipush dR_back_18 bp_8 in_8 (L_callVI rfl cv_R_refuse (As := [vI 8]) rfl (tk8 117 rfl rfl) rfl (Nat.le_of_ble_eq_true rfl) dR_back_20 ⟨ob_161, Tri.mono (((h σ1 e1) σ2 e2).2 c3) (fun r6 σ6 q6 => L_ireturn rfl dR_back_23 q6)⟩))⟩⟩)⟩))⟩)))
