theorem yk_X13_has : yX13_has.cls = RX13 ∧ yX13_has.cls ≠ "java/lang/invoke/MethodHandle" ∧ yX13_has.cls ≠ "java/lang/invoke/VarHandle" ∧ (parseMethodDescriptor yX13_has.desc).map (fun d => d.parameters.length) = some 1 := by decide +kernel
theorem lk_X13_89 : LinkV RX13 89 RX13 yX13_has (.code yX13_has cX13_has 4 (some .boolean)) 1 := ⟨tw_1354, tw_1356, tw_39, tw_83, tw_1357, yk_X13_has⟩
theorem yk_X13_figures : yX13_figures.cls = RX13 ∧ yX13_figures.cls ≠ "java/lang/invoke/MethodHandle" ∧ yX13_figures.cls ≠ "java/lang/invoke/VarHandle" ∧ (parseMethodDescriptor yX13_figures.desc).map (fun d => d.parameters.length) = some 2 := by decide +kernel
theorem lk_X13_93 : LinkV RX13 93 RX13 yX13_figures (.code yX13_figures cX13_figures 5 (some .int)) 2 := ⟨tw_1360, tw_1362, tw_40, tw_83, tw_1363, yk_X13_figures⟩
theorem d_X13_forestLine_0 : decode cX13_forestLine 0 = .ok (.aload_n 0, 1) := by decide +kernel
theorem d_X13_forestLine_1 : decode cX13_forestLine 1 = .ok (.invokevirtual 70, 3) := by decide +kernel
theorem d_X13_forestLine_4 : decode cX13_forestLine 4 = .ok (.aload_n 0, 1) := by decide +kernel
theorem d_X13_forestLine_5 : decode cX13_forestLine 5 = .ok (.getfield 60, 3) := by decide +kernel
theorem d_X13_forestLine_8 : decode cX13_forestLine 8 = .ok (.istore_n 1, 1) := by decide +kernel
theorem d_X13_forestLine_9 : decode cX13_forestLine 9 = .ok (.aload_n 0, 1) := by decide +kernel
theorem d_X13_forestLine_10 : decode cX13_forestLine 10 = .ok (.ldc 87, 2) := by decide +kernel
theorem d_X13_forestLine_12 : decode cX13_forestLine 12 = .ok (.invokevirtual 89, 3) := by decide +kernel
theorem d_X13_forestLine_15 : decode cX13_forestLine 15 = .ok (.ifCond .eq 160, 3) := by decide +kernel
theorem d_X13_forestLine_18 : decode cX13_forestLine 18 = .ok (.aload_n 0, 1) := by decide +kernel
theorem d_X13_forestLine_19 : decode cX13_forestLine 19 = .ok (.getfield 7, 3) := by decide +kernel
theorem d_X13_forestLine_22 : decode cX13_forestLine 22 = .ok (.iconst 1, 1) := by decide +kernel
theorem d_X13_forestLine_23 : decode cX13_forestLine 23 = .ok (.iaload, 1) := by decide +kernel
theorem d_X13_forestLine_24 : decode cX13_forestLine 24 = .ok (.bipush 11, 2) := by decide +kernel
theorem d_X13_forestLine_26 : decode cX13_forestLine 26 = .ok (.if_icmp .eq 12, 3) := by decide +kernel
theorem d_X13_forestLine_29 : decode cX13_forestLine 29 = .ok (.aload_n 0, 1) := by decide +kernel
theorem d_X13_forestLine_30 : decode cX13_forestLine 30 = .ok (.getfield 7, 3) := by decide +kernel
theorem d_X13_forestLine_33 : decode cX13_forestLine 33 = .ok (.iconst 2, 1) := by decide +kernel
theorem d_X13_forestLine_34 : decode cX13_forestLine 34 = .ok (.iaload, 1) := by decide +kernel
theorem d_X13_forestLine_35 : decode cX13_forestLine 35 = .ok (.ifCond .le 8, 3) := by decide +kernel
theorem d_X13_forestLine_38 : decode cX13_forestLine 38 = .ok (.aload_n 0, 1) := by decide +kernel
theorem d_X13_forestLine_39 : decode cX13_forestLine 39 = .ok (.iload_n 1, 1) := by decide +kernel
theorem d_X13_forestLine_40 : decode cX13_forestLine 40 = .ok (.invokevirtual 83, 3) := by decide +kernel
theorem d_X13_forestLine_43 : decode cX13_forestLine 43 = .ok (.aload_n 0, 1) := by decide +kernel
theorem d_X13_forestLine_44 : decode cX13_forestLine 44 = .ok (.iconst 1, 1) := by decide +kernel
theorem d_X13_forestLine_45 : decode cX13_forestLine 45 = .ok (.bipush 20, 2) := by decide +kernel
theorem d_X13_forestLine_47 : decode cX13_forestLine 47 = .ok (.invokevirtual 93, 3) := by decide +kernel
theorem d_X13_forestLine_50 : decode cX13_forestLine 50 = .ok (.istore_n 2, 1) := by decide +kernel
theorem d_X13_forestLine_51 : decode cX13_forestLine 51 = .ok (.aload_n 0, 1) := by decide +kernel
theorem d_X13_forestLine_52 : decode cX13_forestLine 52 = .ok (.iconst 0, 1) := by decide +kernel
theorem d_X13_forestLine_53 : decode cX13_forestLine 53 = .ok (.sipush 999, 3) := by decide +kernel
theorem d_X13_forestLine_56 : decode cX13_forestLine 56 = .ok (.invokevirtual 93, 3) := by decide +kernel
theorem d_X13_forestLine_59 : decode cX13_forestLine 59 = .ok (.istore_n 3, 1) := by decide +kernel
theorem d_X13_forestLine_60 : decode cX13_forestLine 60 = .ok (.aload_n 0, 1) := by decide +kernel
theorem d_X13_forestLine_61 : decode cX13_forestLine 61 = .ok (.getfield 22, 3) := by decide +kernel
theorem d_X13_forestLine_64 : decode cX13_forestLine 64 = .ok (.iconst (-1), 1) := by decide +kernel
theorem d_X13_forestLine_65 : decode cX13_forestLine 65 = .ok (.if_icmp .eq 4, 3) := by decide +kernel
theorem d_X13_forestLine_68 : decode cX13_forestLine 68 = .ok (.return_, 1) := by decide +kernel
theorem d_X13_forestLine_69 : decode cX13_forestLine 69 = .ok (.aload_n 0, 1) := by decide +kernel
theorem d_X13_forestLine_70 : decode cX13_forestLine 70 = .ok (.getfield 7, 3) := by decide +kernel
theorem d_X13_forestLine_73 : decode cX13_forestLine 73 = .ok (.iconst 1, 1) := by decide +kernel
theorem d_X13_forestLine_74 : decode cX13_forestLine 74 = .ok (.dup2, 1) := by decide +kernel
theorem d_X13_forestLine_75 : decode cX13_forestLine 75 = .ok (.iaload, 1) := by decide +kernel
theorem d_X13_forestLine_76 : decode cX13_forestLine 76 = .ok (.iconst 1, 1) := by decide +kernel
theorem d_X13_forestLine_77 : decode cX13_forestLine 77 = .ok (.iadd, 1) := by decide +kernel
theorem d_X13_forestLine_78 : decode cX13_forestLine 78 = .ok (.iastore, 1) := by decide +kernel
theorem d_X13_forestLine_79 : decode cX13_forestLine 79 = .ok (.aload_n 0, 1) := by decide +kernel
theorem d_X13_forestLine_80 : decode cX13_forestLine 80 = .ok (.getfield 7, 3) := by decide +kernel
theorem d_X13_forestLine_83 : decode cX13_forestLine 83 = .ok (.iconst 1, 1) := by decide +kernel
theorem d_X13_forestLine_84 : decode cX13_forestLine 84 = .ok (.iaload, 1) := by decide +kernel
theorem d_X13_forestLine_85 : decode cX13_forestLine 85 = .ok (.istore 4, 2) := by decide +kernel
theorem d_X13_forestLine_87 : decode cX13_forestLine 87 = .ok (.aload_n 0, 1) := by decide +kernel
theorem d_X13_forestLine_88 : decode cX13_forestLine 88 = .ok (.getfield 7, 3) := by decide +kernel
theorem d_X13_forestLine_91 : decode cX13_forestLine 91 = .ok (.bipush 10, 2) := by decide +kernel
theorem d_X13_forestLine_93 : decode cX13_forestLine 93 = .ok (.iconst 3, 1) := by decide +kernel
theorem d_X13_forestLine_94 : decode cX13_forestLine 94 = .ok (.iload 4, 2) := by decide +kernel
theorem d_X13_forestLine_96 : decode cX13_forestLine 96 = .ok (.imul, 1) := by decide +kernel
theorem d_X13_forestLine_97 : decode cX13_forestLine 97 = .ok (.iadd, 1) := by decide +kernel
theorem d_X13_forestLine_98 : decode cX13_forestLine 98 = .ok (.iconst 0, 1) := by decide +kernel
theorem d_X13_forestLine_99 : decode cX13_forestLine 99 = .ok (.iadd, 1) := by decide +kernel
theorem d_X13_forestLine_100 : decode cX13_forestLine 100 = .ok (.iload_n 2, 1) := by decide +kernel
theorem d_X13_forestLine_101 : decode cX13_forestLine 101 = .ok (.iastore, 1) := by decide +kernel
theorem d_X13_forestLine_102 : decode cX13_forestLine 102 = .ok (.aload_n 0, 1) := by decide +kernel
theorem d_X13_forestLine_103 : decode cX13_forestLine 103 = .ok (.getfield 7, 3) := by decide +kernel
theorem d_X13_forestLine_106 : decode cX13_forestLine 106 = .ok (.bipush 10, 2) := by decide +kernel
theorem d_X13_forestLine_108 : decode cX13_forestLine 108 = .ok (.iconst 3, 1) := by decide +kernel
theorem d_X13_forestLine_109 : decode cX13_forestLine 109 = .ok (.iload 4, 2) := by decide +kernel
theorem d_X13_forestLine_111 : decode cX13_forestLine 111 = .ok (.imul, 1) := by decide +kernel
theorem d_X13_forestLine_112 : decode cX13_forestLine 112 = .ok (.iadd, 1) := by decide +kernel
theorem d_X13_forestLine_113 : decode cX13_forestLine 113 = .ok (.iconst 1, 1) := by decide +kernel
theorem d_X13_forestLine_114 : decode cX13_forestLine 114 = .ok (.iadd, 1) := by decide +kernel
theorem d_X13_forestLine_115 : decode cX13_forestLine 115 = .ok (.iconst 0, 1) := by decide +kernel
theorem d_X13_forestLine_116 : decode cX13_forestLine 116 = .ok (.iastore, 1) := by decide +kernel
theorem d_X13_forestLine_117 : decode cX13_forestLine 117 = .ok (.aload_n 0, 1) := by decide +kernel
theorem d_X13_forestLine_118 : decode cX13_forestLine 118 = .ok (.getfield 7, 3) := by decide +kernel
theorem d_X13_forestLine_121 : decode cX13_forestLine 121 = .ok (.bipush 10, 2) := by decide +kernel
theorem d_X13_forestLine_123 : decode cX13_forestLine 123 = .ok (.iconst 3, 1) := by decide +kernel
theorem d_X13_forestLine_124 : decode cX13_forestLine 124 = .ok (.iload 4, 2) := by decide +kernel
theorem d_X13_forestLine_126 : decode cX13_forestLine 126 = .ok (.imul, 1) := by decide +kernel
theorem d_X13_forestLine_127 : decode cX13_forestLine 127 = .ok (.iadd, 1) := by decide +kernel
theorem d_X13_forestLine_128 : decode cX13_forestLine 128 = .ok (.iconst 2, 1) := by decide +kernel
theorem d_X13_forestLine_129 : decode cX13_forestLine 129 = .ok (.iadd, 1) := by decide +kernel
theorem d_X13_forestLine_130 : decode cX13_forestLine 130 = .ok (.iconst 0, 1) := by decide +kernel
theorem d_X13_forestLine_131 : decode cX13_forestLine 131 = .ok (.iastore, 1) := by decide +kernel
theorem d_X13_forestLine_132 : decode cX13_forestLine 132 = .ok (.iconst 0, 1) := by decide +kernel
theorem d_X13_forestLine_133 : decode cX13_forestLine 133 = .ok (.istore 5, 2) := by decide +kernel
theorem d_X13_forestLine_135 : decode cX13_forestLine 135 = .ok (.iload 5, 2) := by decide +kernel
theorem d_X13_forestLine_137 : decode cX13_forestLine 137 = .ok (.iconst 4, 1) := by decide +kernel
theorem d_X13_forestLine_138 : decode cX13_forestLine 138 = .ok (.if_icmp .ge 34, 3) := by decide +kernel
theorem d_X13_forestLine_141 : decode cX13_forestLine 141 = .ok (.aload_n 0, 1) := by decide +kernel
theorem d_X13_forestLine_142 : decode cX13_forestLine 142 = .ok (.getfield 7, 3) := by decide +kernel
theorem d_X13_forestLine_145 : decode cX13_forestLine 145 = .ok (.bipush 46, 2) := by decide +kernel
theorem d_X13_forestLine_147 : decode cX13_forestLine 147 = .ok (.iconst 4, 1) := by decide +kernel
theorem d_X13_forestLine_148 : decode cX13_forestLine 148 = .ok (.iload 4, 2) := by decide +kernel
theorem d_X13_forestLine_150 : decode cX13_forestLine 150 = .ok (.imul, 1) := by decide +kernel
theorem d_X13_forestLine_151 : decode cX13_forestLine 151 = .ok (.iadd, 1) := by decide +kernel
theorem d_X13_forestLine_152 : decode cX13_forestLine 152 = .ok (.iload 5, 2) := by decide +kernel
theorem d_X13_forestLine_154 : decode cX13_forestLine 154 = .ok (.iadd, 1) := by decide +kernel
theorem d_X13_forestLine_155 : decode cX13_forestLine 155 = .ok (.iload 5, 2) := by decide +kernel
theorem d_X13_forestLine_157 : decode cX13_forestLine 157 = .ok (.ifCond .ne 7, 3) := by decide +kernel
theorem d_X13_forestLine_160 : decode cX13_forestLine 160 = .ok (.iload_n 3, 1) := by decide +kernel
theorem d_X13_forestLine_161 : decode cX13_forestLine 161 = .ok (.goto 4, 3) := by decide +kernel
theorem d_X13_forestLine_164 : decode cX13_forestLine 164 = .ok (.iconst 0, 1) := by decide +kernel
theorem d_X13_forestLine_165 : decode cX13_forestLine 165 = .ok (.iastore, 1) := by decide +kernel
theorem d_X13_forestLine_166 : decode cX13_forestLine 166 = .ok (.iinc 5 1, 3) := by decide +kernel
theorem d_X13_forestLine_169 : decode cX13_forestLine 169 = .ok (.goto (-34), 3) := by decide +kernel
theorem d_X13_forestLine_172 : decode cX13_forestLine 172 = .ok (.goto 248, 3) := by decide +kernel
theorem d_X13_forestLine_175 : decode cX13_forestLine 175 = .ok (.aload_n 0, 1) := by decide +kernel
theorem d_X13_forestLine_176 : decode cX13_forestLine 176 = .ok (.ldc 97, 2) := by decide +kernel
theorem d_X13_forestLine_178 : decode cX13_forestLine 178 = .ok (.invokevirtual 89, 3) := by decide +kernel
theorem d_X13_forestLine_181 : decode cX13_forestLine 181 = .ok (.ifCond .eq 139, 3) := by decide +kernel
theorem d_X13_forestLine_184 : decode cX13_forestLine 184 = .ok (.aload_n 0, 1) := by decide +kernel
theorem d_X13_forestLine_185 : decode cX13_forestLine 185 = .ok (.iconst 0, 1) := by decide +kernel
theorem d_X13_forestLine_186 : decode cX13_forestLine 186 = .ok (.aload_n 0, 1) := by decide +kernel
theorem d_X13_forestLine_187 : decode cX13_forestLine 187 = .ok (.getfield 7, 3) := by decide +kernel
theorem d_X13_forestLine_190 : decode cX13_forestLine 190 = .ok (.iconst 1, 1) := by decide +kernel
theorem d_X13_forestLine_191 : decode cX13_forestLine 191 = .ok (.iaload, 1) := by decide +kernel
theorem d_X13_forestLine_192 : decode cX13_forestLine 192 = .ok (.invokevirtual 93, 3) := by decide +kernel
theorem d_X13_forestLine_195 : decode cX13_forestLine 195 = .ok (.istore_n 2, 1) := by decide +kernel
theorem d_X13_forestLine_196 : decode cX13_forestLine 196 = .ok (.aload_n 0, 1) := by decide +kernel
theorem d_X13_forestLine_197 : decode cX13_forestLine 197 = .ok (.iconst 1, 1) := by decide +kernel
theorem d_X13_forestLine_198 : decode cX13_forestLine 198 = .ok (.bipush 20, 2) := by decide +kernel
theorem d_X13_forestLine_200 : decode cX13_forestLine 200 = .ok (.invokevirtual 93, 3) := by decide +kernel
theorem d_X13_forestLine_203 : decode cX13_forestLine 203 = .ok (.istore_n 3, 1) := by decide +kernel
theorem d_X13_forestLine_204 : decode cX13_forestLine 204 = .ok (.aload_n 0, 1) := by decide +kernel
theorem d_X13_forestLine_205 : decode cX13_forestLine 205 = .ok (.getfield 22, 3) := by decide +kernel
theorem d_X13_forestLine_208 : decode cX13_forestLine 208 = .ok (.iconst (-1), 1) := by decide +kernel
theorem d_X13_forestLine_209 : decode cX13_forestLine 209 = .ok (.if_icmp .ne 22, 3) := by decide +kernel
theorem d_X13_forestLine_212 : decode cX13_forestLine 212 = .ok (.aload_n 0, 1) := by decide +kernel
theorem d_X13_forestLine_213 : decode cX13_forestLine 213 = .ok (.ldc 99, 2) := by decide +kernel
theorem d_X13_forestLine_215 : decode cX13_forestLine 215 = .ok (.invokevirtual 89, 3) := by decide +kernel
theorem d_X13_forestLine_218 : decode cX13_forestLine 218 = .ok (.ifCond .eq 13, 3) := by decide +kernel
theorem d_X13_forestLine_221 : decode cX13_forestLine 221 = .ok (.aload_n 0, 1) := by decide +kernel
theorem d_X13_forestLine_222 : decode cX13_forestLine 222 = .ok (.iconst 0, 1) := by decide +kernel
theorem d_X13_forestLine_223 : decode cX13_forestLine 223 = .ok (.bipush 99, 2) := by decide +kernel
theorem d_X13_forestLine_225 : decode cX13_forestLine 225 = .ok (.invokevirtual 93, 3) := by decide +kernel
theorem d_X13_forestLine_228 : decode cX13_forestLine 228 = .ok (.goto 4, 3) := by decide +kernel
theorem d_X13_forestLine_231 : decode cX13_forestLine 231 = .ok (.iconst 0, 1) := by decide +kernel
theorem d_X13_forestLine_232 : decode cX13_forestLine 232 = .ok (.istore 4, 2) := by decide +kernel
theorem d_X13_forestLine_234 : decode cX13_forestLine 234 = .ok (.aload_n 0, 1) := by decide +kernel
theorem d_X13_forestLine_235 : decode cX13_forestLine 235 = .ok (.getfield 22, 3) := by decide +kernel
theorem d_X13_forestLine_238 : decode cX13_forestLine 238 = .ok (.iconst (-1), 1) := by decide +kernel
theorem d_X13_forestLine_239 : decode cX13_forestLine 239 = .ok (.if_icmp .ne 22, 3) := by decide +kernel
theorem d_X13_forestLine_242 : decode cX13_forestLine 242 = .ok (.aload_n 0, 1) := by decide +kernel
theorem d_X13_forestLine_243 : decode cX13_forestLine 243 = .ok (.ldc 101, 2) := by decide +kernel
theorem d_X13_forestLine_245 : decode cX13_forestLine 245 = .ok (.invokevirtual 89, 3) := by decide +kernel
theorem d_X13_forestLine_248 : decode cX13_forestLine 248 = .ok (.ifCond .eq 13, 3) := by decide +kernel
theorem d_X13_forestLine_251 : decode cX13_forestLine 251 = .ok (.aload_n 0, 1) := by decide +kernel
theorem d_X13_forestLine_252 : decode cX13_forestLine 252 = .ok (.iconst 0, 1) := by decide +kernel
theorem d_X13_forestLine_253 : decode cX13_forestLine 253 = .ok (.bipush 9, 2) := by decide +kernel
theorem d_X13_forestLine_255 : decode cX13_forestLine 255 = .ok (.invokevirtual 93, 3) := by decide +kernel
theorem d_X13_forestLine_258 : decode cX13_forestLine 258 = .ok (.goto 4, 3) := by decide +kernel
theorem d_X13_forestLine_261 : decode cX13_forestLine 261 = .ok (.iconst 0, 1) := by decide +kernel
theorem d_X13_forestLine_262 : decode cX13_forestLine 262 = .ok (.istore 5, 2) := by decide +kernel
theorem d_X13_forestLine_264 : decode cX13_forestLine 264 = .ok (.aload_n 0, 1) := by decide +kernel
theorem d_X13_forestLine_265 : decode cX13_forestLine 265 = .ok (.getfield 22, 3) := by decide +kernel
theorem d_X13_forestLine_268 : decode cX13_forestLine 268 = .ok (.iconst (-1), 1) := by decide +kernel
theorem d_X13_forestLine_269 : decode cX13_forestLine 269 = .ok (.if_icmp .eq 4, 3) := by decide +kernel
theorem d_X13_forestLine_272 : decode cX13_forestLine 272 = .ok (.return_, 1) := by decide +kernel
theorem d_X13_forestLine_273 : decode cX13_forestLine 273 = .ok (.aload_n 0, 1) := by decide +kernel
theorem d_X13_forestLine_274 : decode cX13_forestLine 274 = .ok (.getfield 7, 3) := by decide +kernel
theorem d_X13_forestLine_277 : decode cX13_forestLine 277 = .ok (.bipush 10, 2) := by decide +kernel
theorem d_X13_forestLine_279 : decode cX13_forestLine 279 = .ok (.iconst 3, 1) := by decide +kernel
theorem d_X13_forestLine_280 : decode cX13_forestLine 280 = .ok (.iload_n 2, 1) := by decide +kernel
theorem d_X13_forestLine_281 : decode cX13_forestLine 281 = .ok (.imul, 1) := by decide +kernel
theorem d_X13_forestLine_282 : decode cX13_forestLine 282 = .ok (.iadd, 1) := by decide +kernel
theorem d_X13_forestLine_283 : decode cX13_forestLine 283 = .ok (.iconst 0, 1) := by decide +kernel
theorem d_X13_forestLine_284 : decode cX13_forestLine 284 = .ok (.iadd, 1) := by decide +kernel
theorem d_X13_forestLine_285 : decode cX13_forestLine 285 = .ok (.iload_n 3, 1) := by decide +kernel
theorem d_X13_forestLine_286 : decode cX13_forestLine 286 = .ok (.iastore, 1) := by decide +kernel
theorem d_X13_forestLine_287 : decode cX13_forestLine 287 = .ok (.aload_n 0, 1) := by decide +kernel
theorem d_X13_forestLine_288 : decode cX13_forestLine 288 = .ok (.getfield 7, 3) := by decide +kernel
theorem d_X13_forestLine_291 : decode cX13_forestLine 291 = .ok (.bipush 10, 2) := by decide +kernel
theorem d_X13_forestLine_293 : decode cX13_forestLine 293 = .ok (.iconst 3, 1) := by decide +kernel
theorem d_X13_forestLine_294 : decode cX13_forestLine 294 = .ok (.iload_n 2, 1) := by decide +kernel
theorem d_X13_forestLine_295 : decode cX13_forestLine 295 = .ok (.imul, 1) := by decide +kernel
theorem d_X13_forestLine_296 : decode cX13_forestLine 296 = .ok (.iadd, 1) := by decide +kernel
theorem d_X13_forestLine_297 : decode cX13_forestLine 297 = .ok (.iconst 1, 1) := by decide +kernel
theorem d_X13_forestLine_298 : decode cX13_forestLine 298 = .ok (.iadd, 1) := by decide +kernel
theorem d_X13_forestLine_299 : decode cX13_forestLine 299 = .ok (.iload 4, 2) := by decide +kernel
theorem d_X13_forestLine_301 : decode cX13_forestLine 301 = .ok (.iastore, 1) := by decide +kernel
theorem d_X13_forestLine_302 : decode cX13_forestLine 302 = .ok (.aload_n 0, 1) := by decide +kernel
theorem d_X13_forestLine_303 : decode cX13_forestLine 303 = .ok (.getfield 7, 3) := by decide +kernel
theorem d_X13_forestLine_306 : decode cX13_forestLine 306 = .ok (.bipush 10, 2) := by decide +kernel
theorem d_X13_forestLine_308 : decode cX13_forestLine 308 = .ok (.iconst 3, 1) := by decide +kernel
theorem d_X13_forestLine_309 : decode cX13_forestLine 309 = .ok (.iload_n 2, 1) := by decide +kernel
theorem d_X13_forestLine_310 : decode cX13_forestLine 310 = .ok (.imul, 1) := by decide +kernel
theorem d_X13_forestLine_311 : decode cX13_forestLine 311 = .ok (.iadd, 1) := by decide +kernel
theorem d_X13_forestLine_312 : decode cX13_forestLine 312 = .ok (.iconst 2, 1) := by decide +kernel
theorem d_X13_forestLine_313 : decode cX13_forestLine 313 = .ok (.iadd, 1) := by decide +kernel
theorem d_X13_forestLine_314 : decode cX13_forestLine 314 = .ok (.iload 5, 2) := by decide +kernel
theorem d_X13_forestLine_316 : decode cX13_forestLine 316 = .ok (.iastore, 1) := by decide +kernel
theorem d_X13_forestLine_317 : decode cX13_forestLine 317 = .ok (.goto 103, 3) := by decide +kernel
theorem d_X13_forestLine_320 : decode cX13_forestLine 320 = .ok (.aload_n 0, 1) := by decide +kernel
theorem d_X13_forestLine_321 : decode cX13_forestLine 321 = .ok (.ldc 103, 2) := by decide +kernel
theorem d_X13_forestLine_323 : decode cX13_forestLine 323 = .ok (.invokevirtual 89, 3) := by decide +kernel
theorem d_X13_forestLine_326 : decode cX13_forestLine 326 = .ok (.ifCond .eq 19, 3) := by decide +kernel
theorem d_X13_forestLine_329 : decode cX13_forestLine 329 = .ok (.aload_n 0, 1) := by decide +kernel
theorem d_X13_forestLine_330 : decode cX13_forestLine 330 = .ok (.getfield 7, 3) := by decide +kernel
theorem d_X13_forestLine_333 : decode cX13_forestLine 333 = .ok (.iconst 5, 1) := by decide +kernel
theorem d_X13_forestLine_334 : decode cX13_forestLine 334 = .ok (.aload_n 0, 1) := by decide +kernel
theorem d_X13_forestLine_335 : decode cX13_forestLine 335 = .ok (.iconst 1, 1) := by decide +kernel
theorem d_X13_forestLine_336 : decode cX13_forestLine 336 = .ok (.bipush 9, 2) := by decide +kernel
theorem d_X13_forestLine_338 : decode cX13_forestLine 338 = .ok (.invokevirtual 93, 3) := by decide +kernel
theorem d_X13_forestLine_341 : decode cX13_forestLine 341 = .ok (.iastore, 1) := by decide +kernel
theorem d_X13_forestLine_342 : decode cX13_forestLine 342 = .ok (.goto 78, 3) := by decide +kernel
theorem d_X13_forestLine_345 : decode cX13_forestLine 345 = .ok (.aload_n 0, 1) := by decide +kernel
theorem d_X13_forestLine_346 : decode cX13_forestLine 346 = .ok (.ldc 105, 2) := by decide +kernel
theorem d_X13_forestLine_348 : decode cX13_forestLine 348 = .ok (.invokevirtual 89, 3) := by decide +kernel
theorem d_X13_forestLine_351 : decode cX13_forestLine 351 = .ok (.ifCond .eq 34, 3) := by decide +kernel
theorem d_X13_forestLine_354 : decode cX13_forestLine 354 = .ok (.aload_n 0, 1) := by decide +kernel
theorem d_X13_forestLine_355 : decode cX13_forestLine 355 = .ok (.getfield 7, 3) := by decide +kernel
theorem d_X13_forestLine_358 : decode cX13_forestLine 358 = .ok (.bipush 6, 2) := by decide +kernel
theorem d_X13_forestLine_360 : decode cX13_forestLine 360 = .ok (.aload_n 0, 1) := by decide +kernel
theorem d_X13_forestLine_361 : decode cX13_forestLine 361 = .ok (.iconst 0, 1) := by decide +kernel
theorem d_X13_forestLine_362 : decode cX13_forestLine 362 = .ok (.bipush 23, 2) := by decide +kernel
theorem d_X13_forestLine_364 : decode cX13_forestLine 364 = .ok (.invokevirtual 93, 3) := by decide +kernel
theorem d_X13_forestLine_367 : decode cX13_forestLine 367 = .ok (.iastore, 1) := by decide +kernel
theorem d_X13_forestLine_368 : decode cX13_forestLine 368 = .ok (.aload_n 0, 1) := by decide +kernel
theorem d_X13_forestLine_369 : decode cX13_forestLine 369 = .ok (.getfield 7, 3) := by decide +kernel
theorem d_X13_forestLine_372 : decode cX13_forestLine 372 = .ok (.bipush 7, 2) := by decide +kernel
theorem d_X13_forestLine_374 : decode cX13_forestLine 374 = .ok (.aload_n 0, 1) := by decide +kernel
theorem d_X13_forestLine_375 : decode cX13_forestLine 375 = .ok (.iconst 0, 1) := by decide +kernel
theorem d_X13_forestLine_376 : decode cX13_forestLine 376 = .ok (.bipush 23, 2) := by decide +kernel
theorem d_X13_forestLine_378 : decode cX13_forestLine 378 = .ok (.invokevirtual 93, 3) := by decide +kernel
theorem d_X13_forestLine_381 : decode cX13_forestLine 381 = .ok (.iastore, 1) := by decide +kernel
theorem d_X13_forestLine_382 : decode cX13_forestLine 382 = .ok (.goto 38, 3) := by decide +kernel
theorem d_X13_forestLine_385 : decode cX13_forestLine 385 = .ok (.aload_n 0, 1) := by decide +kernel
theorem d_X13_forestLine_386 : decode cX13_forestLine 386 = .ok (.ldc 107, 2) := by decide +kernel
theorem d_X13_forestLine_388 : decode cX13_forestLine 388 = .ok (.invokevirtual 89, 3) := by decide +kernel
theorem d_X13_forestLine_391 : decode cX13_forestLine 391 = .ok (.ifCond .eq 21, 3) := by decide +kernel
theorem d_X13_forestLine_394 : decode cX13_forestLine 394 = .ok (.aload_n 0, 1) := by decide +kernel
theorem d_X13_forestLine_395 : decode cX13_forestLine 395 = .ok (.getfield 7, 3) := by decide +kernel
theorem d_X13_forestLine_398 : decode cX13_forestLine 398 = .ok (.bipush 8, 2) := by decide +kernel
theorem d_X13_forestLine_400 : decode cX13_forestLine 400 = .ok (.aload_n 0, 1) := by decide +kernel
theorem d_X13_forestLine_401 : decode cX13_forestLine 401 = .ok (.iconst 0, 1) := by decide +kernel
theorem d_X13_forestLine_402 : decode cX13_forestLine 402 = .ok (.sipush 999, 3) := by decide +kernel
theorem d_X13_forestLine_405 : decode cX13_forestLine 405 = .ok (.invokevirtual 93, 3) := by decide +kernel
theorem d_X13_forestLine_408 : decode cX13_forestLine 408 = .ok (.iastore, 1) := by decide +kernel
theorem d_X13_forestLine_409 : decode cX13_forestLine 409 = .ok (.goto 11, 3) := by decide +kernel
theorem d_X13_forestLine_412 : decode cX13_forestLine 412 = .ok (.aload_n 0, 1) := by decide +kernel
theorem d_X13_forestLine_413 : decode cX13_forestLine 413 = .ok (.aload_n 0, 1) := by decide +kernel
theorem d_X13_forestLine_414 : decode cX13_forestLine 414 = .ok (.getfield 60, 3) := by decide +kernel
theorem d_X13_forestLine_417 : decode cX13_forestLine 417 = .ok (.invokevirtual 83, 3) := by decide +kernel
theorem d_X13_forestLine_420 : decode cX13_forestLine 420 = .ok (.return_, 1) := by decide +kernel
abbrev rm_X13_forestLine : Room := { frames := 5, cells := 0, slots := 0, locals := 108 }
def B_X13_forestLine_420 (post : (Nat → Nat → Int32) → Prop) (mm : (Nat → Nat → Int32)) : Prop := post mm
def B_X13_forestLine_262 (post : (Nat → Nat → Int32) → Prop) (v2 : Int32) (v3 : Int32) (v4 : Int32) (s0 : Int32) (mm : (Nat → Nat → Int32)) : Prop := ((mm 0 10) = (-1) → ((vp_in ((10 + (3 * v2)) + 0) 25530) ∧ (vp_in ((10 + (3 * v2)) + 1) 25530) ∧ (vp_in ((10 + (3 * v2)) + 2) 25530) ∧ B_X13_forestLine_420 post (up2 (up2 (up2 mm 1 (Int32.toNatClampNeg ((10 + (3 * v2)) + 0)) v3) 1 (Int32.toNatClampNeg ((10 + (3 * v2)) + 1)) v4) 1 (Int32.toNatClampNeg ((10 + (3 * v2)) + 2)) s0))) ∧ (¬ (mm 0 10) = (-1) → (post mm))
def B_X13_forestLine_261 (post : (Nat → Nat → Int32) → Prop) (v2 : Int32) (v3 : Int32) (v4 : Int32) (mm : (Nat → Nat → Int32)) : Prop := B_X13_forestLine_262 post v2 v3 v4 0 mm
def B_X13_forestLine_232 (post : (Nat → Nat → Int32) → Prop) (v2 : Int32) (v3 : Int32) (s0 : Int32) (mm : (Nat → Nat → Int32)) : Prop := (¬ (mm 0 10) = (-1) → (B_X13_forestLine_261 post v2 v3 s0 mm)) ∧ ((mm 0 10) = (-1) → (w_X13_has (fun (r41 : Bool) (u42 : (Nat → Nat → Int32)) => ((r41 = false) → (B_X13_forestLine_261 post v2 v3 s0 u42)) ∧ (¬ (r41 = false) → (w_X13_figures (fun (r43 : Int32) (u44 : (Nat → Nat → Int32)) => B_X13_forestLine_262 post v2 v3 s0 r43 u44) 0 9 u42))) 3 mm))
def B_X13_forestLine_231 (post : (Nat → Nat → Int32) → Prop) (v2 : Int32) (v3 : Int32) (mm : (Nat → Nat → Int32)) : Prop := B_X13_forestLine_232 post v2 v3 0 mm
def B_X13_forestLine_165 (post : (Nat → Nat → Int32) → Prop) (k135 : Int32 → Int32 → Int32 → (Nat → Nat → Int32) → Prop) (v3 : Int32) (v4 : Int32) (v5 : Int32) (s0 : Int32) (s1 : Int32) (mm : (Nat → Nat → Int32)) : Prop := (vp_in s1 25530) ∧ k135 v3 v4 (v5 + 1) (up2 mm 1 (Int32.toNatClampNeg s1) s0)
def B_X13_forestLine_135 (post : (Nat → Nat → Int32) → Prop) : Nat → Int32 → Int32 → Int32 → (Nat → Nat → Int32) → Prop
  | 0 => fun _ _ _ _ => False
  | n + 1 => fun v3 v4 v5 mm => (4 ≤ v5 → (B_X13_forestLine_420 post mm)) ∧ (¬ 4 ≤ v5 → ((¬ v5 = 0 → (B_X13_forestLine_165 post (B_X13_forestLine_135 post n) v3 v4 v5 0 ((46 + (4 * v4)) + v5) mm)) ∧ (v5 = 0 → (B_X13_forestLine_165 post (B_X13_forestLine_135 post n) v3 v4 v5 v3 ((46 + (4 * v4)) + v5) mm))))
def B_X13_forestLine_43 (post : (Nat → Nat → Int32) → Prop) (mm : (Nat → Nat → Int32)) : Prop := w_X13_figures (fun (r31 : Int32) (u32 : (Nat → Nat → Int32)) => w_X13_figures (fun (r33 : Int32) (u34 : (Nat → Nat → Int32)) => ((u34 0 10) = (-1) → ((vp_in ((10 + (3 * ((up2 u34 1 (Int32.toNatClampNeg (1 : Int32)) ((u34 1 (Int32.toNatClampNeg (1 : Int32))) + 1)) 1 (Int32.toNatClampNeg (1 : Int32))))) + 0) 25530) ∧ (vp_in ((10 + (3 * ((up2 u34 1 (Int32.toNatClampNeg (1 : Int32)) ((u34 1 (Int32.toNatClampNeg (1 : Int32))) + 1)) 1 (Int32.toNatClampNeg (1 : Int32))))) + 1) 25530) ∧ (vp_in ((10 + (3 * ((up2 u34 1 (Int32.toNatClampNeg (1 : Int32)) ((u34 1 (Int32.toNatClampNeg (1 : Int32))) + 1)) 1 (Int32.toNatClampNeg (1 : Int32))))) + 2) 25530) ∧ ∃ n135, B_X13_forestLine_135 post n135 r33 ((up2 u34 1 (Int32.toNatClampNeg (1 : Int32)) ((u34 1 (Int32.toNatClampNeg (1 : Int32))) + 1)) 1 (Int32.toNatClampNeg (1 : Int32))) 0 (up2 (up2 (up2 (up2 u34 1 (Int32.toNatClampNeg (1 : Int32)) ((u34 1 (Int32.toNatClampNeg (1 : Int32))) + 1)) 1 (Int32.toNatClampNeg ((10 + (3 * ((up2 u34 1 (Int32.toNatClampNeg (1 : Int32)) ((u34 1 (Int32.toNatClampNeg (1 : Int32))) + 1)) 1 (Int32.toNatClampNeg (1 : Int32))))) + 0)) r31) 1 (Int32.toNatClampNeg ((10 + (3 * ((up2 u34 1 (Int32.toNatClampNeg (1 : Int32)) ((u34 1 (Int32.toNatClampNeg (1 : Int32))) + 1)) 1 (Int32.toNatClampNeg (1 : Int32))))) + 1)) 0) 1 (Int32.toNatClampNeg ((10 + (3 * ((up2 u34 1 (Int32.toNatClampNeg (1 : Int32)) ((u34 1 (Int32.toNatClampNeg (1 : Int32))) + 1)) 1 (Int32.toNatClampNeg (1 : Int32))))) + 2)) 0))) ∧ (¬ (u34 0 10) = (-1) → (post u34))) 0 999 u32) 1 20 mm
def B_X13_forestLine_38 (post : (Nat → Nat → Int32) → Prop) (v1 : Int32) (mm : (Nat → Nat → Int32)) : Prop := w_X13_wrong (fun (u40 : (Nat → Nat → Int32)) => B_X13_forestLine_43 post u40) v1 mm
def w_X13_forestLine (post : (Nat → Nat → Int32) → Prop) (mm : (Nat → Nat → Int32)) : Prop := w_X13_skip (fun (u2 : (Nat → Nat → Int32)) => w_X13_has (fun (r3 : Bool) (u4 : (Nat → Nat → Int32)) => ((r3 = false) → (w_X13_has (fun (r5 : Bool) (u6 : (Nat → Nat → Int32)) => ((r5 = false) → (w_X13_has (fun (r7 : Bool) (u8 : (Nat → Nat → Int32)) => ((r7 = false) → (w_X13_has (fun (r9 : Bool) (u10 : (Nat → Nat → Int32)) => ((r9 = false) → (w_X13_has (fun (r11 : Bool) (u12 : (Nat → Nat → Int32)) => ((r11 = false) → (w_X13_wrong (fun (u14 : (Nat → Nat → Int32)) => B_X13_forestLine_420 post u14) (u12 0 9) u12)) ∧ (¬ (r11 = false) → (w_X13_figures (fun (r15 : Int32) (u16 : (Nat → Nat → Int32)) => B_X13_forestLine_420 post (up2 u16 1 (Int32.toNatClampNeg (8 : Int32)) r15)) 0 999 u12))) 4 u10)) ∧ (¬ (r9 = false) → (w_X13_figures (fun (r17 : Int32) (u18 : (Nat → Nat → Int32)) => w_X13_figures (fun (r19 : Int32) (u20 : (Nat → Nat → Int32)) => B_X13_forestLine_420 post (up2 u20 1 (Int32.toNatClampNeg (7 : Int32)) r19)) 0 23 (up2 u18 1 (Int32.toNatClampNeg (6 : Int32)) r17)) 0 23 u10))) 14 u8)) ∧ (¬ (r7 = false) → (w_X13_figures (fun (r21 : Int32) (u22 : (Nat → Nat → Int32)) => B_X13_forestLine_420 post (up2 u22 1 (Int32.toNatClampNeg (5 : Int32)) r21)) 1 9 u8))) 21 u6)) ∧ (¬ (r5 = false) → (w_X13_figures (fun (r23 : Int32) (u24 : (Nat → Nat → Int32)) => w_X13_figures (fun (r25 : Int32) (u26 : (Nat → Nat → Int32)) => (¬ (u26 0 10) = (-1) → (B_X13_forestLine_231 post r23 r25 u26)) ∧ ((u26 0 10) = (-1) → (w_X13_has (fun (r27 : Bool) (u28 : (Nat → Nat → Int32)) => ((r27 = false) → (B_X13_forestLine_231 post r23 r25 u28)) ∧ (¬ (r27 = false) → (w_X13_figures (fun (r29 : Int32) (u30 : (Nat → Nat → Int32)) => B_X13_forestLine_232 post r23 r25 r29 u30) 0 99 u28))) 2 u26))) 1 20 u24) 0 (u6 1 (Int32.toNatClampNeg (1 : Int32))) u6))) 1 u4)) ∧ (¬ (r3 = false) → (((u4 1 (Int32.toNatClampNeg (1 : Int32))) = 11 → (B_X13_forestLine_38 post (u2 0 9) u4)) ∧ (¬ (u4 1 (Int32.toNatClampNeg (1 : Int32))) = 11 → (((u4 1 (Int32.toNatClampNeg (2 : Int32))) ≤ 0 → (B_X13_forestLine_43 post u4)) ∧ (¬ (u4 1 (Int32.toNatClampNeg (2 : Int32))) ≤ 0 → (B_X13_forestLine_38 post (u2 0 9) u4))))))) 0 u2)  mm
section G_X13_forestLine
variable {p : Program} {l : Launch} {e : Env} {s : State} {m : MethodId} {args : Array Value} {below : List Frame} {meth : Method} {c : Code} {G : Gd} {ρ : Nat → Nat} {A : Nat → Prop} {cm : CMu} {oo : Nat → Int64}
set_option maxHeartbeats 4000000 in
set_option maxRecDepth 100000 in
theorem T_X13_forestLine_420 {post : (Nat → Nat → Int32) → Prop} (hl : l.stackTraces = false) (X : MC p l s m args meth c cX13_forestLine 6 RX13 G ρ A) (hr : meth.sig.returnType = none) (hex : ∀ z ∈ c.exceptionTable.toList, False) : ∀ (mm : (Nat → Nat → Int32)), B_X13_forestLine_420 post mm → LW p l e rm_X13_forestLine s m args below meth c (Qm below G ρ A (PV (fun u => (cm, u, oo)) post) noX args s 0 0) G ρ A 6 0 0 420 [] [] (cm, mm, oo) := by
  intro mm h
  unfold B_X13_forestLine_420 at h
  exact L_vret (pc := 420) X hr d_X13_forestLine_420 (by decide) (by decide) ⟨_, rfl, rfl, h⟩
set_option maxHeartbeats 4000000 in
set_option maxRecDepth 100000 in
theorem T_X13_forestLine_262 {post : (Nat → Nat → Int32) → Prop} (hl : l.stackTraces = false) (X : MC p l s m args meth c cX13_forestLine 6 RX13 G ρ A) (hr : meth.sig.returnType = none) (hex : ∀ z ∈ c.exceptionTable.toList, False) : ∀ (v2 : Int32) (v3 : Int32) (v4 : Int32) (s0 : Int32) (mm : (Nat → Nat → Int32)), B_X13_forestLine_262 post v2 v3 v4 s0 mm → LW p l e rm_X13_forestLine s m args below meth c (Qm below G ρ A (PV (fun u => (cm, u, oo)) post) noX args s 0 0) G ρ A 6 0 0 262 [(0, .ref 703), (2, .int v2), (3, .int v3), (4, .int v4)] [.int s0] (cm, mm, oo) := by
  intro v2 v3 v4 s0 mm h
  unfold B_X13_forestLine_262 at h
  refine L_istore (pc := 262) (lv2 := [(5, .int s0), (0, .ref 703), (2, .int v2), (3, .int v3), (4, .int v4)]) X d_X13_forestLine_262 (by decide) rfl ?_
  refine L_aload_n (pc := 264) X d_X13_forestLine_264 rfl 1 rfl ?_
  refine gf_X13_22 (pc := 265) X d_X13_forestLine_265 ?_
  refine L_iconst (pc := 268) (v := (-1)) X d_X13_forestLine_268 (by decide) ?_
  refine L_icmp_eq (pc := 269) (tgt := 273) X d_X13_forestLine_269 (by decide) (fun c269 => ?_) (fun c269 => ?_)
  · replace h := h.1 c269
    refine L_aload_n (pc := 273) X d_X13_forestLine_273 rfl 1 rfl ?_
    refine gf_X13_7 (pc := 274) X d_X13_forestLine_274 ?_
    refine L_bipush (pc := 277) (v := 10) X d_X13_forestLine_277 (by decide) ?_
    refine L_iconst (pc := 279) (v := 3) X d_X13_forestLine_279 (by decide) ?_
    refine L_iload_n (pc := 280) X d_X13_forestLine_280 rfl 2 rfl ?_
    refine L_imul (pc := 281) X d_X13_forestLine_281 ?_
    refine L_iadd (pc := 282) X d_X13_forestLine_282 ?_
    refine L_iconst (pc := 283) (v := 0) X d_X13_forestLine_283 (by decide) ?_
    refine L_iadd (pc := 284) X d_X13_forestLine_284 ?_
    refine L_iload_n (pc := 285) X d_X13_forestLine_285 rfl 3 rfl ?_
    obtain ⟨q45, h⟩ := h
    refine L_iastM (pc := 286) (a := 1) X d_X13_forestLine_286 kd_704 q45 ?_
    refine L_aload_n (pc := 287) X d_X13_forestLine_287 rfl 1 rfl ?_
    refine gf_X13_7 (pc := 288) X d_X13_forestLine_288 ?_
    refine L_bipush (pc := 291) (v := 10) X d_X13_forestLine_291 (by decide) ?_
    refine L_iconst (pc := 293) (v := 3) X d_X13_forestLine_293 (by decide) ?_
    refine L_iload_n (pc := 294) X d_X13_forestLine_294 rfl 2 rfl ?_
    refine L_imul (pc := 295) X d_X13_forestLine_295 ?_
    refine L_iadd (pc := 296) X d_X13_forestLine_296 ?_
    refine L_iconst (pc := 297) (v := 1) X d_X13_forestLine_297 (by decide) ?_
    refine L_iadd (pc := 298) X d_X13_forestLine_298 ?_
    refine L_iload (pc := 299) X d_X13_forestLine_299 4 rfl ?_
    obtain ⟨q46, h⟩ := h
    refine L_iastM (pc := 301) (a := 1) X d_X13_forestLine_301 kd_704 q46 ?_
    refine L_aload_n (pc := 302) X d_X13_forestLine_302 rfl 1 rfl ?_
    refine gf_X13_7 (pc := 303) X d_X13_forestLine_303 ?_
    refine L_bipush (pc := 306) (v := 10) X d_X13_forestLine_306 (by decide) ?_
    refine L_iconst (pc := 308) (v := 3) X d_X13_forestLine_308 (by decide) ?_
    refine L_iload_n (pc := 309) X d_X13_forestLine_309 rfl 2 rfl ?_
    refine L_imul (pc := 310) X d_X13_forestLine_310 ?_
    refine L_iadd (pc := 311) X d_X13_forestLine_311 ?_
    refine L_iconst (pc := 312) (v := 2) X d_X13_forestLine_312 (by decide) ?_
    refine L_iadd (pc := 313) X d_X13_forestLine_313 ?_
    refine L_iload (pc := 314) X d_X13_forestLine_314 0 rfl ?_
    obtain ⟨q47, h⟩ := h
    refine L_iastM (pc := 316) (a := 1) X d_X13_forestLine_316 kd_704 q47 ?_
    refine L_goto (pc := 317) (tgt := 420) X d_X13_forestLine_317 (by decide) ?_
    refine LW.sub [] rfl ?_
    exact T_X13_forestLine_420 hl X hr hex   _ h
  · replace h := h.2 c269
    exact L_vret (pc := 272) X hr d_X13_forestLine_272 (by decide) (by decide) ⟨_, rfl, rfl, h⟩
set_option maxHeartbeats 4000000 in
set_option maxRecDepth 100000 in
theorem T_X13_forestLine_261 {post : (Nat → Nat → Int32) → Prop} (hl : l.stackTraces = false) (X : MC p l s m args meth c cX13_forestLine 6 RX13 G ρ A) (hr : meth.sig.returnType = none) (hex : ∀ z ∈ c.exceptionTable.toList, False) : ∀ (v2 : Int32) (v3 : Int32) (v4 : Int32) (mm : (Nat → Nat → Int32)), B_X13_forestLine_261 post v2 v3 v4 mm → LW p l e rm_X13_forestLine s m args below meth c (Qm below G ρ A (PV (fun u => (cm, u, oo)) post) noX args s 0 0) G ρ A 6 0 0 261 [(0, .ref 703), (2, .int v2), (3, .int v3), (4, .int v4)] [] (cm, mm, oo) := by
  intro v2 v3 v4 mm h
  unfold B_X13_forestLine_261 at h
  refine L_iconst (pc := 261) (v := 0) X d_X13_forestLine_261 (by decide) ?_
  refine LW.sub [0, 1, 2, 3] rfl ?_
  exact T_X13_forestLine_262 hl X hr hex _ _ _ _  _ h
set_option maxHeartbeats 4000000 in
set_option maxRecDepth 100000 in
theorem T_X13_forestLine_232 {post : (Nat → Nat → Int32) → Prop} (hl : l.stackTraces = false) (X : MC p l s m args meth c cX13_forestLine 6 RX13 G ρ A) (hr : meth.sig.returnType = none) (hex : ∀ z ∈ c.exceptionTable.toList, False) : ∀ (v2 : Int32) (v3 : Int32) (s0 : Int32) (mm : (Nat → Nat → Int32)), B_X13_forestLine_232 post v2 v3 s0 mm → LW p l e rm_X13_forestLine s m args below meth c (Qm below G ρ A (PV (fun u => (cm, u, oo)) post) noX args s 0 0) G ρ A 6 0 0 232 [(0, .ref 703), (2, .int v2), (3, .int v3)] [.int s0] (cm, mm, oo) := by
  intro v2 v3 s0 mm h
  unfold B_X13_forestLine_232 at h
  refine L_istore (pc := 232) (lv2 := [(4, .int s0), (0, .ref 703), (2, .int v2), (3, .int v3)]) X d_X13_forestLine_232 (by decide) rfl ?_
  refine L_aload_n (pc := 234) X d_X13_forestLine_234 rfl 1 rfl ?_
  refine gf_X13_22 (pc := 235) X d_X13_forestLine_235 ?_
  refine L_iconst (pc := 238) (v := (-1)) X d_X13_forestLine_238 (by decide) ?_
  refine L_icmp_ne (pc := 239) (tgt := 261) X d_X13_forestLine_239 (by decide) (fun c239 => ?_) (fun c239 => ?_)
  · replace h := h.1 c239
    refine LW.sub [1, 2, 3, 0] rfl ?_
    exact T_X13_forestLine_261 hl X hr hex _ _ _  _ h
  · replace h := h.2 c239
    refine L_aload_n (pc := 242) X d_X13_forestLine_242 rfl 1 rfl ?_
    refine L_ldcS (pc := 243) (i := 3) X (by decide) d_X13_forestLine_243 ?_
    refine L_callVZ (pc := 245) X lk_X13_89 (c_X13_has X.hst (by decide) h) rfl rfl kd_703 (by decide) rfl rfl ⟨by decide, by decide⟩ ⟨by decide, by decide⟩ (Nat.zero_le _) d_X13_forestLine_245 rfl (fun x κ1 hx => L_nox hx) (fun r41 u42 h => ?_)
    refine L_if_eq (pc := 248) (tgt := 261) X d_X13_forestLine_248 (by decide) (fun c248 => ?_) (fun c248 => ?_)
    · replace h := h.1 ((b2_0 _).mp c248)
      refine LW.sub [1, 2, 3, 0] rfl ?_
      exact T_X13_forestLine_261 hl X hr hex _ _ _  _ h
    · replace h := h.2 (fun z => c248 ((b2_0 _).mpr z))
      refine L_aload_n (pc := 251) X d_X13_forestLine_251 rfl 1 rfl ?_
      refine L_iconst (pc := 252) (v := 0) X d_X13_forestLine_252 (by decide) ?_
      refine L_bipush (pc := 253) (v := 9) X d_X13_forestLine_253 (by decide) ?_
      refine L_callVI (pc := 255) X lk_X13_93 (c_X13_figures X.hst  h) rfl rfl kd_703 (by decide) rfl rfl ⟨by decide, by decide⟩ ⟨by decide, by decide⟩ (Nat.zero_le _) d_X13_forestLine_255 rfl (fun x κ1 hx => L_nox hx) (fun r43 u44 h => ?_)
      refine L_goto (pc := 258) (tgt := 262) X d_X13_forestLine_258 (by decide) ?_
      refine LW.sub [1, 2, 3, 0] rfl ?_
      exact T_X13_forestLine_262 hl X hr hex _ _ _ _  _ h
set_option maxHeartbeats 4000000 in
set_option maxRecDepth 100000 in
theorem T_X13_forestLine_231 {post : (Nat → Nat → Int32) → Prop} (hl : l.stackTraces = false) (X : MC p l s m args meth c cX13_forestLine 6 RX13 G ρ A) (hr : meth.sig.returnType = none) (hex : ∀ z ∈ c.exceptionTable.toList, False) : ∀ (v2 : Int32) (v3 : Int32) (mm : (Nat → Nat → Int32)), B_X13_forestLine_231 post v2 v3 mm → LW p l e rm_X13_forestLine s m args below meth c (Qm below G ρ A (PV (fun u => (cm, u, oo)) post) noX args s 0 0) G ρ A 6 0 0 231 [(0, .ref 703), (2, .int v2), (3, .int v3)] [] (cm, mm, oo) := by
  intro v2 v3 mm h
  unfold B_X13_forestLine_231 at h
  refine L_iconst (pc := 231) (v := 0) X d_X13_forestLine_231 (by decide) ?_
  refine LW.sub [0, 1, 2] rfl ?_
  exact T_X13_forestLine_232 hl X hr hex _ _ _  _ h
set_option maxHeartbeats 4000000 in
set_option maxRecDepth 100000 in
theorem T_X13_forestLine_165 {post : (Nat → Nat → Int32) → Prop} {k135 : Int32 → Int32 → Int32 → (Nat → Nat → Int32) → Prop} (hl : l.stackTraces = false) (X : MC p l s m args meth c cX13_forestLine 6 RX13 G ρ A) (hr : meth.sig.returnType = none) (hex : ∀ z ∈ c.exceptionTable.toList, False)
    (hk135 : ∀ (v3 : Int32) (v4 : Int32) (v5 : Int32) (mm : (Nat → Nat → Int32)), k135 v3 v4 v5 mm → LW p l e rm_X13_forestLine s m args below meth c (Qm below G ρ A (PV (fun u => (cm, u, oo)) post) noX args s 0 0) G ρ A 6 0 0 135 [(0, .ref 703), (3, .int v3), (4, .int v4), (5, .int v5)] [] (cm, mm, oo)) : ∀ (v3 : Int32) (v4 : Int32) (v5 : Int32) (s0 : Int32) (s1 : Int32) (mm : (Nat → Nat → Int32)), B_X13_forestLine_165 post k135 v3 v4 v5 s0 s1 mm → LW p l e rm_X13_forestLine s m args below meth c (Qm below G ρ A (PV (fun u => (cm, u, oo)) post) noX args s 0 0) G ρ A 6 0 0 165 [(0, .ref 703), (3, .int v3), (4, .int v4), (5, .int v5)] [.int s0, .int s1, .ref 704] (cm, mm, oo) := by
  intro v3 v4 v5 s0 s1 mm h
  unfold B_X13_forestLine_165 at h
  obtain ⟨q38, h⟩ := h
  refine L_iastM (pc := 165) (a := 1) X d_X13_forestLine_165 kd_704 q38 ?_
  refine L_iinc (pc := 166) (v := v5 + 1) (lv2 := [(5, .int (v5 + 1)), (0, .ref 703), (3, .int v3), (4, .int v4)]) X d_X13_forestLine_166 3 rfl rfl (by decide) rfl ?_
  refine L_goto (pc := 169) (tgt := 135) X d_X13_forestLine_169 (by decide) ?_
  refine LW.sub [1, 2, 3, 0] rfl ?_
  exact hk135 _ _ _  _ h
set_option maxHeartbeats 4000000 in
set_option maxRecDepth 100000 in
theorem T_X13_forestLine_135 {post : (Nat → Nat → Int32) → Prop} (hl : l.stackTraces = false) (X : MC p l s m args meth c cX13_forestLine 6 RX13 G ρ A) (hr : meth.sig.returnType = none) (hex : ∀ z ∈ c.exceptionTable.toList, False) (n : Nat) : ∀ (v3 : Int32) (v4 : Int32) (v5 : Int32) (mm : (Nat → Nat → Int32)), B_X13_forestLine_135 post n v3 v4 v5 mm → LW p l e rm_X13_forestLine s m args below meth c (Qm below G ρ A (PV (fun u => (cm, u, oo)) post) noX args s 0 0) G ρ A 6 0 0 135 [(0, .ref 703), (3, .int v3), (4, .int v4), (5, .int v5)] [] (cm, mm, oo) := by
  induction n with
  | zero =>
    intro v3 v4 v5 mm h
    exact False.elim h
  | succ n ih =>
    intro v3 v4 v5 mm h
    unfold B_X13_forestLine_135 at h
    refine L_iload (pc := 135) X d_X13_forestLine_135 3 rfl ?_
    refine L_iconst (pc := 137) (v := 4) X d_X13_forestLine_137 (by decide) ?_
    refine L_icmp_ge (pc := 138) (tgt := 172) X d_X13_forestLine_138 (by decide) (fun c138 => ?_) (fun c138 => ?_)
    · replace h := h.1 c138
      refine L_goto (pc := 172) (tgt := 420) X d_X13_forestLine_172 (by decide) ?_
      refine LW.sub [] rfl ?_
      exact T_X13_forestLine_420 hl X hr hex   _ h
    · replace h := h.2 c138
      refine L_aload_n (pc := 141) X d_X13_forestLine_141 rfl 0 rfl ?_
      refine gf_X13_7 (pc := 142) X d_X13_forestLine_142 ?_
      refine L_bipush (pc := 145) (v := 46) X d_X13_forestLine_145 (by decide) ?_
      refine L_iconst (pc := 147) (v := 4) X d_X13_forestLine_147 (by decide) ?_
      refine L_iload (pc := 148) X d_X13_forestLine_148 2 rfl ?_
      refine L_imul (pc := 150) X d_X13_forestLine_150 ?_
      refine L_iadd (pc := 151) X d_X13_forestLine_151 ?_
      refine L_iload (pc := 152) X d_X13_forestLine_152 3 rfl ?_
      refine L_iadd (pc := 154) X d_X13_forestLine_154 ?_
      refine L_iload (pc := 155) X d_X13_forestLine_155 3 rfl ?_
      refine L_if_ne (pc := 157) (tgt := 164) X d_X13_forestLine_157 (by decide) (fun c157 => ?_) (fun c157 => ?_)
      · replace h := h.1 c157
        refine L_iconst (pc := 164) (v := 0) X d_X13_forestLine_164 (by decide) ?_
        refine LW.sub [0, 1, 2, 3] rfl ?_
        exact T_X13_forestLine_165 hl X hr hex ih _ _ _ _ _  _ h
      · replace h := h.2 c157
        refine L_iload_n (pc := 160) X d_X13_forestLine_160 rfl 1 rfl ?_
        refine L_goto (pc := 161) (tgt := 165) X d_X13_forestLine_161 (by decide) ?_
        refine LW.sub [0, 1, 2, 3] rfl ?_
        exact T_X13_forestLine_165 hl X hr hex ih _ _ _ _ _  _ h
set_option maxHeartbeats 4000000 in
set_option maxRecDepth 100000 in
theorem T_X13_forestLine_43 {post : (Nat → Nat → Int32) → Prop} (hl : l.stackTraces = false) (X : MC p l s m args meth c cX13_forestLine 6 RX13 G ρ A) (hr : meth.sig.returnType = none) (hex : ∀ z ∈ c.exceptionTable.toList, False) : ∀ (mm : (Nat → Nat → Int32)), B_X13_forestLine_43 post mm → LW p l e rm_X13_forestLine s m args below meth c (Qm below G ρ A (PV (fun u => (cm, u, oo)) post) noX args s 0 0) G ρ A 6 0 0 43 [(0, .ref 703)] [] (cm, mm, oo) := by
  intro mm h
  unfold B_X13_forestLine_43 at h
  refine L_aload_n (pc := 43) X d_X13_forestLine_43 rfl 0 rfl ?_
  refine L_iconst (pc := 44) (v := 1) X d_X13_forestLine_44 (by decide) ?_
  refine L_bipush (pc := 45) (v := 20) X d_X13_forestLine_45 (by decide) ?_
  refine L_callVI (pc := 47) X lk_X13_93 (c_X13_figures X.hst  h) rfl rfl kd_703 (by decide) rfl rfl ⟨by decide, by decide⟩ ⟨by decide, by decide⟩ (Nat.zero_le _) d_X13_forestLine_47 rfl (fun x κ1 hx => L_nox hx) (fun r31 u32 h => ?_)
  refine L_istore_n (pc := 50) (lv2 := [(2, .int r31), (0, .ref 703)]) X d_X13_forestLine_50 rfl (by decide) rfl ?_
  refine L_aload_n (pc := 51) X d_X13_forestLine_51 rfl 1 rfl ?_
  refine L_iconst (pc := 52) (v := 0) X d_X13_forestLine_52 (by decide) ?_
  refine L_sipush (pc := 53) (v := 999) X d_X13_forestLine_53 (by decide) ?_
  refine L_callVI (pc := 56) X lk_X13_93 (c_X13_figures X.hst  h) rfl rfl kd_703 (by decide) rfl rfl ⟨by decide, by decide⟩ ⟨by decide, by decide⟩ (Nat.zero_le _) d_X13_forestLine_56 rfl (fun x κ1 hx => L_nox hx) (fun r33 u34 h => ?_)
  refine L_istore_n (pc := 59) (lv2 := [(3, .int r33), (2, .int r31), (0, .ref 703)]) X d_X13_forestLine_59 rfl (by decide) rfl ?_
  refine L_aload_n (pc := 60) X d_X13_forestLine_60 rfl 2 rfl ?_
  refine gf_X13_22 (pc := 61) X d_X13_forestLine_61 ?_
  refine L_iconst (pc := 64) (v := (-1)) X d_X13_forestLine_64 (by decide) ?_
  refine L_icmp_eq (pc := 65) (tgt := 69) X d_X13_forestLine_65 (by decide) (fun c65 => ?_) (fun c65 => ?_)
  · replace h := h.1 c65
    refine L_aload_n (pc := 69) X d_X13_forestLine_69 rfl 2 rfl ?_
    refine gf_X13_7 (pc := 70) X d_X13_forestLine_70 ?_
    refine L_iconst (pc := 73) (v := 1) X d_X13_forestLine_73 (by decide) ?_
    refine L_dup2 (pc := 74) X d_X13_forestLine_74 rfl rfl ?_
    refine L_ialdM (pc := 75) (a := 1) X d_X13_forestLine_75 kd_704 (by unfold vp_in; decide) ?_
    refine L_iconst (pc := 76) (v := 1) X d_X13_forestLine_76 (by decide) ?_
    refine L_iadd (pc := 77) X d_X13_forestLine_77 ?_
    refine L_iastM (pc := 78) (a := 1) X d_X13_forestLine_78 kd_704 (by unfold vp_in; decide) ?_
    refine L_aload_n (pc := 79) X d_X13_forestLine_79 rfl 2 rfl ?_
    refine gf_X13_7 (pc := 80) X d_X13_forestLine_80 ?_
    refine L_iconst (pc := 83) (v := 1) X d_X13_forestLine_83 (by decide) ?_
    refine L_ialdM (pc := 84) (a := 1) X d_X13_forestLine_84 kd_704 (by unfold vp_in; decide) ?_
    refine L_istore (pc := 85) (lv2 := [(4, .int ((up2 u34 1 (Int32.toNatClampNeg (1 : Int32)) ((u34 1 (Int32.toNatClampNeg (1 : Int32))) + 1)) 1 (Int32.toNatClampNeg (1 : Int32)))), (3, .int r33), (2, .int r31), (0, .ref 703)]) X d_X13_forestLine_85 (by decide) rfl ?_
    refine L_aload_n (pc := 87) X d_X13_forestLine_87 rfl 3 rfl ?_
    refine gf_X13_7 (pc := 88) X d_X13_forestLine_88 ?_
    refine L_bipush (pc := 91) (v := 10) X d_X13_forestLine_91 (by decide) ?_
    refine L_iconst (pc := 93) (v := 3) X d_X13_forestLine_93 (by decide) ?_
    refine L_iload (pc := 94) X d_X13_forestLine_94 0 rfl ?_
    refine L_imul (pc := 96) X d_X13_forestLine_96 ?_
    refine L_iadd (pc := 97) X d_X13_forestLine_97 ?_
    refine L_iconst (pc := 98) (v := 0) X d_X13_forestLine_98 (by decide) ?_
    refine L_iadd (pc := 99) X d_X13_forestLine_99 ?_
    refine L_iload_n (pc := 100) X d_X13_forestLine_100 rfl 2 rfl ?_
    obtain ⟨q35, h⟩ := h
    refine L_iastM (pc := 101) (a := 1) X d_X13_forestLine_101 kd_704 q35 ?_
    refine L_aload_n (pc := 102) X d_X13_forestLine_102 rfl 3 rfl ?_
    refine gf_X13_7 (pc := 103) X d_X13_forestLine_103 ?_
    refine L_bipush (pc := 106) (v := 10) X d_X13_forestLine_106 (by decide) ?_
    refine L_iconst (pc := 108) (v := 3) X d_X13_forestLine_108 (by decide) ?_
    refine L_iload (pc := 109) X d_X13_forestLine_109 0 rfl ?_
    refine L_imul (pc := 111) X d_X13_forestLine_111 ?_
    refine L_iadd (pc := 112) X d_X13_forestLine_112 ?_
    refine L_iconst (pc := 113) (v := 1) X d_X13_forestLine_113 (by decide) ?_
    refine L_iadd (pc := 114) X d_X13_forestLine_114 ?_
    refine L_iconst (pc := 115) (v := 0) X d_X13_forestLine_115 (by decide) ?_
    obtain ⟨q36, h⟩ := h
    refine L_iastM (pc := 116) (a := 1) X d_X13_forestLine_116 kd_704 q36 ?_
    refine L_aload_n (pc := 117) X d_X13_forestLine_117 rfl 3 rfl ?_
    refine gf_X13_7 (pc := 118) X d_X13_forestLine_118 ?_
    refine L_bipush (pc := 121) (v := 10) X d_X13_forestLine_121 (by decide) ?_
    refine L_iconst (pc := 123) (v := 3) X d_X13_forestLine_123 (by decide) ?_
    refine L_iload (pc := 124) X d_X13_forestLine_124 0 rfl ?_
    refine L_imul (pc := 126) X d_X13_forestLine_126 ?_
    refine L_iadd (pc := 127) X d_X13_forestLine_127 ?_
    refine L_iconst (pc := 128) (v := 2) X d_X13_forestLine_128 (by decide) ?_
    refine L_iadd (pc := 129) X d_X13_forestLine_129 ?_
    refine L_iconst (pc := 130) (v := 0) X d_X13_forestLine_130 (by decide) ?_
    obtain ⟨q37, h⟩ := h
    refine L_iastM (pc := 131) (a := 1) X d_X13_forestLine_131 kd_704 q37 ?_
    refine L_iconst (pc := 132) (v := 0) X d_X13_forestLine_132 (by decide) ?_
    refine L_istore (pc := 133) (lv2 := [(5, .int 0), (4, .int ((up2 u34 1 (Int32.toNatClampNeg (1 : Int32)) ((u34 1 (Int32.toNatClampNeg (1 : Int32))) + 1)) 1 (Int32.toNatClampNeg (1 : Int32)))), (3, .int r33), (2, .int r31), (0, .ref 703)]) X d_X13_forestLine_133 (by decide) rfl ?_
    obtain ⟨n135, h⟩ := h
    refine LW.sub [4, 2, 1, 0] rfl ?_
    exact T_X13_forestLine_135 hl X hr hex n135 _ _ _  _ h
  · replace h := h.2 c65
    exact L_vret (pc := 68) X hr d_X13_forestLine_68 (by decide) (by decide) ⟨_, rfl, rfl, h⟩
set_option maxHeartbeats 4000000 in
set_option maxRecDepth 100000 in
theorem T_X13_forestLine_38 {post : (Nat → Nat → Int32) → Prop} (hl : l.stackTraces = false) (X : MC p l s m args meth c cX13_forestLine 6 RX13 G ρ A) (hr : meth.sig.returnType = none) (hex : ∀ z ∈ c.exceptionTable.toList, False) : ∀ (v1 : Int32) (mm : (Nat → Nat → Int32)), B_X13_forestLine_38 post v1 mm → LW p l e rm_X13_forestLine s m args below meth c (Qm below G ρ A (PV (fun u => (cm, u, oo)) post) noX args s 0 0) G ρ A 6 0 0 38 [(0, .ref 703), (1, .int v1)] [] (cm, mm, oo) := by
  intro v1 mm h
  unfold B_X13_forestLine_38 at h
  refine L_aload_n (pc := 38) X d_X13_forestLine_38 rfl 0 rfl ?_
  refine L_iload_n (pc := 39) X d_X13_forestLine_39 rfl 1 rfl ?_
  refine L_callVV (pc := 40) X lk_X13_83 (c_X13_wrong X.hst  h) rfl rfl kd_703 (by decide) rfl rfl ⟨by decide, by decide⟩ ⟨by decide, by decide⟩ (Nat.zero_le _) d_X13_forestLine_40 rfl (fun x κ1 hx => L_nox hx) (fun u40 h => ?_)
  refine LW.sub [0] rfl ?_
  exact T_X13_forestLine_43 hl X hr hex   _ h
set_option maxHeartbeats 4000000 in
set_option maxRecDepth 100000 in
theorem c_X13_forestLine (hl : l.stackTraces = false) {mm : (Nat → Nat → Int32)} {post : (Nat → Nat → Int32) → Prop} (h : w_X13_forestLine post mm) : CT l yX13_forestLine (.code yX13_forestLine cX13_forestLine 6 none) rm_X13_forestLine 0 0 G ρ [.ref 703] (cm, mm, oo) (PV (fun u => (cm, u, oo)) post) noX := by
  refine CT_of hl (by decide +kernel) rfl (Nat.le_of_ble_eq_true rfl) (lv0 := [(0, .ref 703)]) rfl (fun p e s m args below meth c A X hr hex hnm => ?_)
  unfold w_X13_forestLine at h
  refine L_aload_n (pc := 0) X d_X13_forestLine_0 rfl 0 rfl ?_
  refine L_callVV (pc := 1) X lk_X13_70 (c_X13_skip X.hst  h) rfl rfl kd_703 (by decide) rfl rfl ⟨by decide, by decide⟩ ⟨by decide, by decide⟩ (Nat.zero_le _) d_X13_forestLine_1 rfl (fun x κ1 hx => L_nox hx) (fun u2 h => ?_)
  refine L_aload_n (pc := 4) X d_X13_forestLine_4 rfl 0 rfl ?_
  refine gf_X13_60 (pc := 5) X d_X13_forestLine_5 ?_
  refine L_istore_n (pc := 8) (lv2 := [(1, .int (u2 0 9)), (0, .ref 703)]) X d_X13_forestLine_8 rfl (by decide) rfl ?_
  refine L_aload_n (pc := 9) X d_X13_forestLine_9 rfl 1 rfl ?_
  refine L_ldcS (pc := 10) (i := 0) X (by decide) d_X13_forestLine_10 ?_
  refine L_callVZ (pc := 12) X lk_X13_89 (c_X13_has X.hst (by decide) h) rfl rfl kd_703 (by decide) rfl rfl ⟨by decide, by decide⟩ ⟨by decide, by decide⟩ (Nat.zero_le _) d_X13_forestLine_12 rfl (fun x κ1 hx => L_nox hx) (fun r3 u4 h => ?_)
  refine L_if_eq (pc := 15) (tgt := 175) X d_X13_forestLine_15 (by decide) (fun c15 => ?_) (fun c15 => ?_)
  · replace h := h.1 ((b2_0 _).mp c15)
    refine L_aload_n (pc := 175) X d_X13_forestLine_175 rfl 1 rfl ?_
    refine L_ldcS (pc := 176) (i := 1) X (by decide) d_X13_forestLine_176 ?_
    refine L_callVZ (pc := 178) X lk_X13_89 (c_X13_has X.hst (by decide) h) rfl rfl kd_703 (by decide) rfl rfl ⟨by decide, by decide⟩ ⟨by decide, by decide⟩ (Nat.zero_le _) d_X13_forestLine_178 rfl (fun x κ1 hx => L_nox hx) (fun r5 u6 h => ?_)
    refine L_if_eq (pc := 181) (tgt := 320) X d_X13_forestLine_181 (by decide) (fun c181 => ?_) (fun c181 => ?_)
    · replace h := h.1 ((b2_0 _).mp c181)
      refine L_aload_n (pc := 320) X d_X13_forestLine_320 rfl 1 rfl ?_
      refine L_ldcS (pc := 321) (i := 21) X (by decide) d_X13_forestLine_321 ?_
      refine L_callVZ (pc := 323) X lk_X13_89 (c_X13_has X.hst (by decide) h) rfl rfl kd_703 (by decide) rfl rfl ⟨by decide, by decide⟩ ⟨by decide, by decide⟩ (Nat.zero_le _) d_X13_forestLine_323 rfl (fun x κ1 hx => L_nox hx) (fun r7 u8 h => ?_)
      refine L_if_eq (pc := 326) (tgt := 345) X d_X13_forestLine_326 (by decide) (fun c326 => ?_) (fun c326 => ?_)
      · replace h := h.1 ((b2_0 _).mp c326)
        refine L_aload_n (pc := 345) X d_X13_forestLine_345 rfl 1 rfl ?_
        refine L_ldcS (pc := 346) (i := 14) X (by decide) d_X13_forestLine_346 ?_
        refine L_callVZ (pc := 348) X lk_X13_89 (c_X13_has X.hst (by decide) h) rfl rfl kd_703 (by decide) rfl rfl ⟨by decide, by decide⟩ ⟨by decide, by decide⟩ (Nat.zero_le _) d_X13_forestLine_348 rfl (fun x κ1 hx => L_nox hx) (fun r9 u10 h => ?_)
        refine L_if_eq (pc := 351) (tgt := 385) X d_X13_forestLine_351 (by decide) (fun c351 => ?_) (fun c351 => ?_)
        · replace h := h.1 ((b2_0 _).mp c351)
          refine L_aload_n (pc := 385) X d_X13_forestLine_385 rfl 1 rfl ?_
          refine L_ldcS (pc := 386) (i := 4) X (by decide) d_X13_forestLine_386 ?_
          refine L_callVZ (pc := 388) X lk_X13_89 (c_X13_has X.hst (by decide) h) rfl rfl kd_703 (by decide) rfl rfl ⟨by decide, by decide⟩ ⟨by decide, by decide⟩ (Nat.zero_le _) d_X13_forestLine_388 rfl (fun x κ1 hx => L_nox hx) (fun r11 u12 h => ?_)
          refine L_if_eq (pc := 391) (tgt := 412) X d_X13_forestLine_391 (by decide) (fun c391 => ?_) (fun c391 => ?_)
          · replace h := h.1 ((b2_0 _).mp c391)
            refine L_aload_n (pc := 412) X d_X13_forestLine_412 rfl 1 rfl ?_
            refine L_aload_n (pc := 413) X d_X13_forestLine_413 rfl 1 rfl ?_
            refine gf_X13_60 (pc := 414) X d_X13_forestLine_414 ?_
            refine L_callVV (pc := 417) X lk_X13_83 (c_X13_wrong X.hst  h) rfl rfl kd_703 (by decide) rfl rfl ⟨by decide, by decide⟩ ⟨by decide, by decide⟩ (Nat.zero_le _) d_X13_forestLine_417 rfl (fun x κ1 hx => L_nox hx) (fun u14 h => ?_)
            refine LW.sub [] rfl ?_
            exact T_X13_forestLine_420 hl X hr hex   _ h
          · replace h := h.2 (fun z => c391 ((b2_0 _).mpr z))
            refine L_aload_n (pc := 394) X d_X13_forestLine_394 rfl 1 rfl ?_
            refine gf_X13_7 (pc := 395) X d_X13_forestLine_395 ?_
            refine L_bipush (pc := 398) (v := 8) X d_X13_forestLine_398 (by decide) ?_
            refine L_aload_n (pc := 400) X d_X13_forestLine_400 rfl 1 rfl ?_
            refine L_iconst (pc := 401) (v := 0) X d_X13_forestLine_401 (by decide) ?_
            refine L_sipush (pc := 402) (v := 999) X d_X13_forestLine_402 (by decide) ?_
            refine L_callVI (pc := 405) X lk_X13_93 (c_X13_figures X.hst  h) rfl rfl kd_703 (by decide) rfl rfl ⟨by decide, by decide⟩ ⟨by decide, by decide⟩ (Nat.le_of_ble_eq_true rfl) d_X13_forestLine_405 rfl (fun x κ1 hx => L_nox hx) (fun r15 u16 h => ?_)
            refine L_iastM (pc := 408) (a := 1) X d_X13_forestLine_408 kd_704 (by unfold vp_in; decide) ?_
            refine L_goto (pc := 409) (tgt := 420) X d_X13_forestLine_409 (by decide) ?_
            refine LW.sub [] rfl ?_
            exact T_X13_forestLine_420 hl X hr hex   _ h
        · replace h := h.2 (fun z => c351 ((b2_0 _).mpr z))
          refine L_aload_n (pc := 354) X d_X13_forestLine_354 rfl 1 rfl ?_
          refine gf_X13_7 (pc := 355) X d_X13_forestLine_355 ?_
          refine L_bipush (pc := 358) (v := 6) X d_X13_forestLine_358 (by decide) ?_
          refine L_aload_n (pc := 360) X d_X13_forestLine_360 rfl 1 rfl ?_
          refine L_iconst (pc := 361) (v := 0) X d_X13_forestLine_361 (by decide) ?_
          refine L_bipush (pc := 362) (v := 23) X d_X13_forestLine_362 (by decide) ?_
          refine L_callVI (pc := 364) X lk_X13_93 (c_X13_figures X.hst  h) rfl rfl kd_703 (by decide) rfl rfl ⟨by decide, by decide⟩ ⟨by decide, by decide⟩ (Nat.le_of_ble_eq_true rfl) d_X13_forestLine_364 rfl (fun x κ1 hx => L_nox hx) (fun r17 u18 h => ?_)
          refine L_iastM (pc := 367) (a := 1) X d_X13_forestLine_367 kd_704 (by unfold vp_in; decide) ?_
          refine L_aload_n (pc := 368) X d_X13_forestLine_368 rfl 1 rfl ?_
          refine gf_X13_7 (pc := 369) X d_X13_forestLine_369 ?_
          refine L_bipush (pc := 372) (v := 7) X d_X13_forestLine_372 (by decide) ?_
          refine L_aload_n (pc := 374) X d_X13_forestLine_374 rfl 1 rfl ?_
          refine L_iconst (pc := 375) (v := 0) X d_X13_forestLine_375 (by decide) ?_
          refine L_bipush (pc := 376) (v := 23) X d_X13_forestLine_376 (by decide) ?_
          refine L_callVI (pc := 378) X lk_X13_93 (c_X13_figures X.hst  h) rfl rfl kd_703 (by decide) rfl rfl ⟨by decide, by decide⟩ ⟨by decide, by decide⟩ (Nat.le_of_ble_eq_true rfl) d_X13_forestLine_378 rfl (fun x κ1 hx => L_nox hx) (fun r19 u20 h => ?_)
          refine L_iastM (pc := 381) (a := 1) X d_X13_forestLine_381 kd_704 (by unfold vp_in; decide) ?_
          refine L_goto (pc := 382) (tgt := 420) X d_X13_forestLine_382 (by decide) ?_
          refine LW.sub [] rfl ?_
          exact T_X13_forestLine_420 hl X hr hex   _ h
      · replace h := h.2 (fun z => c326 ((b2_0 _).mpr z))
        refine L_aload_n (pc := 329) X d_X13_forestLine_329 rfl 1 rfl ?_
        refine gf_X13_7 (pc := 330) X d_X13_forestLine_330 ?_
        refine L_iconst (pc := 333) (v := 5) X d_X13_forestLine_333 (by decide) ?_
        refine L_aload_n (pc := 334) X d_X13_forestLine_334 rfl 1 rfl ?_
        refine L_iconst (pc := 335) (v := 1) X d_X13_forestLine_335 (by decide) ?_
        refine L_bipush (pc := 336) (v := 9) X d_X13_forestLine_336 (by decide) ?_
        refine L_callVI (pc := 338) X lk_X13_93 (c_X13_figures X.hst  h) rfl rfl kd_703 (by decide) rfl rfl ⟨by decide, by decide⟩ ⟨by decide, by decide⟩ (Nat.le_of_ble_eq_true rfl) d_X13_forestLine_338 rfl (fun x κ1 hx => L_nox hx) (fun r21 u22 h => ?_)
        refine L_iastM (pc := 341) (a := 1) X d_X13_forestLine_341 kd_704 (by unfold vp_in; decide) ?_
        refine L_goto (pc := 342) (tgt := 420) X d_X13_forestLine_342 (by decide) ?_
        refine LW.sub [] rfl ?_
        exact T_X13_forestLine_420 hl X hr hex   _ h
    · replace h := h.2 (fun z => c181 ((b2_0 _).mpr z))
      refine L_aload_n (pc := 184) X d_X13_forestLine_184 rfl 1 rfl ?_
      refine L_iconst (pc := 185) (v := 0) X d_X13_forestLine_185 (by decide) ?_
      refine L_aload_n (pc := 186) X d_X13_forestLine_186 rfl 1 rfl ?_
      refine gf_X13_7 (pc := 187) X d_X13_forestLine_187 ?_
      refine L_iconst (pc := 190) (v := 1) X d_X13_forestLine_190 (by decide) ?_
      refine L_ialdM (pc := 191) (a := 1) X d_X13_forestLine_191 kd_704 (by unfold vp_in; decide) ?_
      refine L_callVI (pc := 192) X lk_X13_93 (c_X13_figures X.hst  h) rfl rfl kd_703 (by decide) rfl rfl ⟨by decide, by decide⟩ ⟨by decide, by decide⟩ (Nat.zero_le _) d_X13_forestLine_192 rfl (fun x κ1 hx => L_nox hx) (fun r23 u24 h => ?_)
      refine L_istore_n (pc := 195) (lv2 := [(2, .int r23), (1, .int (u2 0 9)), (0, .ref 703)]) X d_X13_forestLine_195 rfl (by decide) rfl ?_
      refine L_aload_n (pc := 196) X d_X13_forestLine_196 rfl 2 rfl ?_
      refine L_iconst (pc := 197) (v := 1) X d_X13_forestLine_197 (by decide) ?_
      refine L_bipush (pc := 198) (v := 20) X d_X13_forestLine_198 (by decide) ?_
      refine L_callVI (pc := 200) X lk_X13_93 (c_X13_figures X.hst  h) rfl rfl kd_703 (by decide) rfl rfl ⟨by decide, by decide⟩ ⟨by decide, by decide⟩ (Nat.zero_le _) d_X13_forestLine_200 rfl (fun x κ1 hx => L_nox hx) (fun r25 u26 h => ?_)
      refine L_istore_n (pc := 203) (lv2 := [(3, .int r25), (2, .int r23), (1, .int (u2 0 9)), (0, .ref 703)]) X d_X13_forestLine_203 rfl (by decide) rfl ?_
      refine L_aload_n (pc := 204) X d_X13_forestLine_204 rfl 3 rfl ?_
      refine gf_X13_22 (pc := 205) X d_X13_forestLine_205 ?_
      refine L_iconst (pc := 208) (v := (-1)) X d_X13_forestLine_208 (by decide) ?_
      refine L_icmp_ne (pc := 209) (tgt := 231) X d_X13_forestLine_209 (by decide) (fun c209 => ?_) (fun c209 => ?_)
      · replace h := h.1 c209
        refine LW.sub [3, 1, 0] rfl ?_
        exact T_X13_forestLine_231 hl X hr hex _ _  _ h
      · replace h := h.2 c209
        refine L_aload_n (pc := 212) X d_X13_forestLine_212 rfl 3 rfl ?_
        refine L_ldcS (pc := 213) (i := 2) X (by decide) d_X13_forestLine_213 ?_
        refine L_callVZ (pc := 215) X lk_X13_89 (c_X13_has X.hst (by decide) h) rfl rfl kd_703 (by decide) rfl rfl ⟨by decide, by decide⟩ ⟨by decide, by decide⟩ (Nat.zero_le _) d_X13_forestLine_215 rfl (fun x κ1 hx => L_nox hx) (fun r27 u28 h => ?_)
        refine L_if_eq (pc := 218) (tgt := 231) X d_X13_forestLine_218 (by decide) (fun c218 => ?_) (fun c218 => ?_)
        · replace h := h.1 ((b2_0 _).mp c218)
          refine LW.sub [3, 1, 0] rfl ?_
          exact T_X13_forestLine_231 hl X hr hex _ _  _ h
        · replace h := h.2 (fun z => c218 ((b2_0 _).mpr z))
          refine L_aload_n (pc := 221) X d_X13_forestLine_221 rfl 3 rfl ?_
          refine L_iconst (pc := 222) (v := 0) X d_X13_forestLine_222 (by decide) ?_
          refine L_bipush (pc := 223) (v := 99) X d_X13_forestLine_223 (by decide) ?_
          refine L_callVI (pc := 225) X lk_X13_93 (c_X13_figures X.hst  h) rfl rfl kd_703 (by decide) rfl rfl ⟨by decide, by decide⟩ ⟨by decide, by decide⟩ (Nat.zero_le _) d_X13_forestLine_225 rfl (fun x κ1 hx => L_nox hx) (fun r29 u30 h => ?_)
          refine L_goto (pc := 228) (tgt := 232) X d_X13_forestLine_228 (by decide) ?_
          refine LW.sub [3, 1, 0] rfl ?_
          exact T_X13_forestLine_232 hl X hr hex _ _ _  _ h
  · replace h := h.2 (fun z => c15 ((b2_0 _).mpr z))
    refine L_aload_n (pc := 18) X d_X13_forestLine_18 rfl 1 rfl ?_
    refine gf_X13_7 (pc := 19) X d_X13_forestLine_19 ?_
    refine L_iconst (pc := 22) (v := 1) X d_X13_forestLine_22 (by decide) ?_
    refine L_ialdM (pc := 23) (a := 1) X d_X13_forestLine_23 kd_704 (by unfold vp_in; decide) ?_
    refine L_bipush (pc := 24) (v := 11) X d_X13_forestLine_24 (by decide) ?_
    refine L_icmp_eq (pc := 26) (tgt := 38) X d_X13_forestLine_26 (by decide) (fun c26 => ?_) (fun c26 => ?_)
    · replace h := h.1 c26
      refine LW.sub [1, 0] rfl ?_
      exact T_X13_forestLine_38 hl X hr hex _  _ h
    · replace h := h.2 c26
      refine L_aload_n (pc := 29) X d_X13_forestLine_29 rfl 1 rfl ?_
      refine gf_X13_7 (pc := 30) X d_X13_forestLine_30 ?_
      refine L_iconst (pc := 33) (v := 2) X d_X13_forestLine_33 (by decide) ?_
      refine L_ialdM (pc := 34) (a := 1) X d_X13_forestLine_34 kd_704 (by unfold vp_in; decide) ?_
      refine L_if_le (pc := 35) (tgt := 43) X d_X13_forestLine_35 (by decide) (fun c35 => ?_) (fun c35 => ?_)
      · replace h := h.1 c35
        refine LW.sub [1] rfl ?_
        exact T_X13_forestLine_43 hl X hr hex   _ h
      · replace h := h.2 c35
        refine LW.sub [1, 0] rfl ?_
        exact T_X13_forestLine_38 hl X hr hex _  _ h
end G_X13_forestLine
theorem yk_X13_begins : yX13_begins.cls = RX13 ∧ yX13_begins.cls ≠ "java/lang/invoke/MethodHandle" ∧ yX13_begins.cls ≠ "java/lang/invoke/VarHandle" ∧ (parseMethodDescriptor yX13_begins.desc).map (fun d => d.parameters.length) = some 0 := by decide +kernel
theorem lk_X13_112 : LinkV RX13 112 RX13 yX13_begins (.code yX13_begins cX13_begins 1 none) 0 := ⟨tw_1333, tw_1335, tw_34, tw_83, tw_1336, yk_X13_begins⟩
theorem yk_X13_forestLine : yX13_forestLine.cls = RX13 ∧ yX13_forestLine.cls ≠ "java/lang/invoke/MethodHandle" ∧ yX13_forestLine.cls ≠ "java/lang/invoke/VarHandle" ∧ (parseMethodDescriptor yX13_forestLine.desc).map (fun d => d.parameters.length) = some 0 := by decide +kernel
theorem lk_X13_115 : LinkV RX13 115 RX13 yX13_forestLine (.code yX13_forestLine cX13_forestLine 6 none) 0 := ⟨tw_1349, tw_1351, tw_38, tw_83, tw_1352, yk_X13_forestLine⟩
theorem yk_X13_isSign : yX13_isSign.cls = RX13 ∧ yX13_isSign.cls ≠ "java/lang/invoke/MethodHandle" ∧ yX13_isSign.cls ≠ "java/lang/invoke/VarHandle" ∧ (parseMethodDescriptor yX13_isSign.desc).map (fun d => d.parameters.length) = some 1 := by decide +kernel
theorem lk_X13_118 : LinkV RX13 118 RX13 yX13_isSign (.code yX13_isSign cX13_isSign 2 (some .boolean)) 1 := ⟨tw_1370, tw_1372, tw_41, tw_83, tw_1373, yk_X13_isSign⟩
theorem d_X13_forest_0 : decode cX13_forest 0 = .ok (.iconst 0, 1) := by decide +kernel
theorem d_X13_forest_1 : decode cX13_forest 1 = .ok (.istore_n 1, 1) := by decide +kernel
theorem d_X13_forest_2 : decode cX13_forest 2 = .ok (.iload_n 1, 1) := by decide +kernel
theorem d_X13_forest_3 : decode cX13_forest 3 = .ok (.sipush 1530, 3) := by decide +kernel
theorem d_X13_forest_6 : decode cX13_forest 6 = .ok (.if_icmp .ge 21, 3) := by decide +kernel
theorem d_X13_forest_9 : decode cX13_forest 9 = .ok (.aload_n 0, 1) := by decide +kernel
theorem d_X13_forest_10 : decode cX13_forest 10 = .ok (.getfield 16, 3) := by decide +kernel
theorem d_X13_forest_13 : decode cX13_forest 13 = .ok (.iload_n 1, 1) := by decide +kernel
theorem d_X13_forest_14 : decode cX13_forest 14 = .ok (.aload_n 0, 1) := by decide +kernel
theorem d_X13_forest_15 : decode cX13_forest 15 = .ok (.getfield 7, 3) := by decide +kernel
theorem d_X13_forest_18 : decode cX13_forest 18 = .ok (.iload_n 1, 1) := by decide +kernel
theorem d_X13_forest_19 : decode cX13_forest 19 = .ok (.iaload, 1) := by decide +kernel
theorem d_X13_forest_20 : decode cX13_forest 20 = .ok (.iastore, 1) := by decide +kernel
theorem d_X13_forest_21 : decode cX13_forest 21 = .ok (.iinc 1 1, 3) := by decide +kernel
theorem d_X13_forest_24 : decode cX13_forest 24 = .ok (.goto (-22), 3) := by decide +kernel
theorem d_X13_forest_27 : decode cX13_forest 27 = .ok (.aload_n 0, 1) := by decide +kernel
theorem d_X13_forest_28 : decode cX13_forest 28 = .ok (.invokevirtual 112, 3) := by decide +kernel
theorem d_X13_forest_31 : decode cX13_forest 31 = .ok (.aload_n 0, 1) := by decide +kernel
theorem d_X13_forest_32 : decode cX13_forest 32 = .ok (.invokevirtual 70, 3) := by decide +kernel
theorem d_X13_forest_35 : decode cX13_forest 35 = .ok (.aload_n 0, 1) := by decide +kernel
theorem d_X13_forest_36 : decode cX13_forest 36 = .ok (.getfield 60, 3) := by decide +kernel
theorem d_X13_forest_39 : decode cX13_forest 39 = .ok (.aload_n 0, 1) := by decide +kernel
theorem d_X13_forest_40 : decode cX13_forest 40 = .ok (.getfield 63, 3) := by decide +kernel
theorem d_X13_forest_43 : decode cX13_forest 43 = .ok (.if_icmp .ge 7, 3) := by decide +kernel
theorem d_X13_forest_46 : decode cX13_forest 46 = .ok (.iconst 1, 1) := by decide +kernel
theorem d_X13_forest_47 : decode cX13_forest 47 = .ok (.goto 4, 3) := by decide +kernel
theorem d_X13_forest_50 : decode cX13_forest 50 = .ok (.iconst 0, 1) := by decide +kernel
theorem d_X13_forest_51 : decode cX13_forest 51 = .ok (.istore_n 1, 1) := by decide +kernel
theorem d_X13_forest_52 : decode cX13_forest 52 = .ok (.iconst 0, 1) := by decide +kernel
theorem d_X13_forest_53 : decode cX13_forest 53 = .ok (.istore_n 2, 1) := by decide +kernel
theorem d_X13_forest_54 : decode cX13_forest 54 = .ok (.iload_n 1, 1) := by decide +kernel
theorem d_X13_forest_55 : decode cX13_forest 55 = .ok (.ifCond .eq 100, 3) := by decide +kernel
theorem d_X13_forest_58 : decode cX13_forest 58 = .ok (.aload_n 0, 1) := by decide +kernel
theorem d_X13_forest_59 : decode cX13_forest 59 = .ok (.getfield 22, 3) := by decide +kernel
theorem d_X13_forest_62 : decode cX13_forest 62 = .ok (.iconst (-1), 1) := by decide +kernel
theorem d_X13_forest_63 : decode cX13_forest 63 = .ok (.if_icmp .ne 92, 3) := by decide +kernel
theorem d_X13_forest_66 : decode cX13_forest 66 = .ok (.aload_n 0, 1) := by decide +kernel
theorem d_X13_forest_67 : decode cX13_forest 67 = .ok (.invokevirtual 70, 3) := by decide +kernel
theorem d_X13_forest_70 : decode cX13_forest 70 = .ok (.iload_n 2, 1) := by decide +kernel
theorem d_X13_forest_71 : decode cX13_forest 71 = .ok (.bipush 14, 2) := by decide +kernel
theorem d_X13_forest_73 : decode cX13_forest 73 = .ok (.if_icmp .ne 14, 3) := by decide +kernel
theorem d_X13_forest_76 : decode cX13_forest 76 = .ok (.aload_n 0, 1) := by decide +kernel
theorem d_X13_forest_77 : decode cX13_forest 77 = .ok (.aload_n 0, 1) := by decide +kernel
theorem d_X13_forest_78 : decode cX13_forest 78 = .ok (.getfield 60, 3) := by decide +kernel
theorem d_X13_forest_81 : decode cX13_forest 81 = .ok (.invokevirtual 83, 3) := by decide +kernel
theorem d_X13_forest_84 : decode cX13_forest 84 = .ok (.goto 7, 3) := by decide +kernel
theorem d_X13_forest_87 : decode cX13_forest 87 = .ok (.aload_n 0, 1) := by decide +kernel
theorem d_X13_forest_88 : decode cX13_forest 88 = .ok (.invokevirtual 115, 3) := by decide +kernel
theorem d_X13_forest_91 : decode cX13_forest 91 = .ok (.iinc 2 1, 3) := by decide +kernel
theorem d_X13_forest_94 : decode cX13_forest 94 = .ok (.aload_n 0, 1) := by decide +kernel
theorem d_X13_forest_95 : decode cX13_forest 95 = .ok (.invokevirtual 70, 3) := by decide +kernel
theorem d_X13_forest_98 : decode cX13_forest 98 = .ok (.aload_n 0, 1) := by decide +kernel
theorem d_X13_forest_99 : decode cX13_forest 99 = .ok (.getfield 22, 3) := by decide +kernel
theorem d_X13_forest_102 : decode cX13_forest 102 = .ok (.iconst (-1), 1) := by decide +kernel
theorem d_X13_forest_103 : decode cX13_forest 103 = .ok (.if_icmp .ne 14, 3) := by decide +kernel
theorem d_X13_forest_106 : decode cX13_forest 106 = .ok (.aload_n 0, 1) := by decide +kernel
theorem d_X13_forest_107 : decode cX13_forest 107 = .ok (.getfield 60, 3) := by decide +kernel
theorem d_X13_forest_110 : decode cX13_forest 110 = .ok (.aload_n 0, 1) := by decide +kernel
theorem d_X13_forest_111 : decode cX13_forest 111 = .ok (.getfield 63, 3) := by decide +kernel
theorem d_X13_forest_114 : decode cX13_forest 114 = .ok (.if_icmp .ne 8, 3) := by decide +kernel
theorem d_X13_forest_117 : decode cX13_forest 117 = .ok (.iconst 0, 1) := by decide +kernel
theorem d_X13_forest_118 : decode cX13_forest 118 = .ok (.istore_n 1, 1) := by decide +kernel
theorem d_X13_forest_119 : decode cX13_forest 119 = .ok (.goto (-65), 3) := by decide +kernel
theorem d_X13_forest_122 : decode cX13_forest 122 = .ok (.aload_n 0, 1) := by decide +kernel
theorem d_X13_forest_123 : decode cX13_forest 123 = .ok (.bipush 59, 2) := by decide +kernel
theorem d_X13_forest_125 : decode cX13_forest 125 = .ok (.invokevirtual 118, 3) := by decide +kernel
theorem d_X13_forest_128 : decode cX13_forest 128 = .ok (.ifCond .eq 16, 3) := by decide +kernel
theorem d_X13_forest_131 : decode cX13_forest 131 = .ok (.aload_n 0, 1) := by decide +kernel
theorem d_X13_forest_132 : decode cX13_forest 132 = .ok (.dup, 1) := by decide +kernel
theorem d_X13_forest_133 : decode cX13_forest 133 = .ok (.getfield 60, 3) := by decide +kernel
theorem d_X13_forest_136 : decode cX13_forest 136 = .ok (.iconst 1, 1) := by decide +kernel
theorem d_X13_forest_137 : decode cX13_forest 137 = .ok (.iadd, 1) := by decide +kernel
theorem d_X13_forest_138 : decode cX13_forest 138 = .ok (.putfield 60, 3) := by decide +kernel
theorem d_X13_forest_141 : decode cX13_forest 141 = .ok (.goto (-87), 3) := by decide +kernel
theorem d_X13_forest_144 : decode cX13_forest 144 = .ok (.aload_n 0, 1) := by decide +kernel
theorem d_X13_forest_145 : decode cX13_forest 145 = .ok (.aload_n 0, 1) := by decide +kernel
theorem d_X13_forest_146 : decode cX13_forest 146 = .ok (.getfield 60, 3) := by decide +kernel
theorem d_X13_forest_149 : decode cX13_forest 149 = .ok (.invokevirtual 83, 3) := by decide +kernel
theorem d_X13_forest_152 : decode cX13_forest 152 = .ok (.goto (-98), 3) := by decide +kernel
theorem d_X13_forest_155 : decode cX13_forest 155 = .ok (.aload_n 0, 1) := by decide +kernel
theorem d_X13_forest_156 : decode cX13_forest 156 = .ok (.aload_n 0, 1) := by decide +kernel
theorem d_X13_forest_157 : decode cX13_forest 157 = .ok (.getfield 22, 3) := by decide +kernel
theorem d_X13_forest_160 : decode cX13_forest 160 = .ok (.iconst (-1), 1) := by decide +kernel
theorem d_X13_forest_161 : decode cX13_forest 161 = .ok (.if_icmp .eq 7, 3) := by decide +kernel
theorem d_X13_forest_164 : decode cX13_forest 164 = .ok (.iconst 1, 1) := by decide +kernel
theorem d_X13_forest_165 : decode cX13_forest 165 = .ok (.goto 19, 3) := by decide +kernel
theorem d_X13_forest_168 : decode cX13_forest 168 = .ok (.aload_n 0, 1) := by decide +kernel
theorem d_X13_forest_169 : decode cX13_forest 169 = .ok (.getfield 7, 3) := by decide +kernel
theorem d_X13_forest_172 : decode cX13_forest 172 = .ok (.iconst 0, 1) := by decide +kernel
theorem d_X13_forest_173 : decode cX13_forest 173 = .ok (.iaload, 1) := by decide +kernel
theorem d_X13_forest_174 : decode cX13_forest 174 = .ok (.bipush 10, 2) := by decide +kernel
theorem d_X13_forest_176 : decode cX13_forest 176 = .ok (.if_icmp .ne 7, 3) := by decide +kernel
theorem d_X13_forest_179 : decode cX13_forest 179 = .ok (.iconst 2, 1) := by decide +kernel
theorem d_X13_forest_180 : decode cX13_forest 180 = .ok (.goto 4, 3) := by decide +kernel
theorem d_X13_forest_183 : decode cX13_forest 183 = .ok (.iconst 0, 1) := by decide +kernel
theorem d_X13_forest_184 : decode cX13_forest 184 = .ok (.putfield 47, 3) := by decide +kernel
theorem d_X13_forest_187 : decode cX13_forest 187 = .ok (.aload_n 0, 1) := by decide +kernel
theorem d_X13_forest_188 : decode cX13_forest 188 = .ok (.getfield 47, 3) := by decide +kernel
theorem d_X13_forest_191 : decode cX13_forest 191 = .ok (.ifCond .le 32, 3) := by decide +kernel
theorem d_X13_forest_194 : decode cX13_forest 194 = .ok (.iconst 0, 1) := by decide +kernel
theorem d_X13_forest_195 : decode cX13_forest 195 = .ok (.istore_n 3, 1) := by decide +kernel
theorem d_X13_forest_196 : decode cX13_forest 196 = .ok (.iload_n 3, 1) := by decide +kernel
theorem d_X13_forest_197 : decode cX13_forest 197 = .ok (.sipush 1530, 3) := by decide +kernel
theorem d_X13_forest_200 : decode cX13_forest 200 = .ok (.if_icmp .ge 21, 3) := by decide +kernel
theorem d_X13_forest_203 : decode cX13_forest 203 = .ok (.aload_n 0, 1) := by decide +kernel
theorem d_X13_forest_204 : decode cX13_forest 204 = .ok (.getfield 7, 3) := by decide +kernel
theorem d_X13_forest_207 : decode cX13_forest 207 = .ok (.iload_n 3, 1) := by decide +kernel
theorem d_X13_forest_208 : decode cX13_forest 208 = .ok (.aload_n 0, 1) := by decide +kernel
theorem d_X13_forest_209 : decode cX13_forest 209 = .ok (.getfield 16, 3) := by decide +kernel
theorem d_X13_forest_212 : decode cX13_forest 212 = .ok (.iload_n 3, 1) := by decide +kernel
theorem d_X13_forest_213 : decode cX13_forest 213 = .ok (.iaload, 1) := by decide +kernel
theorem d_X13_forest_214 : decode cX13_forest 214 = .ok (.iastore, 1) := by decide +kernel
theorem d_X13_forest_215 : decode cX13_forest 215 = .ok (.iinc 3 1, 3) := by decide +kernel
theorem d_X13_forest_218 : decode cX13_forest 218 = .ok (.goto (-22), 3) := by decide +kernel
theorem d_X13_forest_221 : decode cX13_forest 221 = .ok (.iconst 0, 1) := by decide +kernel
theorem d_X13_forest_222 : decode cX13_forest 222 = .ok (.ireturn, 1) := by decide +kernel
theorem d_X13_forest_223 : decode cX13_forest 223 = .ok (.aload_n 0, 1) := by decide +kernel
theorem d_X13_forest_224 : decode cX13_forest 224 = .ok (.getfield 7, 3) := by decide +kernel
theorem d_X13_forest_227 : decode cX13_forest 227 = .ok (.iconst 0, 1) := by decide +kernel
theorem d_X13_forest_228 : decode cX13_forest 228 = .ok (.dup2, 1) := by decide +kernel
theorem d_X13_forest_229 : decode cX13_forest 229 = .ok (.iaload, 1) := by decide +kernel
theorem d_X13_forest_230 : decode cX13_forest 230 = .ok (.iconst 1, 1) := by decide +kernel
theorem d_X13_forest_231 : decode cX13_forest 231 = .ok (.iadd, 1) := by decide +kernel
theorem d_X13_forest_232 : decode cX13_forest 232 = .ok (.iastore, 1) := by decide +kernel
theorem d_X13_forest_233 : decode cX13_forest 233 = .ok (.aload_n 0, 1) := by decide +kernel
theorem d_X13_forest_234 : decode cX13_forest 234 = .ok (.getfield 7, 3) := by decide +kernel
theorem d_X13_forest_237 : decode cX13_forest 237 = .ok (.iconst 0, 1) := by decide +kernel
theorem d_X13_forest_238 : decode cX13_forest 238 = .ok (.iaload, 1) := by decide +kernel
theorem d_X13_forest_239 : decode cX13_forest 239 = .ok (.ireturn, 1) := by decide +kernel
abbrev rm_X13_forest : Room := { frames := 6, cells := 0, slots := 0, locals := 133 }
def B_X13_forest_196 (post : Int32 → (Nat → Nat → Int32) → Prop) : Nat → Int32 → (Nat → Nat → Int32) → Prop
  | 0 => fun _ _ => False
  | n + 1 => fun v3 mm => (1530 ≤ v3 → (post 0 mm)) ∧ (¬ 1530 ≤ v3 → ((vp_in v3 1530) ∧ (vp_in v3 25530) ∧ B_X13_forest_196 post n (v3 + 1) (up2 mm 1 (Int32.toNatClampNeg v3) (mm 3 (Int32.toNatClampNeg v3)))))
def B_X13_forest_184 (post : Int32 → (Nat → Nat → Int32) → Prop) (s0 : Int32) (mm : (Nat → Nat → Int32)) : Prop := (((up2 mm 0 0 s0) 0 0) ≤ 0 → (post ((up2 (up2 mm 0 0 s0) 1 (Int32.toNatClampNeg (0 : Int32)) (((up2 mm 0 0 s0) 1 (Int32.toNatClampNeg (0 : Int32))) + 1)) 1 (Int32.toNatClampNeg (0 : Int32))) (up2 (up2 mm 0 0 s0) 1 (Int32.toNatClampNeg (0 : Int32)) (((up2 mm 0 0 s0) 1 (Int32.toNatClampNeg (0 : Int32))) + 1)))) ∧ (¬ ((up2 mm 0 0 s0) 0 0) ≤ 0 → (∃ n196, B_X13_forest_196 post n196 0 (up2 mm 0 0 s0)))
def B_X13_forest_155 (post : Int32 → (Nat → Nat → Int32) → Prop) (mm : (Nat → Nat → Int32)) : Prop := ((mm 0 10) = (-1) → ((¬ (mm 1 (Int32.toNatClampNeg (0 : Int32))) = 10 → (B_X13_forest_184 post 0 mm)) ∧ ((mm 1 (Int32.toNatClampNeg (0 : Int32))) = 10 → (B_X13_forest_184 post 2 mm)))) ∧ (¬ (mm 0 10) = (-1) → (B_X13_forest_184 post 1 mm))
def B_X13_forest_117 (post : Int32 → (Nat → Nat → Int32) → Prop) (k54 : Bool → Int32 → (Nat → Nat → Int32) → Prop) (v2 : Int32) (mm : (Nat → Nat → Int32)) : Prop := k54 false v2 mm
def B_X13_forest_91 (post : Int32 → (Nat → Nat → Int32) → Prop) (k54 : Bool → Int32 → (Nat → Nat → Int32) → Prop) (v1 : Bool) (v2 : Int32) (mm : (Nat → Nat → Int32)) : Prop := w_X13_skip (fun (u14 : (Nat → Nat → Int32)) => (¬ (u14 0 10) = (-1) → (B_X13_forest_117 post k54 (v2 + 1) u14)) ∧ ((u14 0 10) = (-1) → ((¬ (u14 0 9) = (u14 0 8) → (w_X13_isSign (fun (r15 : Bool) (u16 : (Nat → Nat → Int32)) => ((r15 = false) → (w_X13_wrong (fun (u18 : (Nat → Nat → Int32)) => k54 v1 (v2 + 1) u18) (u16 0 9) u16)) ∧ (¬ (r15 = false) → (k54 v1 (v2 + 1) (up2 u16 0 9 ((u16 0 9) + 1))))) 59 u14)) ∧ ((u14 0 9) = (u14 0 8) → (B_X13_forest_117 post k54 (v2 + 1) u14)))))  mm
def B_X13_forest_54 (post : Int32 → (Nat → Nat → Int32) → Prop) : Nat → Bool → Int32 → (Nat → Nat → Int32) → Prop
  | 0 => fun _ _ _ => False
  | n + 1 => fun v1 v2 mm => ((v1 = false) → (B_X13_forest_155 post mm)) ∧ (¬ (v1 = false) → ((¬ (mm 0 10) = (-1) → (B_X13_forest_155 post mm)) ∧ ((mm 0 10) = (-1) → (w_X13_skip (fun (u8 : (Nat → Nat → Int32)) => (¬ v2 = 14 → (w_X13_forestLine (fun (u10 : (Nat → Nat → Int32)) => B_X13_forest_91 post (B_X13_forest_54 post n) v1 v2 u10)  u8)) ∧ (v2 = 14 → (w_X13_wrong (fun (u12 : (Nat → Nat → Int32)) => B_X13_forest_91 post (B_X13_forest_54 post n) v1 v2 u12) (u8 0 9) u8)))  mm))))
def B_X13_forest_51 (post : Int32 → (Nat → Nat → Int32) → Prop) (s0 : Bool) (mm : (Nat → Nat → Int32)) : Prop := ∃ n54, B_X13_forest_54 post n54 s0 0 mm
def B_X13_forest_2 (post : Int32 → (Nat → Nat → Int32) → Prop) : Nat → Int32 → (Nat → Nat → Int32) → Prop
  | 0 => fun _ _ => False
  | n + 1 => fun v1 mm => (1530 ≤ v1 → (w_X13_begins (fun (u2 : (Nat → Nat → Int32)) => w_X13_skip (fun (u4 : (Nat → Nat → Int32)) => ((u4 0 8) ≤ (u4 0 9) → (B_X13_forest_51 post false u4)) ∧ (¬ (u4 0 8) ≤ (u4 0 9) → (B_X13_forest_51 post true u4)))  u2)  mm)) ∧ (¬ 1530 ≤ v1 → ((vp_in v1 25530) ∧ (vp_in v1 1530) ∧ B_X13_forest_2 post n (v1 + 1) (up2 mm 3 (Int32.toNatClampNeg v1) (mm 1 (Int32.toNatClampNeg v1)))))
def w_X13_forest (post : Int32 → (Nat → Nat → Int32) → Prop) (mm : (Nat → Nat → Int32)) : Prop := ∃ n2, B_X13_forest_2 post n2 0 mm
section G_X13_forest
variable {p : Program} {l : Launch} {e : Env} {s : State} {m : MethodId} {args : Array Value} {below : List Frame} {meth : Method} {c : Code} {G : Gd} {ρ : Nat → Nat} {A : Nat → Prop} {cm : CMu} {oo : Nat → Int64}
set_option maxHeartbeats 4000000 in
set_option maxRecDepth 100000 in
theorem T_X13_forest_196 {post : Int32 → (Nat → Nat → Int32) → Prop} (hl : l.stackTraces = false) (X : MC p l s m args meth c cX13_forest 4 RX13 G ρ A) (hr : meth.sig.returnType = (some .int)) (hex : ∀ z ∈ c.exceptionTable.toList, False) (n : Nat) : ∀ (v3 : Int32) (mm : (Nat → Nat → Int32)), B_X13_forest_196 post n v3 mm → LW p l e rm_X13_forest s m args below meth c (Qm below G ρ A (PI (fun u => (cm, u, oo)) post) noX args s 0 0) G ρ A 4 0 0 196 [(0, .ref 703), (3, .int v3)] [] (cm, mm, oo) := by
  induction n with
  | zero =>
    intro v3 mm h
    exact False.elim h
  | succ n ih =>
    intro v3 mm h
    unfold B_X13_forest_196 at h
    refine L_iload_n (pc := 196) X d_X13_forest_196 rfl 1 rfl ?_
    refine L_sipush (pc := 197) (v := 1530) X d_X13_forest_197 (by decide) ?_
    refine L_icmp_ge (pc := 200) (tgt := 221) X d_X13_forest_200 (by decide) (fun c200 => ?_) (fun c200 => ?_)
    · replace h := h.1 c200
      refine L_iconst (pc := 221) (v := 0) X d_X13_forest_221 (by decide) ?_
      exact L_iret (pc := 222) X hr d_X13_forest_222 (by decide) (by decide) ⟨_, _, rfl, rfl, h⟩
    · replace h := h.2 c200
      refine L_aload_n (pc := 203) X d_X13_forest_203 rfl 0 rfl ?_
      refine gf_X13_7 (pc := 204) X d_X13_forest_204 ?_
      refine L_iload_n (pc := 207) X d_X13_forest_207 rfl 1 rfl ?_
      refine L_aload_n (pc := 208) X d_X13_forest_208 rfl 0 rfl ?_
      refine gf_X13_16 (pc := 209) X d_X13_forest_209 ?_
      refine L_iload_n (pc := 212) X d_X13_forest_212 rfl 1 rfl ?_
      obtain ⟨q19, h⟩ := h
      refine L_ialdM (pc := 213) (a := 3) X d_X13_forest_213 kd_706 q19 ?_
      obtain ⟨q20, h⟩ := h
      refine L_iastM (pc := 214) (a := 1) X d_X13_forest_214 kd_704 q20 ?_
      refine L_iinc (pc := 215) (v := v3 + 1) (lv2 := [(3, .int (v3 + 1)), (0, .ref 703)]) X d_X13_forest_215 1 rfl rfl (by decide) rfl ?_
      refine L_goto (pc := 218) (tgt := 196) X d_X13_forest_218 (by decide) ?_
      refine LW.sub [1, 0] rfl ?_
      exact ih _  _ h
set_option maxHeartbeats 4000000 in
set_option maxRecDepth 100000 in
theorem T_X13_forest_184 {post : Int32 → (Nat → Nat → Int32) → Prop} (hl : l.stackTraces = false) (X : MC p l s m args meth c cX13_forest 4 RX13 G ρ A) (hr : meth.sig.returnType = (some .int)) (hex : ∀ z ∈ c.exceptionTable.toList, False) : ∀ (s0 : Int32) (mm : (Nat → Nat → Int32)), B_X13_forest_184 post s0 mm → LW p l e rm_X13_forest s m args below meth c (Qm below G ρ A (PI (fun u => (cm, u, oo)) post) noX args s 0 0) G ρ A 4 0 0 184 [(0, .ref 703)] [.int s0, .ref 703] (cm, mm, oo) := by
  intro s0 mm h
  unfold B_X13_forest_184 at h
  refine pf_X13_47 (pc := 184) X d_X13_forest_184 ?_
  refine L_aload_n (pc := 187) X d_X13_forest_187 rfl 0 rfl ?_
  refine gf_X13_47 (pc := 188) X d_X13_forest_188 ?_
  refine L_if_le (pc := 191) (tgt := 223) X d_X13_forest_191 (by decide) (fun c191 => ?_) (fun c191 => ?_)
  · replace h := h.1 c191
    refine L_aload_n (pc := 223) X d_X13_forest_223 rfl 0 rfl ?_
    refine gf_X13_7 (pc := 224) X d_X13_forest_224 ?_
    refine L_iconst (pc := 227) (v := 0) X d_X13_forest_227 (by decide) ?_
    refine L_dup2 (pc := 228) X d_X13_forest_228 rfl rfl ?_
    refine L_ialdM (pc := 229) (a := 1) X d_X13_forest_229 kd_704 (by unfold vp_in; decide) ?_
    refine L_iconst (pc := 230) (v := 1) X d_X13_forest_230 (by decide) ?_
    refine L_iadd (pc := 231) X d_X13_forest_231 ?_
    refine L_iastM (pc := 232) (a := 1) X d_X13_forest_232 kd_704 (by unfold vp_in; decide) ?_
    refine L_aload_n (pc := 233) X d_X13_forest_233 rfl 0 rfl ?_
    refine gf_X13_7 (pc := 234) X d_X13_forest_234 ?_
    refine L_iconst (pc := 237) (v := 0) X d_X13_forest_237 (by decide) ?_
    refine L_ialdM (pc := 238) (a := 1) X d_X13_forest_238 kd_704 (by unfold vp_in; decide) ?_
    exact L_iret (pc := 239) X hr d_X13_forest_239 (by decide) (by decide) ⟨_, _, rfl, rfl, h⟩
  · replace h := h.2 c191
    refine L_iconst (pc := 194) (v := 0) X d_X13_forest_194 (by decide) ?_
    refine L_istore_n (pc := 195) (lv2 := [(3, .int 0), (0, .ref 703)]) X d_X13_forest_195 rfl (by decide) rfl ?_
    obtain ⟨n196, h⟩ := h
    refine LW.sub [1, 0] rfl ?_
    exact T_X13_forest_196 hl X hr hex n196 _  _ h
set_option maxHeartbeats 4000000 in
set_option maxRecDepth 100000 in
theorem T_X13_forest_155 {post : Int32 → (Nat → Nat → Int32) → Prop} (hl : l.stackTraces = false) (X : MC p l s m args meth c cX13_forest 4 RX13 G ρ A) (hr : meth.sig.returnType = (some .int)) (hex : ∀ z ∈ c.exceptionTable.toList, False) : ∀ (mm : (Nat → Nat → Int32)), B_X13_forest_155 post mm → LW p l e rm_X13_forest s m args below meth c (Qm below G ρ A (PI (fun u => (cm, u, oo)) post) noX args s 0 0) G ρ A 4 0 0 155 [(0, .ref 703)] [] (cm, mm, oo) := by
  intro mm h
  unfold B_X13_forest_155 at h
  refine L_aload_n (pc := 155) X d_X13_forest_155 rfl 0 rfl ?_
  refine L_aload_n (pc := 156) X d_X13_forest_156 rfl 0 rfl ?_
  refine gf_X13_22 (pc := 157) X d_X13_forest_157 ?_
  refine L_iconst (pc := 160) (v := (-1)) X d_X13_forest_160 (by decide) ?_
  refine L_icmp_eq (pc := 161) (tgt := 168) X d_X13_forest_161 (by decide) (fun c161 => ?_) (fun c161 => ?_)
  · replace h := h.1 c161
    refine L_aload_n (pc := 168) X d_X13_forest_168 rfl 0 rfl ?_
    refine gf_X13_7 (pc := 169) X d_X13_forest_169 ?_
    refine L_iconst (pc := 172) (v := 0) X d_X13_forest_172 (by decide) ?_
    refine L_ialdM (pc := 173) (a := 1) X d_X13_forest_173 kd_704 (by unfold vp_in; decide) ?_
    refine L_bipush (pc := 174) (v := 10) X d_X13_forest_174 (by decide) ?_
    refine L_icmp_ne (pc := 176) (tgt := 183) X d_X13_forest_176 (by decide) (fun c176 => ?_) (fun c176 => ?_)
    · replace h := h.1 c176
      refine L_iconst (pc := 183) (v := 0) X d_X13_forest_183 (by decide) ?_
      refine LW.sub [0] rfl ?_
      exact T_X13_forest_184 hl X hr hex _  _ h
    · replace h := h.2 c176
      refine L_iconst (pc := 179) (v := 2) X d_X13_forest_179 (by decide) ?_
      refine L_goto (pc := 180) (tgt := 184) X d_X13_forest_180 (by decide) ?_
      refine LW.sub [0] rfl ?_
      exact T_X13_forest_184 hl X hr hex _  _ h
  · replace h := h.2 c161
    refine L_iconst (pc := 164) (v := 1) X d_X13_forest_164 (by decide) ?_
    refine L_goto (pc := 165) (tgt := 184) X d_X13_forest_165 (by decide) ?_
    refine LW.sub [0] rfl ?_
    exact T_X13_forest_184 hl X hr hex _  _ h
set_option maxHeartbeats 4000000 in
set_option maxRecDepth 100000 in
theorem T_X13_forest_117 {post : Int32 → (Nat → Nat → Int32) → Prop} {k54 : Bool → Int32 → (Nat → Nat → Int32) → Prop} (hl : l.stackTraces = false) (X : MC p l s m args meth c cX13_forest 4 RX13 G ρ A) (hr : meth.sig.returnType = (some .int)) (hex : ∀ z ∈ c.exceptionTable.toList, False)
    (hk54 : ∀ (v1 : Bool) (v2 : Int32) (mm : (Nat → Nat → Int32)), k54 v1 v2 mm → LW p l e rm_X13_forest s m args below meth c (Qm below G ρ A (PI (fun u => (cm, u, oo)) post) noX args s 0 0) G ρ A 4 0 0 54 [(0, .ref 703), (1, .int (b2 v1)), (2, .int v2)] [] (cm, mm, oo)) : ∀ (v2 : Int32) (mm : (Nat → Nat → Int32)), B_X13_forest_117 post k54 v2 mm → LW p l e rm_X13_forest s m args below meth c (Qm below G ρ A (PI (fun u => (cm, u, oo)) post) noX args s 0 0) G ρ A 4 0 0 117 [(0, .ref 703), (2, .int v2)] [] (cm, mm, oo) := by
  intro v2 mm h
  unfold B_X13_forest_117 at h
  refine L_iconst (pc := 117) (v := 0) X d_X13_forest_117 (by decide) ?_
  refine L_istore_n (pc := 118) (lv2 := [(1, .int 0), (0, .ref 703), (2, .int v2)]) X d_X13_forest_118 rfl (by decide) rfl ?_
  refine L_goto (pc := 119) (tgt := 54) X d_X13_forest_119 (by decide) ?_
  refine LW.sub [1, 0, 2] rfl ?_
  exact hk54 _ _  _ h
set_option maxHeartbeats 4000000 in
set_option maxRecDepth 100000 in
theorem T_X13_forest_91 {post : Int32 → (Nat → Nat → Int32) → Prop} {k54 : Bool → Int32 → (Nat → Nat → Int32) → Prop} (hl : l.stackTraces = false) (X : MC p l s m args meth c cX13_forest 4 RX13 G ρ A) (hr : meth.sig.returnType = (some .int)) (hex : ∀ z ∈ c.exceptionTable.toList, False)
    (hk54 : ∀ (v1 : Bool) (v2 : Int32) (mm : (Nat → Nat → Int32)), k54 v1 v2 mm → LW p l e rm_X13_forest s m args below meth c (Qm below G ρ A (PI (fun u => (cm, u, oo)) post) noX args s 0 0) G ρ A 4 0 0 54 [(0, .ref 703), (1, .int (b2 v1)), (2, .int v2)] [] (cm, mm, oo)) : ∀ (v1 : Bool) (v2 : Int32) (mm : (Nat → Nat → Int32)), B_X13_forest_91 post k54 v1 v2 mm → LW p l e rm_X13_forest s m args below meth c (Qm below G ρ A (PI (fun u => (cm, u, oo)) post) noX args s 0 0) G ρ A 4 0 0 91 [(0, .ref 703), (1, .int (b2 v1)), (2, .int v2)] [] (cm, mm, oo) := by
  intro v1 v2 mm h
  unfold B_X13_forest_91 at h
  refine L_iinc (pc := 91) (v := v2 + 1) (lv2 := [(2, .int (v2 + 1)), (0, .ref 703), (1, .int (b2 v1))]) X d_X13_forest_91 2 rfl rfl (by decide) rfl ?_
  refine L_aload_n (pc := 94) X d_X13_forest_94 rfl 1 rfl ?_
  refine L_callVV (pc := 95) X lk_X13_70 (c_X13_skip X.hst  h) rfl rfl kd_703 (by decide) rfl rfl ⟨by decide, by decide⟩ ⟨by decide, by decide⟩ (Nat.zero_le _) d_X13_forest_95 rfl (fun x κ1 hx => L_nox hx) (fun u14 h => ?_)
  refine L_aload_n (pc := 98) X d_X13_forest_98 rfl 1 rfl ?_
  refine gf_X13_22 (pc := 99) X d_X13_forest_99 ?_
  refine L_iconst (pc := 102) (v := (-1)) X d_X13_forest_102 (by decide) ?_
  refine L_icmp_ne (pc := 103) (tgt := 117) X d_X13_forest_103 (by decide) (fun c103 => ?_) (fun c103 => ?_)
  · replace h := h.1 c103
    refine LW.sub [1, 0] rfl ?_
    exact T_X13_forest_117 hl X hr hex hk54 _  _ h
  · replace h := h.2 c103
    refine L_aload_n (pc := 106) X d_X13_forest_106 rfl 1 rfl ?_
    refine gf_X13_60 (pc := 107) X d_X13_forest_107 ?_
    refine L_aload_n (pc := 110) X d_X13_forest_110 rfl 1 rfl ?_
    refine gf_X13_63 (pc := 111) X d_X13_forest_111 ?_
    refine L_icmp_ne (pc := 114) (tgt := 122) X d_X13_forest_114 (by decide) (fun c114 => ?_) (fun c114 => ?_)
    · replace h := h.1 c114
      refine L_aload_n (pc := 122) X d_X13_forest_122 rfl 1 rfl ?_
      refine L_bipush (pc := 123) (v := 59) X d_X13_forest_123 (by decide) ?_
      refine L_callVZ (pc := 125) X lk_X13_118 (c_X13_isSign X.hst  h) rfl rfl kd_703 (by decide) rfl rfl ⟨by decide, by decide⟩ ⟨by decide, by decide⟩ (Nat.zero_le _) d_X13_forest_125 rfl (fun x κ1 hx => L_nox hx) (fun r15 u16 h => ?_)
      refine L_if_eq (pc := 128) (tgt := 144) X d_X13_forest_128 (by decide) (fun c128 => ?_) (fun c128 => ?_)
      · replace h := h.1 ((b2_0 _).mp c128)
        refine L_aload_n (pc := 144) X d_X13_forest_144 rfl 1 rfl ?_
        refine L_aload_n (pc := 145) X d_X13_forest_145 rfl 1 rfl ?_
        refine gf_X13_60 (pc := 146) X d_X13_forest_146 ?_
        refine L_callVV (pc := 149) X lk_X13_83 (c_X13_wrong X.hst  h) rfl rfl kd_703 (by decide) rfl rfl ⟨by decide, by decide⟩ ⟨by decide, by decide⟩ (Nat.zero_le _) d_X13_forest_149 rfl (fun x κ1 hx => L_nox hx) (fun u18 h => ?_)
        refine L_goto (pc := 152) (tgt := 54) X d_X13_forest_152 (by decide) ?_
        refine LW.sub [1, 2, 0] rfl ?_
        exact hk54 _ _  _ h
      · replace h := h.2 (fun z => c128 ((b2_0 _).mpr z))
        refine L_aload_n (pc := 131) X d_X13_forest_131 rfl 1 rfl ?_
        refine L_dup (pc := 132) X d_X13_forest_132 rfl ?_
        refine gf_X13_60 (pc := 133) X d_X13_forest_133 ?_
        refine L_iconst (pc := 136) (v := 1) X d_X13_forest_136 (by decide) ?_
        refine L_iadd (pc := 137) X d_X13_forest_137 ?_
        refine pf_X13_60 (pc := 138) X d_X13_forest_138 ?_
        refine L_goto (pc := 141) (tgt := 54) X d_X13_forest_141 (by decide) ?_
        refine LW.sub [1, 2, 0] rfl ?_
        exact hk54 _ _  _ h
    · replace h := h.2 c114
      refine LW.sub [1, 0] rfl ?_
      exact T_X13_forest_117 hl X hr hex hk54 _  _ h
set_option maxHeartbeats 4000000 in
set_option maxRecDepth 100000 in
theorem T_X13_forest_54 {post : Int32 → (Nat → Nat → Int32) → Prop} (hl : l.stackTraces = false) (X : MC p l s m args meth c cX13_forest 4 RX13 G ρ A) (hr : meth.sig.returnType = (some .int)) (hex : ∀ z ∈ c.exceptionTable.toList, False) (n : Nat) : ∀ (v1 : Bool) (v2 : Int32) (mm : (Nat → Nat → Int32)), B_X13_forest_54 post n v1 v2 mm → LW p l e rm_X13_forest s m args below meth c (Qm below G ρ A (PI (fun u => (cm, u, oo)) post) noX args s 0 0) G ρ A 4 0 0 54 [(0, .ref 703), (1, .int (b2 v1)), (2, .int v2)] [] (cm, mm, oo) := by
  induction n with
  | zero =>
    intro v1 v2 mm h
    exact False.elim h
  | succ n ih =>
    intro v1 v2 mm h
    unfold B_X13_forest_54 at h
    refine L_iload_n (pc := 54) X d_X13_forest_54 rfl 1 rfl ?_
    refine L_if_eq (pc := 55) (tgt := 155) X d_X13_forest_55 (by decide) (fun c55 => ?_) (fun c55 => ?_)
    · replace h := h.1 ((b2_0 _).mp c55)
      refine LW.sub [0] rfl ?_
      exact T_X13_forest_155 hl X hr hex   _ h
    · replace h := h.2 (fun z => c55 ((b2_0 _).mpr z))
      refine L_aload_n (pc := 58) X d_X13_forest_58 rfl 0 rfl ?_
      refine gf_X13_22 (pc := 59) X d_X13_forest_59 ?_
      refine L_iconst (pc := 62) (v := (-1)) X d_X13_forest_62 (by decide) ?_
      refine L_icmp_ne (pc := 63) (tgt := 155) X d_X13_forest_63 (by decide) (fun c63 => ?_) (fun c63 => ?_)
      · replace h := h.1 c63
        refine LW.sub [0] rfl ?_
        exact T_X13_forest_155 hl X hr hex   _ h
      · replace h := h.2 c63
        refine L_aload_n (pc := 66) X d_X13_forest_66 rfl 0 rfl ?_
        refine L_callVV (pc := 67) X lk_X13_70 (c_X13_skip X.hst  h) rfl rfl kd_703 (by decide) rfl rfl ⟨by decide, by decide⟩ ⟨by decide, by decide⟩ (Nat.zero_le _) d_X13_forest_67 rfl (fun x κ1 hx => L_nox hx) (fun u8 h => ?_)
        refine L_iload_n (pc := 70) X d_X13_forest_70 rfl 2 rfl ?_
        refine L_bipush (pc := 71) (v := 14) X d_X13_forest_71 (by decide) ?_
        refine L_icmp_ne (pc := 73) (tgt := 87) X d_X13_forest_73 (by decide) (fun c73 => ?_) (fun c73 => ?_)
        · replace h := h.1 c73
          refine L_aload_n (pc := 87) X d_X13_forest_87 rfl 0 rfl ?_
          refine L_callVV (pc := 88) X lk_X13_115 (c_X13_forestLine X.hst  h) rfl rfl kd_703 (by decide) rfl rfl ⟨by decide, by decide⟩ ⟨by decide, by decide⟩ (Nat.zero_le _) d_X13_forest_88 rfl (fun x κ1 hx => L_nox hx) (fun u10 h => ?_)
          refine LW.sub [0, 1, 2] rfl ?_
          exact T_X13_forest_91 hl X hr hex ih _ _  _ h
        · replace h := h.2 c73
          refine L_aload_n (pc := 76) X d_X13_forest_76 rfl 0 rfl ?_
          refine L_aload_n (pc := 77) X d_X13_forest_77 rfl 0 rfl ?_
          refine gf_X13_60 (pc := 78) X d_X13_forest_78 ?_
          refine L_callVV (pc := 81) X lk_X13_83 (c_X13_wrong X.hst  h) rfl rfl kd_703 (by decide) rfl rfl ⟨by decide, by decide⟩ ⟨by decide, by decide⟩ (Nat.zero_le _) d_X13_forest_81 rfl (fun x κ1 hx => L_nox hx) (fun u12 h => ?_)
          refine L_goto (pc := 84) (tgt := 91) X d_X13_forest_84 (by decide) ?_
          refine LW.sub [0, 1, 2] rfl ?_
          exact T_X13_forest_91 hl X hr hex ih _ _  _ h
set_option maxHeartbeats 4000000 in
set_option maxRecDepth 100000 in
theorem T_X13_forest_51 {post : Int32 → (Nat → Nat → Int32) → Prop} (hl : l.stackTraces = false) (X : MC p l s m args meth c cX13_forest 4 RX13 G ρ A) (hr : meth.sig.returnType = (some .int)) (hex : ∀ z ∈ c.exceptionTable.toList, False) : ∀ (s0 : Bool) (mm : (Nat → Nat → Int32)), B_X13_forest_51 post s0 mm → LW p l e rm_X13_forest s m args below meth c (Qm below G ρ A (PI (fun u => (cm, u, oo)) post) noX args s 0 0) G ρ A 4 0 0 51 [(0, .ref 703)] [.int (b2 s0)] (cm, mm, oo) := by
  intro s0 mm h
  unfold B_X13_forest_51 at h
  refine L_istore_n (pc := 51) (lv2 := [(1, .int (b2 s0)), (0, .ref 703)]) X d_X13_forest_51 rfl (by decide) rfl ?_
  refine L_iconst (pc := 52) (v := 0) X d_X13_forest_52 (by decide) ?_
  refine L_istore_n (pc := 53) (lv2 := [(2, .int 0), (1, .int (b2 s0)), (0, .ref 703)]) X d_X13_forest_53 rfl (by decide) rfl ?_
  obtain ⟨n54, h⟩ := h
  refine LW.sub [2, 1, 0] rfl ?_
  exact T_X13_forest_54 hl X hr hex n54 _ _  _ h
set_option maxHeartbeats 4000000 in
set_option maxRecDepth 100000 in
theorem T_X13_forest_2 {post : Int32 → (Nat → Nat → Int32) → Prop} (hl : l.stackTraces = false) (X : MC p l s m args meth c cX13_forest 4 RX13 G ρ A) (hr : meth.sig.returnType = (some .int)) (hex : ∀ z ∈ c.exceptionTable.toList, False) (n : Nat) : ∀ (v1 : Int32) (mm : (Nat → Nat → Int32)), B_X13_forest_2 post n v1 mm → LW p l e rm_X13_forest s m args below meth c (Qm below G ρ A (PI (fun u => (cm, u, oo)) post) noX args s 0 0) G ρ A 4 0 0 2 [(0, .ref 703), (1, .int v1)] [] (cm, mm, oo) := by
  induction n with
  | zero =>
    intro v1 mm h
    exact False.elim h
  | succ n ih =>
    intro v1 mm h
    unfold B_X13_forest_2 at h
    refine L_iload_n (pc := 2) X d_X13_forest_2 rfl 1 rfl ?_
    refine L_sipush (pc := 3) (v := 1530) X d_X13_forest_3 (by decide) ?_
    refine L_icmp_ge (pc := 6) (tgt := 27) X d_X13_forest_6 (by decide) (fun c6 => ?_) (fun c6 => ?_)
    · replace h := h.1 c6
      refine L_aload_n (pc := 27) X d_X13_forest_27 rfl 0 rfl ?_
      refine L_callVV (pc := 28) X lk_X13_112 (c_X13_begins X.hst  h) rfl rfl kd_703 (by decide) rfl rfl ⟨by decide, by decide⟩ ⟨by decide, by decide⟩ (Nat.zero_le _) d_X13_forest_28 rfl (fun x κ1 hx => L_nox hx) (fun u2 h => ?_)
      refine L_aload_n (pc := 31) X d_X13_forest_31 rfl 0 rfl ?_
      refine L_callVV (pc := 32) X lk_X13_70 (c_X13_skip X.hst  h) rfl rfl kd_703 (by decide) rfl rfl ⟨by decide, by decide⟩ ⟨by decide, by decide⟩ (Nat.zero_le _) d_X13_forest_32 rfl (fun x κ1 hx => L_nox hx) (fun u4 h => ?_)
      refine L_aload_n (pc := 35) X d_X13_forest_35 rfl 0 rfl ?_
      refine gf_X13_60 (pc := 36) X d_X13_forest_36 ?_
      refine L_aload_n (pc := 39) X d_X13_forest_39 rfl 0 rfl ?_
      refine gf_X13_63 (pc := 40) X d_X13_forest_40 ?_
      refine L_icmp_ge (pc := 43) (tgt := 50) X d_X13_forest_43 (by decide) (fun c43 => ?_) (fun c43 => ?_)
      · replace h := h.1 c43
        refine L_iconst (pc := 50) (v := 0) X d_X13_forest_50 (by decide) ?_
        refine LW.sub [0] rfl ?_
        exact T_X13_forest_51 hl X hr hex _  _ h
      · replace h := h.2 c43
        refine L_iconst (pc := 46) (v := 1) X d_X13_forest_46 (by decide) ?_
        refine L_goto (pc := 47) (tgt := 51) X d_X13_forest_47 (by decide) ?_
        refine LW.sub [0] rfl ?_
        exact T_X13_forest_51 hl X hr hex _  _ h
    · replace h := h.2 c6
      refine L_aload_n (pc := 9) X d_X13_forest_9 rfl 0 rfl ?_
      refine gf_X13_16 (pc := 10) X d_X13_forest_10 ?_
      refine L_iload_n (pc := 13) X d_X13_forest_13 rfl 1 rfl ?_
      refine L_aload_n (pc := 14) X d_X13_forest_14 rfl 0 rfl ?_
      refine gf_X13_7 (pc := 15) X d_X13_forest_15 ?_
      refine L_iload_n (pc := 18) X d_X13_forest_18 rfl 1 rfl ?_
      obtain ⟨q5, h⟩ := h
      refine L_ialdM (pc := 19) (a := 1) X d_X13_forest_19 kd_704 q5 ?_
      obtain ⟨q6, h⟩ := h
      refine L_iastM (pc := 20) (a := 3) X d_X13_forest_20 kd_706 q6 ?_
      refine L_iinc (pc := 21) (v := v1 + 1) (lv2 := [(1, .int (v1 + 1)), (0, .ref 703)]) X d_X13_forest_21 1 rfl rfl (by decide) rfl ?_
      refine L_goto (pc := 24) (tgt := 2) X d_X13_forest_24 (by decide) ?_
      refine LW.sub [1, 0] rfl ?_
      exact ih _  _ h
set_option maxHeartbeats 4000000 in
set_option maxRecDepth 100000 in
theorem c_X13_forest (hl : l.stackTraces = false) {mm : (Nat → Nat → Int32)} {post : Int32 → (Nat → Nat → Int32) → Prop} (h : w_X13_forest post mm) : CT l yX13_forest (.code yX13_forest cX13_forest 4 (some .int)) rm_X13_forest 0 0 G ρ [.ref 703] (cm, mm, oo) (PI (fun u => (cm, u, oo)) post) noX := by
  refine CT_of hl (by decide +kernel) rfl (Nat.le_of_ble_eq_true rfl) (lv0 := [(0, .ref 703)]) rfl (fun p e s m args below meth c A X hr hex hnm => ?_)
  unfold w_X13_forest at h
  refine L_iconst (pc := 0) (v := 0) X d_X13_forest_0 (by decide) ?_
  refine L_istore_n (pc := 1) (lv2 := [(1, .int 0), (0, .ref 703)]) X d_X13_forest_1 rfl (by decide) rfl ?_
  obtain ⟨n2, h⟩ := h
  refine LW.sub [1, 0] rfl ?_
  exact T_X13_forest_2 hl X hr hex n2 _  _ h
end G_X13_forest
theorem d_X13_asks_0 : decode cX13_asks 0 = .ok (.aload_n 0, 1) := by decide +kernel
theorem d_X13_asks_1 : decode cX13_asks 1 = .ok (.getfield 122, 3) := by decide +kernel
theorem d_X13_asks_4 : decode cX13_asks 4 = .ok (.ifCond .ne 4, 3) := by decide +kernel
theorem d_X13_asks_7 : decode cX13_asks 7 = .ok (.return_, 1) := by decide +kernel
theorem d_X13_asks_8 : decode cX13_asks 8 = .ok (.iconst 0, 1) := by decide +kernel
theorem d_X13_asks_9 : decode cX13_asks 9 = .ok (.istore_n 1, 1) := by decide +kernel
theorem d_X13_asks_10 : decode cX13_asks 10 = .ok (.iload_n 1, 1) := by decide +kernel
theorem d_X13_asks_11 : decode cX13_asks 11 = .ok (.iconst 3, 1) := by decide +kernel
theorem d_X13_asks_12 : decode cX13_asks 12 = .ok (.if_icmp .ge 31, 3) := by decide +kernel
theorem d_X13_asks_15 : decode cX13_asks 15 = .ok (.aload_n 0, 1) := by decide +kernel
theorem d_X13_asks_16 : decode cX13_asks 16 = .ok (.getfield 26, 3) := by decide +kernel
theorem d_X13_asks_19 : decode cX13_asks 19 = .ok (.iload_n 1, 1) := by decide +kernel
theorem d_X13_asks_20 : decode cX13_asks 20 = .ok (.aload_n 0, 1) := by decide +kernel
theorem d_X13_asks_21 : decode cX13_asks 21 = .ok (.getfield 7, 3) := by decide +kernel
theorem d_X13_asks_24 : decode cX13_asks 24 = .ok (.bipush 46, 2) := by decide +kernel
theorem d_X13_asks_26 : decode cX13_asks 26 = .ok (.iconst 4, 1) := by decide +kernel
theorem d_X13_asks_27 : decode cX13_asks 27 = .ok (.aload_n 0, 1) := by decide +kernel
theorem d_X13_asks_28 : decode cX13_asks 28 = .ok (.getfield 126, 3) := by decide +kernel
theorem d_X13_asks_31 : decode cX13_asks 31 = .ok (.imul, 1) := by decide +kernel
theorem d_X13_asks_32 : decode cX13_asks 32 = .ok (.iadd, 1) := by decide +kernel
theorem d_X13_asks_33 : decode cX13_asks 33 = .ok (.iload_n 1, 1) := by decide +kernel
theorem d_X13_asks_34 : decode cX13_asks 34 = .ok (.iadd, 1) := by decide +kernel
theorem d_X13_asks_35 : decode cX13_asks 35 = .ok (.iaload, 1) := by decide +kernel
theorem d_X13_asks_36 : decode cX13_asks 36 = .ok (.iastore, 1) := by decide +kernel
theorem d_X13_asks_37 : decode cX13_asks 37 = .ok (.iinc 1 1, 3) := by decide +kernel
theorem d_X13_asks_40 : decode cX13_asks 40 = .ok (.goto (-30), 3) := by decide +kernel
theorem d_X13_asks_43 : decode cX13_asks 43 = .ok (.aload_n 0, 1) := by decide +kernel
theorem d_X13_asks_44 : decode cX13_asks 44 = .ok (.getfield 26, 3) := by decide +kernel
theorem d_X13_asks_47 : decode cX13_asks 47 = .ok (.iconst 3, 1) := by decide +kernel
theorem d_X13_asks_48 : decode cX13_asks 48 = .ok (.aload_n 0, 1) := by decide +kernel
theorem d_X13_asks_49 : decode cX13_asks 49 = .ok (.getfield 7, 3) := by decide +kernel
theorem d_X13_asks_52 : decode cX13_asks 52 = .ok (.iconst 5, 1) := by decide +kernel
theorem d_X13_asks_53 : decode cX13_asks 53 = .ok (.iaload, 1) := by decide +kernel
theorem d_X13_asks_54 : decode cX13_asks 54 = .ok (.iastore, 1) := by decide +kernel
theorem d_X13_asks_55 : decode cX13_asks 55 = .ok (.aload_n 0, 1) := by decide +kernel
theorem d_X13_asks_56 : decode cX13_asks 56 = .ok (.getfield 26, 3) := by decide +kernel
theorem d_X13_asks_59 : decode cX13_asks 59 = .ok (.iconst 4, 1) := by decide +kernel
theorem d_X13_asks_60 : decode cX13_asks 60 = .ok (.aload_n 0, 1) := by decide +kernel
theorem d_X13_asks_61 : decode cX13_asks 61 = .ok (.getfield 7, 3) := by decide +kernel
theorem d_X13_asks_64 : decode cX13_asks 64 = .ok (.iconst 4, 1) := by decide +kernel
theorem d_X13_asks_65 : decode cX13_asks 65 = .ok (.iaload, 1) := by decide +kernel
theorem d_X13_asks_66 : decode cX13_asks 66 = .ok (.bipush 60, 2) := by decide +kernel
theorem d_X13_asks_68 : decode cX13_asks 68 = .ok (.idiv, 1) := by decide +kernel
theorem d_X13_asks_69 : decode cX13_asks 69 = .ok (.bipush 24, 2) := by decide +kernel
theorem d_X13_asks_71 : decode cX13_asks 71 = .ok (.irem, 1) := by decide +kernel
theorem d_X13_asks_72 : decode cX13_asks 72 = .ok (.iastore, 1) := by decide +kernel
theorem d_X13_asks_73 : decode cX13_asks 73 = .ok (.aload_n 0, 1) := by decide +kernel
theorem d_X13_asks_74 : decode cX13_asks 74 = .ok (.getfield 26, 3) := by decide +kernel
theorem d_X13_asks_77 : decode cX13_asks 77 = .ok (.iconst 5, 1) := by decide +kernel
theorem d_X13_asks_78 : decode cX13_asks 78 = .ok (.aload_n 0, 1) := by decide +kernel
theorem d_X13_asks_79 : decode cX13_asks 79 = .ok (.aload_n 0, 1) := by decide +kernel
theorem d_X13_asks_80 : decode cX13_asks 80 = .ok (.getfield 129, 3) := by decide +kernel
theorem d_X13_asks_83 : decode cX13_asks 83 = .ok (.iconst 3, 1) := by decide +kernel
theorem d_X13_asks_84 : decode cX13_asks 84 = .ok (.invokevirtual 132, 3) := by decide +kernel
theorem d_X13_asks_87 : decode cX13_asks 87 = .ok (.iastore, 1) := by decide +kernel
theorem d_X13_asks_88 : decode cX13_asks 88 = .ok (.return_, 1) := by decide +kernel
abbrev rm_X13_asks : Room := { frames := 1, cells := 0, slots := 0, locals := 22 }
def B_X13_asks_10 (post : (Nat → Nat → Int32) → Prop) : Nat → Int32 → (Nat → Nat → Int32) → Prop
  | 0 => fun _ _ => False
  | n + 1 => fun v1 mm => (3 ≤ v1 → (w_X13_chipOf (fun (r1 : Int32) (u2 : (Nat → Nat → Int32)) => post (up2 u2 5 (Int32.toNatClampNeg (5 : Int32)) r1)) ((up2 (up2 mm 5 (Int32.toNatClampNeg (3 : Int32)) (mm 1 (Int32.toNatClampNeg (5 : Int32)))) 5 (Int32.toNatClampNeg (4 : Int32)) ((((up2 mm 5 (Int32.toNatClampNeg (3 : Int32)) (mm 1 (Int32.toNatClampNeg (5 : Int32)))) 1 (Int32.toNatClampNeg (4 : Int32))) / 60) - (((up2 mm 5 (Int32.toNatClampNeg (3 : Int32)) (mm 1 (Int32.toNatClampNeg (5 : Int32)))) 1 (Int32.toNatClampNeg (4 : Int32))) / 60) / 24 * 24)) 0 14) 3 (up2 (up2 mm 5 (Int32.toNatClampNeg (3 : Int32)) (mm 1 (Int32.toNatClampNeg (5 : Int32)))) 5 (Int32.toNatClampNeg (4 : Int32)) ((((up2 mm 5 (Int32.toNatClampNeg (3 : Int32)) (mm 1 (Int32.toNatClampNeg (5 : Int32)))) 1 (Int32.toNatClampNeg (4 : Int32))) / 60) - (((up2 mm 5 (Int32.toNatClampNeg (3 : Int32)) (mm 1 (Int32.toNatClampNeg (5 : Int32)))) 1 (Int32.toNatClampNeg (4 : Int32))) / 60) / 24 * 24)))) ∧ (¬ 3 ≤ v1 → ((vp_in ((46 + (4 * (mm 0 15))) + v1) 25530) ∧ (vp_in v1 6) ∧ B_X13_asks_10 post n (v1 + 1) (up2 mm 5 (Int32.toNatClampNeg v1) (mm 1 (Int32.toNatClampNeg ((46 + (4 * (mm 0 15))) + v1))))))
def w_X13_asks (post : (Nat → Nat → Int32) → Prop) (mm : (Nat → Nat → Int32)) : Prop := (¬ (mm 0 13) = 0 → (∃ n10, B_X13_asks_10 post n10 0 mm)) ∧ ((mm 0 13) = 0 → (post mm))
section G_X13_asks
variable {p : Program} {l : Launch} {e : Env} {s : State} {m : MethodId} {args : Array Value} {below : List Frame} {meth : Method} {c : Code} {G : Gd} {ρ : Nat → Nat} {A : Nat → Prop} {cm : CMu} {oo : Nat → Int64}
set_option maxHeartbeats 4000000 in
set_option maxRecDepth 100000 in
theorem T_X13_asks_10 {post : (Nat → Nat → Int32) → Prop} (hl : l.stackTraces = false) (X : MC p l s m args meth c cX13_asks 2 RX13 G ρ A) (hr : meth.sig.returnType = none) (hex : ∀ z ∈ c.exceptionTable.toList, False) (n : Nat) : ∀ (v1 : Int32) (mm : (Nat → Nat → Int32)), B_X13_asks_10 post n v1 mm → LW p l e rm_X13_asks s m args below meth c (Qm below G ρ A (PV (fun u => (cm, u, oo)) post) noX args s 0 0) G ρ A 2 0 0 10 [(0, .ref 703), (1, .int v1)] [] (cm, mm, oo) := by
  induction n with
  | zero =>
    intro v1 mm h
    exact False.elim h
  | succ n ih =>
    intro v1 mm h
    unfold B_X13_asks_10 at h
    refine L_iload_n (pc := 10) X d_X13_asks_10 rfl 1 rfl ?_
    refine L_iconst (pc := 11) (v := 3) X d_X13_asks_11 (by decide) ?_
    refine L_icmp_ge (pc := 12) (tgt := 43) X d_X13_asks_12 (by decide) (fun c12 => ?_) (fun c12 => ?_)
    · replace h := h.1 c12
      refine L_aload_n (pc := 43) X d_X13_asks_43 rfl 0 rfl ?_
      refine gf_X13_26 (pc := 44) X d_X13_asks_44 ?_
      refine L_iconst (pc := 47) (v := 3) X d_X13_asks_47 (by decide) ?_
      refine L_aload_n (pc := 48) X d_X13_asks_48 rfl 0 rfl ?_
      refine gf_X13_7 (pc := 49) X d_X13_asks_49 ?_
      refine L_iconst (pc := 52) (v := 5) X d_X13_asks_52 (by decide) ?_
      refine L_ialdM (pc := 53) (a := 1) X d_X13_asks_53 kd_704 (by unfold vp_in; decide) ?_
      refine L_iastM (pc := 54) (a := 5) X d_X13_asks_54 kd_708 (by unfold vp_in; decide) ?_
      refine L_aload_n (pc := 55) X d_X13_asks_55 rfl 0 rfl ?_
      refine gf_X13_26 (pc := 56) X d_X13_asks_56 ?_
      refine L_iconst (pc := 59) (v := 4) X d_X13_asks_59 (by decide) ?_
      refine L_aload_n (pc := 60) X d_X13_asks_60 rfl 0 rfl ?_
      refine gf_X13_7 (pc := 61) X d_X13_asks_61 ?_
      refine L_iconst (pc := 64) (v := 4) X d_X13_asks_64 (by decide) ?_
      refine L_ialdM (pc := 65) (a := 1) X d_X13_asks_65 kd_704 (by unfold vp_in; decide) ?_
      refine L_bipush (pc := 66) (v := 60) X d_X13_asks_66 (by decide) ?_
      refine L_idiv (pc := 68) X d_X13_asks_68 (by decide) ?_
      refine L_bipush (pc := 69) (v := 24) X d_X13_asks_69 (by decide) ?_
      refine L_irem (pc := 71) X d_X13_asks_71 (by decide) ?_
      refine L_iastM (pc := 72) (a := 5) X d_X13_asks_72 kd_708 (by unfold vp_in; decide) ?_
      refine L_aload_n (pc := 73) X d_X13_asks_73 rfl 0 rfl ?_
      refine gf_X13_26 (pc := 74) X d_X13_asks_74 ?_
      refine L_iconst (pc := 77) (v := 5) X d_X13_asks_77 (by decide) ?_
      refine L_aload_n (pc := 78) X d_X13_asks_78 rfl 0 rfl ?_
      refine L_aload_n (pc := 79) X d_X13_asks_79 rfl 0 rfl ?_
      refine gf_X13_129 (pc := 80) X d_X13_asks_80 ?_
      refine L_iconst (pc := 83) (v := 3) X d_X13_asks_83 (by decide) ?_
      refine L_callVI (pc := 84) X lk_X13_132 (c_X13_chipOf X.hst  h) rfl rfl kd_703 (by decide) rfl rfl ⟨by decide, by decide⟩ ⟨by decide, by decide⟩ (Nat.le_of_ble_eq_true rfl) d_X13_asks_84 rfl (fun x κ1 hx => L_nox hx) (fun r1 u2 h => ?_)
      refine L_iastM (pc := 87) (a := 5) X d_X13_asks_87 kd_708 (by unfold vp_in; decide) ?_
      exact L_vret (pc := 88) X hr d_X13_asks_88 (by decide) (by decide) ⟨_, rfl, rfl, h⟩
    · replace h := h.2 c12
      refine L_aload_n (pc := 15) X d_X13_asks_15 rfl 0 rfl ?_
      refine gf_X13_26 (pc := 16) X d_X13_asks_16 ?_
      refine L_iload_n (pc := 19) X d_X13_asks_19 rfl 1 rfl ?_
      refine L_aload_n (pc := 20) X d_X13_asks_20 rfl 0 rfl ?_
      refine gf_X13_7 (pc := 21) X d_X13_asks_21 ?_
      refine L_bipush (pc := 24) (v := 46) X d_X13_asks_24 (by decide) ?_
      refine L_iconst (pc := 26) (v := 4) X d_X13_asks_26 (by decide) ?_
      refine L_aload_n (pc := 27) X d_X13_asks_27 rfl 0 rfl ?_
      refine gf_X13_126 (pc := 28) X d_X13_asks_28 ?_
      refine L_imul (pc := 31) X d_X13_asks_31 ?_
      refine L_iadd (pc := 32) X d_X13_asks_32 ?_
      refine L_iload_n (pc := 33) X d_X13_asks_33 rfl 1 rfl ?_
      refine L_iadd (pc := 34) X d_X13_asks_34 ?_
      obtain ⟨q3, h⟩ := h
      refine L_ialdM (pc := 35) (a := 1) X d_X13_asks_35 kd_704 q3 ?_
      obtain ⟨q4, h⟩ := h
      refine L_iastM (pc := 36) (a := 5) X d_X13_asks_36 kd_708 q4 ?_
      refine L_iinc (pc := 37) (v := v1 + 1) (lv2 := [(1, .int (v1 + 1)), (0, .ref 703)]) X d_X13_asks_37 1 rfl rfl (by decide) rfl ?_
      refine L_goto (pc := 40) (tgt := 10) X d_X13_asks_40 (by decide) ?_
      refine LW.sub [1, 0] rfl ?_
      exact ih _  _ h
set_option maxHeartbeats 4000000 in
set_option maxRecDepth 100000 in
theorem c_X13_asks (hl : l.stackTraces = false) {mm : (Nat → Nat → Int32)} {post : (Nat → Nat → Int32) → Prop} (h : w_X13_asks post mm) : CT l yX13_asks (.code yX13_asks cX13_asks 2 none) rm_X13_asks 0 0 G ρ [.ref 703] (cm, mm, oo) (PV (fun u => (cm, u, oo)) post) noX := by
  refine CT_of hl (by decide +kernel) rfl (Nat.le_of_ble_eq_true rfl) (lv0 := [(0, .ref 703)]) rfl (fun p e s m args below meth c A X hr hex hnm => ?_)
  unfold w_X13_asks at h
  refine L_aload_n (pc := 0) X d_X13_asks_0 rfl 0 rfl ?_
  refine gf_X13_122 (pc := 1) X d_X13_asks_1 ?_
  refine L_if_ne (pc := 4) (tgt := 8) X d_X13_asks_4 (by decide) (fun c4 => ?_) (fun c4 => ?_)
  · replace h := h.1 c4
    refine L_iconst (pc := 8) (v := 0) X d_X13_asks_8 (by decide) ?_
    refine L_istore_n (pc := 9) (lv2 := [(1, .int 0), (0, .ref 703)]) X d_X13_asks_9 rfl (by decide) rfl ?_
    obtain ⟨n10, h⟩ := h
    refine LW.sub [1, 0] rfl ?_
    exact T_X13_asks_10 hl X hr hex n10 _  _ h
  · replace h := h.2 c4
    exact L_vret (pc := 7) X hr d_X13_asks_7 (by decide) (by decide) ⟨_, rfl, rfl, h⟩
end G_X13_asks
theorem d_X13_part_0 : decode cX13_part 0 = .ok (.aload_n 0, 1) := by decide +kernel
theorem d_X13_part_1 : decode cX13_part 1 = .ok (.getfield 22, 3) := by decide +kernel
theorem d_X13_part_4 : decode cX13_part 4 = .ok (.iconst (-1), 1) := by decide +kernel
theorem d_X13_part_5 : decode cX13_part 5 = .ok (.if_icmp .eq 5, 3) := by decide +kernel
theorem d_X13_part_8 : decode cX13_part 8 = .ok (.iconst 0, 1) := by decide +kernel
theorem d_X13_part_9 : decode cX13_part 9 = .ok (.ireturn, 1) := by decide +kernel
theorem d_X13_part_10 : decode cX13_part 10 = .ok (.aload_n 0, 1) := by decide +kernel
theorem d_X13_part_11 : decode cX13_part 11 = .ok (.invokevirtual 70, 3) := by decide +kernel
theorem d_X13_part_14 : decode cX13_part 14 = .ok (.aload_n 0, 1) := by decide +kernel
theorem d_X13_part_15 : decode cX13_part 15 = .ok (.getfield 60, 3) := by decide +kernel
theorem d_X13_part_18 : decode cX13_part 18 = .ok (.aload_n 0, 1) := by decide +kernel
theorem d_X13_part_19 : decode cX13_part 19 = .ok (.getfield 63, 3) := by decide +kernel
theorem d_X13_part_22 : decode cX13_part 22 = .ok (.if_icmp .ge 30, 3) := by decide +kernel
theorem d_X13_part_25 : decode cX13_part 25 = .ok (.aload_n 0, 1) := by decide +kernel
theorem d_X13_part_26 : decode cX13_part 26 = .ok (.aload_n 0, 1) := by decide +kernel
theorem d_X13_part_27 : decode cX13_part 27 = .ok (.getfield 60, 3) := by decide +kernel
theorem d_X13_part_30 : decode cX13_part 30 = .ok (.invokevirtual 66, 3) := by decide +kernel
theorem d_X13_part_33 : decode cX13_part 33 = .ok (.bipush 48, 2) := by decide +kernel
theorem d_X13_part_35 : decode cX13_part 35 = .ok (.bipush 57, 2) := by decide +kernel
theorem d_X13_part_37 : decode cX13_part 37 = .ok (.invokestatic 50, 3) := by decide +kernel
theorem d_X13_part_40 : decode cX13_part 40 = .ok (.ifCond .eq 12, 3) := by decide +kernel
theorem d_X13_part_43 : decode cX13_part 43 = .ok (.aload_n 0, 1) := by decide +kernel
theorem d_X13_part_44 : decode cX13_part 44 = .ok (.iconst 0, 1) := by decide +kernel
theorem d_X13_part_45 : decode cX13_part 45 = .ok (.sipush 999, 3) := by decide +kernel
theorem d_X13_part_48 : decode cX13_part 48 = .ok (.invokevirtual 93, 3) := by decide +kernel
theorem d_X13_part_51 : decode cX13_part 51 = .ok (.ireturn, 1) := by decide +kernel
theorem d_X13_part_52 : decode cX13_part 52 = .ok (.aload_n 0, 1) := by decide +kernel
theorem d_X13_part_53 : decode cX13_part 53 = .ok (.ldc 135, 2) := by decide +kernel
theorem d_X13_part_55 : decode cX13_part 55 = .ok (.invokevirtual 89, 3) := by decide +kernel
theorem d_X13_part_58 : decode cX13_part 58 = .ok (.ifCond .eq 7, 3) := by decide +kernel
theorem d_X13_part_61 : decode cX13_part 61 = .ok (.iconst 0, 1) := by decide +kernel
theorem d_X13_part_62 : decode cX13_part 62 = .ok (.goto 69, 3) := by decide +kernel
theorem d_X13_part_65 : decode cX13_part 65 = .ok (.aload_n 0, 1) := by decide +kernel
theorem d_X13_part_66 : decode cX13_part 66 = .ok (.ldc 137, 2) := by decide +kernel
theorem d_X13_part_68 : decode cX13_part 68 = .ok (.invokevirtual 89, 3) := by decide +kernel
theorem d_X13_part_71 : decode cX13_part 71 = .ok (.ifCond .eq 7, 3) := by decide +kernel
theorem d_X13_part_74 : decode cX13_part 74 = .ok (.iconst 1, 1) := by decide +kernel
theorem d_X13_part_75 : decode cX13_part 75 = .ok (.goto 56, 3) := by decide +kernel
theorem d_X13_part_78 : decode cX13_part 78 = .ok (.aload_n 0, 1) := by decide +kernel
theorem d_X13_part_79 : decode cX13_part 79 = .ok (.ldc 139, 2) := by decide +kernel
theorem d_X13_part_81 : decode cX13_part 81 = .ok (.invokevirtual 89, 3) := by decide +kernel
theorem d_X13_part_84 : decode cX13_part 84 = .ok (.ifCond .eq 7, 3) := by decide +kernel
theorem d_X13_part_87 : decode cX13_part 87 = .ok (.iconst 2, 1) := by decide +kernel
theorem d_X13_part_88 : decode cX13_part 88 = .ok (.goto 43, 3) := by decide +kernel
theorem d_X13_part_91 : decode cX13_part 91 = .ok (.aload_n 0, 1) := by decide +kernel
theorem d_X13_part_92 : decode cX13_part 92 = .ok (.ldc 103, 2) := by decide +kernel
theorem d_X13_part_94 : decode cX13_part 94 = .ok (.invokevirtual 89, 3) := by decide +kernel
theorem d_X13_part_97 : decode cX13_part 97 = .ok (.ifCond .eq 7, 3) := by decide +kernel
theorem d_X13_part_100 : decode cX13_part 100 = .ok (.iconst 3, 1) := by decide +kernel
theorem d_X13_part_101 : decode cX13_part 101 = .ok (.goto 30, 3) := by decide +kernel
theorem d_X13_part_104 : decode cX13_part 104 = .ok (.aload_n 0, 1) := by decide +kernel
theorem d_X13_part_105 : decode cX13_part 105 = .ok (.ldc 141, 2) := by decide +kernel
theorem d_X13_part_107 : decode cX13_part 107 = .ok (.invokevirtual 89, 3) := by decide +kernel
theorem d_X13_part_110 : decode cX13_part 110 = .ok (.ifCond .eq 7, 3) := by decide +kernel
theorem d_X13_part_113 : decode cX13_part 113 = .ok (.iconst 4, 1) := by decide +kernel
theorem d_X13_part_114 : decode cX13_part 114 = .ok (.goto 17, 3) := by decide +kernel
theorem d_X13_part_117 : decode cX13_part 117 = .ok (.aload_n 0, 1) := by decide +kernel
theorem d_X13_part_118 : decode cX13_part 118 = .ok (.ldc 143, 2) := by decide +kernel
theorem d_X13_part_120 : decode cX13_part 120 = .ok (.invokevirtual 89, 3) := by decide +kernel
theorem d_X13_part_123 : decode cX13_part 123 = .ok (.ifCond .eq 7, 3) := by decide +kernel
theorem d_X13_part_126 : decode cX13_part 126 = .ok (.iconst 5, 1) := by decide +kernel
theorem d_X13_part_127 : decode cX13_part 127 = .ok (.goto 4, 3) := by decide +kernel
theorem d_X13_part_130 : decode cX13_part 130 = .ok (.iconst (-1), 1) := by decide +kernel
theorem d_X13_part_131 : decode cX13_part 131 = .ok (.istore_n 1, 1) := by decide +kernel
theorem d_X13_part_132 : decode cX13_part 132 = .ok (.iload_n 1, 1) := by decide +kernel
theorem d_X13_part_133 : decode cX13_part 133 = .ok (.iconst (-1), 1) := by decide +kernel
theorem d_X13_part_134 : decode cX13_part 134 = .ok (.if_icmp .ne 13, 3) := by decide +kernel
theorem d_X13_part_137 : decode cX13_part 137 = .ok (.aload_n 0, 1) := by decide +kernel
theorem d_X13_part_138 : decode cX13_part 138 = .ok (.aload_n 0, 1) := by decide +kernel
theorem d_X13_part_139 : decode cX13_part 139 = .ok (.getfield 60, 3) := by decide +kernel
theorem d_X13_part_142 : decode cX13_part 142 = .ok (.invokevirtual 83, 3) := by decide +kernel
theorem d_X13_part_145 : decode cX13_part 145 = .ok (.iconst 0, 1) := by decide +kernel
theorem d_X13_part_146 : decode cX13_part 146 = .ok (.ireturn, 1) := by decide +kernel
theorem d_X13_part_147 : decode cX13_part 147 = .ok (.aload_n 0, 1) := by decide +kernel
theorem d_X13_part_148 : decode cX13_part 148 = .ok (.getfield 26, 3) := by decide +kernel
theorem d_X13_part_151 : decode cX13_part 151 = .ok (.iload_n 1, 1) := by decide +kernel
theorem d_X13_part_152 : decode cX13_part 152 = .ok (.iaload, 1) := by decide +kernel
theorem d_X13_part_153 : decode cX13_part 153 = .ok (.ireturn, 1) := by decide +kernel
abbrev rm_X13_part : Room := { frames := 5, cells := 0, slots := 0, locals := 108 }
def B_X13_part_131 (post : Int32 → (Nat → Nat → Int32) → Prop) (s0 : Int32) (mm : (Nat → Nat → Int32)) : Prop := (¬ s0 = (-1) → ((vp_in s0 6) ∧ post (mm 5 (Int32.toNatClampNeg s0)) mm)) ∧ (s0 = (-1) → (w_X13_wrong (fun (u23 : (Nat → Nat → Int32)) => post 0 u23) (mm 0 9) mm))
def B_X13_part_52 (post : Int32 → (Nat → Nat → Int32) → Prop) (mm : (Nat → Nat → Int32)) : Prop := w_X13_has (fun (r9 : Bool) (u10 : (Nat → Nat → Int32)) => ((r9 = false) → (w_X13_has (fun (r11 : Bool) (u12 : (Nat → Nat → Int32)) => ((r11 = false) → (w_X13_has (fun (r13 : Bool) (u14 : (Nat → Nat → Int32)) => ((r13 = false) → (w_X13_has (fun (r15 : Bool) (u16 : (Nat → Nat → Int32)) => ((r15 = false) → (w_X13_has (fun (r17 : Bool) (u18 : (Nat → Nat → Int32)) => ((r17 = false) → (w_X13_has (fun (r19 : Bool) (u20 : (Nat → Nat → Int32)) => ((r19 = false) → (B_X13_part_131 post (-1) u20)) ∧ (¬ (r19 = false) → (B_X13_part_131 post 5 u20))) 23 u18)) ∧ (¬ (r17 = false) → (B_X13_part_131 post 4 u18))) 22 u16)) ∧ (¬ (r15 = false) → (B_X13_part_131 post 3 u16))) 21 u14)) ∧ (¬ (r13 = false) → (B_X13_part_131 post 2 u14))) 20 u12)) ∧ (¬ (r11 = false) → (B_X13_part_131 post 1 u12))) 19 u10)) ∧ (¬ (r9 = false) → (B_X13_part_131 post 0 u10))) 18 mm
def w_X13_part (post : Int32 → (Nat → Nat → Int32) → Prop) (mm : (Nat → Nat → Int32)) : Prop := ((mm 0 10) = (-1) → (w_X13_skip (fun (u2 : (Nat → Nat → Int32)) => ((u2 0 8) ≤ (u2 0 9) → (B_X13_part_52 post u2)) ∧ (¬ (u2 0 8) ≤ (u2 0 9) → (w_X13_letter (fun (r3 : Int32) (u4 : (Nat → Nat → Int32)) => w_X13_isIn (fun (r5 : Bool) (u6 : (Nat → Nat → Int32)) => ((r5 = false) → (B_X13_part_52 post u6)) ∧ (¬ (r5 = false) → (w_X13_figures (fun (r7 : Int32) (u8 : (Nat → Nat → Int32)) => post r7 u8) 0 999 u6))) r3 48 57 u4) (u2 0 9) u2)))  mm)) ∧ (¬ (mm 0 10) = (-1) → (post 0 mm))
section G_X13_part
variable {p : Program} {l : Launch} {e : Env} {s : State} {m : MethodId} {args : Array Value} {below : List Frame} {meth : Method} {c : Code} {G : Gd} {ρ : Nat → Nat} {A : Nat → Prop} {cm : CMu} {oo : Nat → Int64}
set_option maxHeartbeats 4000000 in
set_option maxRecDepth 100000 in
theorem T_X13_part_131 {post : Int32 → (Nat → Nat → Int32) → Prop} (hl : l.stackTraces = false) (X : MC p l s m args meth c cX13_part 2 RX13 G ρ A) (hr : meth.sig.returnType = (some .int)) (hex : ∀ z ∈ c.exceptionTable.toList, False) : ∀ (s0 : Int32) (mm : (Nat → Nat → Int32)), B_X13_part_131 post s0 mm → LW p l e rm_X13_part s m args below meth c (Qm below G ρ A (PI (fun u => (cm, u, oo)) post) noX args s 0 0) G ρ A 2 0 0 131 [(0, .ref 703)] [.int s0] (cm, mm, oo) := by
  intro s0 mm h
  unfold B_X13_part_131 at h
  refine L_istore_n (pc := 131) (lv2 := [(1, .int s0), (0, .ref 703)]) X d_X13_part_131 rfl (by decide) rfl ?_
  refine L_iload_n (pc := 132) X d_X13_part_132 rfl 0 rfl ?_
  refine L_iconst (pc := 133) (v := (-1)) X d_X13_part_133 (by decide) ?_
  refine L_icmp_ne (pc := 134) (tgt := 147) X d_X13_part_134 (by decide) (fun c134 => ?_) (fun c134 => ?_)
  · replace h := h.1 c134
    refine L_aload_n (pc := 147) X d_X13_part_147 rfl 1 rfl ?_
    refine gf_X13_26 (pc := 148) X d_X13_part_148 ?_
    refine L_iload_n (pc := 151) X d_X13_part_151 rfl 0 rfl ?_
    obtain ⟨q21, h⟩ := h
    refine L_ialdM (pc := 152) (a := 5) X d_X13_part_152 kd_708 q21 ?_
    exact L_iret (pc := 153) X hr d_X13_part_153 (by decide) (by decide) ⟨_, _, rfl, rfl, h⟩
  · replace h := h.2 c134
    refine L_aload_n (pc := 137) X d_X13_part_137 rfl 1 rfl ?_
    refine L_aload_n (pc := 138) X d_X13_part_138 rfl 1 rfl ?_
    refine gf_X13_60 (pc := 139) X d_X13_part_139 ?_
    refine L_callVV (pc := 142) X lk_X13_83 (c_X13_wrong X.hst  h) rfl rfl kd_703 (by decide) rfl rfl ⟨by decide, by decide⟩ ⟨by decide, by decide⟩ (Nat.zero_le _) d_X13_part_142 rfl (fun x κ1 hx => L_nox hx) (fun u23 h => ?_)
    refine L_iconst (pc := 145) (v := 0) X d_X13_part_145 (by decide) ?_
    exact L_iret (pc := 146) X hr d_X13_part_146 (by decide) (by decide) ⟨_, _, rfl, rfl, h⟩
set_option maxHeartbeats 4000000 in
set_option maxRecDepth 100000 in
theorem T_X13_part_52 {post : Int32 → (Nat → Nat → Int32) → Prop} (hl : l.stackTraces = false) (X : MC p l s m args meth c cX13_part 2 RX13 G ρ A) (hr : meth.sig.returnType = (some .int)) (hex : ∀ z ∈ c.exceptionTable.toList, False) : ∀ (mm : (Nat → Nat → Int32)), B_X13_part_52 post mm → LW p l e rm_X13_part s m args below meth c (Qm below G ρ A (PI (fun u => (cm, u, oo)) post) noX args s 0 0) G ρ A 2 0 0 52 [(0, .ref 703)] [] (cm, mm, oo) := by
  intro mm h
  unfold B_X13_part_52 at h
  refine L_aload_n (pc := 52) X d_X13_part_52 rfl 0 rfl ?_
  refine L_ldcS (pc := 53) (i := 18) X (by decide) d_X13_part_53 ?_
  refine L_callVZ (pc := 55) X lk_X13_89 (c_X13_has X.hst (by decide) h) rfl rfl kd_703 (by decide) rfl rfl ⟨by decide, by decide⟩ ⟨by decide, by decide⟩ (Nat.zero_le _) d_X13_part_55 rfl (fun x κ1 hx => L_nox hx) (fun r9 u10 h => ?_)
  refine L_if_eq (pc := 58) (tgt := 65) X d_X13_part_58 (by decide) (fun c58 => ?_) (fun c58 => ?_)
  · replace h := h.1 ((b2_0 _).mp c58)
    refine L_aload_n (pc := 65) X d_X13_part_65 rfl 0 rfl ?_
    refine L_ldcS (pc := 66) (i := 19) X (by decide) d_X13_part_66 ?_
    refine L_callVZ (pc := 68) X lk_X13_89 (c_X13_has X.hst (by decide) h) rfl rfl kd_703 (by decide) rfl rfl ⟨by decide, by decide⟩ ⟨by decide, by decide⟩ (Nat.zero_le _) d_X13_part_68 rfl (fun x κ1 hx => L_nox hx) (fun r11 u12 h => ?_)
    refine L_if_eq (pc := 71) (tgt := 78) X d_X13_part_71 (by decide) (fun c71 => ?_) (fun c71 => ?_)
    · replace h := h.1 ((b2_0 _).mp c71)
      refine L_aload_n (pc := 78) X d_X13_part_78 rfl 0 rfl ?_
      refine L_ldcS (pc := 79) (i := 20) X (by decide) d_X13_part_79 ?_
      refine L_callVZ (pc := 81) X lk_X13_89 (c_X13_has X.hst (by decide) h) rfl rfl kd_703 (by decide) rfl rfl ⟨by decide, by decide⟩ ⟨by decide, by decide⟩ (Nat.zero_le _) d_X13_part_81 rfl (fun x κ1 hx => L_nox hx) (fun r13 u14 h => ?_)
      refine L_if_eq (pc := 84) (tgt := 91) X d_X13_part_84 (by decide) (fun c84 => ?_) (fun c84 => ?_)
      · replace h := h.1 ((b2_0 _).mp c84)
        refine L_aload_n (pc := 91) X d_X13_part_91 rfl 0 rfl ?_
        refine L_ldcS (pc := 92) (i := 21) X (by decide) d_X13_part_92 ?_
        refine L_callVZ (pc := 94) X lk_X13_89 (c_X13_has X.hst (by decide) h) rfl rfl kd_703 (by decide) rfl rfl ⟨by decide, by decide⟩ ⟨by decide, by decide⟩ (Nat.zero_le _) d_X13_part_94 rfl (fun x κ1 hx => L_nox hx) (fun r15 u16 h => ?_)
        refine L_if_eq (pc := 97) (tgt := 104) X d_X13_part_97 (by decide) (fun c97 => ?_) (fun c97 => ?_)
        · replace h := h.1 ((b2_0 _).mp c97)
          refine L_aload_n (pc := 104) X d_X13_part_104 rfl 0 rfl ?_
          refine L_ldcS (pc := 105) (i := 22) X (by decide) d_X13_part_105 ?_
          refine L_callVZ (pc := 107) X lk_X13_89 (c_X13_has X.hst (by decide) h) rfl rfl kd_703 (by decide) rfl rfl ⟨by decide, by decide⟩ ⟨by decide, by decide⟩ (Nat.zero_le _) d_X13_part_107 rfl (fun x κ1 hx => L_nox hx) (fun r17 u18 h => ?_)
          refine L_if_eq (pc := 110) (tgt := 117) X d_X13_part_110 (by decide) (fun c110 => ?_) (fun c110 => ?_)
          · replace h := h.1 ((b2_0 _).mp c110)
            refine L_aload_n (pc := 117) X d_X13_part_117 rfl 0 rfl ?_
            refine L_ldcS (pc := 118) (i := 23) X (by decide) d_X13_part_118 ?_
            refine L_callVZ (pc := 120) X lk_X13_89 (c_X13_has X.hst (by decide) h) rfl rfl kd_703 (by decide) rfl rfl ⟨by decide, by decide⟩ ⟨by decide, by decide⟩ (Nat.zero_le _) d_X13_part_120 rfl (fun x κ1 hx => L_nox hx) (fun r19 u20 h => ?_)
            refine L_if_eq (pc := 123) (tgt := 130) X d_X13_part_123 (by decide) (fun c123 => ?_) (fun c123 => ?_)
            · replace h := h.1 ((b2_0 _).mp c123)
              refine L_iconst (pc := 130) (v := (-1)) X d_X13_part_130 (by decide) ?_
              refine LW.sub [0] rfl ?_
              exact T_X13_part_131 hl X hr hex _  _ h
            · replace h := h.2 (fun z => c123 ((b2_0 _).mpr z))
              refine L_iconst (pc := 126) (v := 5) X d_X13_part_126 (by decide) ?_
              refine L_goto (pc := 127) (tgt := 131) X d_X13_part_127 (by decide) ?_
              refine LW.sub [0] rfl ?_
              exact T_X13_part_131 hl X hr hex _  _ h
          · replace h := h.2 (fun z => c110 ((b2_0 _).mpr z))
            refine L_iconst (pc := 113) (v := 4) X d_X13_part_113 (by decide) ?_
            refine L_goto (pc := 114) (tgt := 131) X d_X13_part_114 (by decide) ?_
            refine LW.sub [0] rfl ?_
            exact T_X13_part_131 hl X hr hex _  _ h
        · replace h := h.2 (fun z => c97 ((b2_0 _).mpr z))
          refine L_iconst (pc := 100) (v := 3) X d_X13_part_100 (by decide) ?_
          refine L_goto (pc := 101) (tgt := 131) X d_X13_part_101 (by decide) ?_
          refine LW.sub [0] rfl ?_
          exact T_X13_part_131 hl X hr hex _  _ h
      · replace h := h.2 (fun z => c84 ((b2_0 _).mpr z))
        refine L_iconst (pc := 87) (v := 2) X d_X13_part_87 (by decide) ?_
        refine L_goto (pc := 88) (tgt := 131) X d_X13_part_88 (by decide) ?_
        refine LW.sub [0] rfl ?_
        exact T_X13_part_131 hl X hr hex _  _ h
    · replace h := h.2 (fun z => c71 ((b2_0 _).mpr z))
      refine L_iconst (pc := 74) (v := 1) X d_X13_part_74 (by decide) ?_
      refine L_goto (pc := 75) (tgt := 131) X d_X13_part_75 (by decide) ?_
      refine LW.sub [0] rfl ?_
      exact T_X13_part_131 hl X hr hex _  _ h
  · replace h := h.2 (fun z => c58 ((b2_0 _).mpr z))
    refine L_iconst (pc := 61) (v := 0) X d_X13_part_61 (by decide) ?_
    refine L_goto (pc := 62) (tgt := 131) X d_X13_part_62 (by decide) ?_
    refine LW.sub [0] rfl ?_
    exact T_X13_part_131 hl X hr hex _  _ h
set_option maxHeartbeats 4000000 in
set_option maxRecDepth 100000 in
theorem c_X13_part (hl : l.stackTraces = false) {mm : (Nat → Nat → Int32)} {post : Int32 → (Nat → Nat → Int32) → Prop} (h : w_X13_part post mm) : CT l yX13_part (.code yX13_part cX13_part 2 (some .int)) rm_X13_part 0 0 G ρ [.ref 703] (cm, mm, oo) (PI (fun u => (cm, u, oo)) post) noX := by
  refine CT_of hl (by decide +kernel) rfl (Nat.le_of_ble_eq_true rfl) (lv0 := [(0, .ref 703)]) rfl (fun p e s m args below meth c A X hr hex hnm => ?_)
  unfold w_X13_part at h
  refine L_aload_n (pc := 0) X d_X13_part_0 rfl 0 rfl ?_
  refine gf_X13_22 (pc := 1) X d_X13_part_1 ?_
  refine L_iconst (pc := 4) (v := (-1)) X d_X13_part_4 (by decide) ?_
  refine L_icmp_eq (pc := 5) (tgt := 10) X d_X13_part_5 (by decide) (fun c5 => ?_) (fun c5 => ?_)
  · replace h := h.1 c5
    refine L_aload_n (pc := 10) X d_X13_part_10 rfl 0 rfl ?_
    refine L_callVV (pc := 11) X lk_X13_70 (c_X13_skip X.hst  h) rfl rfl kd_703 (by decide) rfl rfl ⟨by decide, by decide⟩ ⟨by decide, by decide⟩ (Nat.zero_le _) d_X13_part_11 rfl (fun x κ1 hx => L_nox hx) (fun u2 h => ?_)
    refine L_aload_n (pc := 14) X d_X13_part_14 rfl 0 rfl ?_
    refine gf_X13_60 (pc := 15) X d_X13_part_15 ?_
    refine L_aload_n (pc := 18) X d_X13_part_18 rfl 0 rfl ?_
    refine gf_X13_63 (pc := 19) X d_X13_part_19 ?_
    refine L_icmp_ge (pc := 22) (tgt := 52) X d_X13_part_22 (by decide) (fun c22 => ?_) (fun c22 => ?_)
    · replace h := h.1 c22
      refine LW.sub [0] rfl ?_
      exact T_X13_part_52 hl X hr hex   _ h
    · replace h := h.2 c22
      refine L_aload_n (pc := 25) X d_X13_part_25 rfl 0 rfl ?_
      refine L_aload_n (pc := 26) X d_X13_part_26 rfl 0 rfl ?_
      refine gf_X13_60 (pc := 27) X d_X13_part_27 ?_
      refine L_callVI (pc := 30) X lk_X13_66 (c_X13_letter X.hst  h) rfl rfl kd_703 (by decide) rfl rfl ⟨by decide, by decide⟩ ⟨by decide, by decide⟩ (Nat.zero_le _) d_X13_part_30 rfl (fun x κ1 hx => L_nox hx) (fun r3 u4 h => ?_)
      refine L_bipush (pc := 33) (v := 48) X d_X13_part_33 (by decide) ?_
      refine L_bipush (pc := 35) (v := 57) X d_X13_part_35 (by decide) ?_
      refine L_callSZ (pc := 37) X lk_X13_50 (c_X13_isIn X.hst  h) rfl rfl rfl ⟨by decide, by decide⟩ ⟨by decide, by decide⟩ (Nat.zero_le _) d_X13_part_37 rfl (fun x κ1 hx => L_nox hx) (fun r5 u6 h => ?_)
      refine L_if_eq (pc := 40) (tgt := 52) X d_X13_part_40 (by decide) (fun c40 => ?_) (fun c40 => ?_)
      · replace h := h.1 ((b2_0 _).mp c40)
        refine LW.sub [0] rfl ?_
        exact T_X13_part_52 hl X hr hex   _ h
      · replace h := h.2 (fun z => c40 ((b2_0 _).mpr z))
        refine L_aload_n (pc := 43) X d_X13_part_43 rfl 0 rfl ?_
        refine L_iconst (pc := 44) (v := 0) X d_X13_part_44 (by decide) ?_
        refine L_sipush (pc := 45) (v := 999) X d_X13_part_45 (by decide) ?_
        refine L_callVI (pc := 48) X lk_X13_93 (c_X13_figures X.hst  h) rfl rfl kd_703 (by decide) rfl rfl ⟨by decide, by decide⟩ ⟨by decide, by decide⟩ (Nat.zero_le _) d_X13_part_48 rfl (fun x κ1 hx => L_nox hx) (fun r7 u8 h => ?_)
        exact L_iret (pc := 51) X hr d_X13_part_51 (by decide) (by decide) ⟨_, _, rfl, rfl, h⟩
  · replace h := h.2 c5
    refine L_iconst (pc := 8) (v := 0) X d_X13_part_8 (by decide) ?_
    exact L_iret (pc := 9) X hr d_X13_part_9 (by decide) (by decide) ⟨_, _, rfl, rfl, h⟩
end G_X13_part
theorem yk_X13_part : yX13_part.cls = RX13 ∧ yX13_part.cls ≠ "java/lang/invoke/MethodHandle" ∧ yX13_part.cls ≠ "java/lang/invoke/VarHandle" ∧ (parseMethodDescriptor yX13_part.desc).map (fun d => d.parameters.length) = some 0 := by decide +kernel
theorem lk_X13_145 : LinkV RX13 145 RX13 yX13_part (.code yX13_part cX13_part 2 (some .int)) 0 := ⟨tw_1436, tw_1438, tw_53, tw_83, tw_1439, yk_X13_part⟩
theorem d_X13_sum_0 : decode cX13_sum 0 = .ok (.aload_n 0, 1) := by decide +kernel
theorem d_X13_sum_1 : decode cX13_sum 1 = .ok (.invokevirtual 145, 3) := by decide +kernel
theorem d_X13_sum_4 : decode cX13_sum 4 = .ok (.istore_n 1, 1) := by decide +kernel
theorem d_X13_sum_5 : decode cX13_sum 5 = .ok (.aload_n 0, 1) := by decide +kernel
theorem d_X13_sum_6 : decode cX13_sum 6 = .ok (.getfield 22, 3) := by decide +kernel
theorem d_X13_sum_9 : decode cX13_sum 9 = .ok (.iconst (-1), 1) := by decide +kernel
theorem d_X13_sum_10 : decode cX13_sum 10 = .ok (.if_icmp .ne 32, 3) := by decide +kernel
theorem d_X13_sum_13 : decode cX13_sum 13 = .ok (.aload_n 0, 1) := by decide +kernel
theorem d_X13_sum_14 : decode cX13_sum 14 = .ok (.bipush 43, 2) := by decide +kernel
theorem d_X13_sum_16 : decode cX13_sum 16 = .ok (.invokevirtual 118, 3) := by decide +kernel
theorem d_X13_sum_19 : decode cX13_sum 19 = .ok (.ifCond .eq 23, 3) := by decide +kernel
theorem d_X13_sum_22 : decode cX13_sum 22 = .ok (.aload_n 0, 1) := by decide +kernel
theorem d_X13_sum_23 : decode cX13_sum 23 = .ok (.dup, 1) := by decide +kernel
theorem d_X13_sum_24 : decode cX13_sum 24 = .ok (.getfield 60, 3) := by decide +kernel
theorem d_X13_sum_27 : decode cX13_sum 27 = .ok (.iconst 1, 1) := by decide +kernel
theorem d_X13_sum_28 : decode cX13_sum 28 = .ok (.iadd, 1) := by decide +kernel
theorem d_X13_sum_29 : decode cX13_sum 29 = .ok (.putfield 60, 3) := by decide +kernel
theorem d_X13_sum_32 : decode cX13_sum 32 = .ok (.iload_n 1, 1) := by decide +kernel
theorem d_X13_sum_33 : decode cX13_sum 33 = .ok (.aload_n 0, 1) := by decide +kernel
theorem d_X13_sum_34 : decode cX13_sum 34 = .ok (.invokevirtual 145, 3) := by decide +kernel
theorem d_X13_sum_37 : decode cX13_sum 37 = .ok (.iadd, 1) := by decide +kernel
theorem d_X13_sum_38 : decode cX13_sum 38 = .ok (.istore_n 1, 1) := by decide +kernel
theorem d_X13_sum_39 : decode cX13_sum 39 = .ok (.goto (-34), 3) := by decide +kernel
theorem d_X13_sum_42 : decode cX13_sum 42 = .ok (.iload_n 1, 1) := by decide +kernel
theorem d_X13_sum_43 : decode cX13_sum 43 = .ok (.ireturn, 1) := by decide +kernel
abbrev rm_X13_sum : Room := { frames := 6, cells := 0, slots := 0, locals := 129 }
def B_X13_sum_42 (post : Int32 → (Nat → Nat → Int32) → Prop) (v1 : Int32) (mm : (Nat → Nat → Int32)) : Prop := post v1 mm
def B_X13_sum_5 (post : Int32 → (Nat → Nat → Int32) → Prop) : Nat → Int32 → (Nat → Nat → Int32) → Prop
  | 0 => fun _ _ => False
  | n + 1 => fun v1 mm => (¬ (mm 0 10) = (-1) → (B_X13_sum_42 post v1 mm)) ∧ ((mm 0 10) = (-1) → (w_X13_isSign (fun (r3 : Bool) (u4 : (Nat → Nat → Int32)) => ((r3 = false) → (B_X13_sum_42 post v1 u4)) ∧ (¬ (r3 = false) → (w_X13_part (fun (r5 : Int32) (u6 : (Nat → Nat → Int32)) => B_X13_sum_5 post n (v1 + r5) u6)  (up2 u4 0 9 ((u4 0 9) + 1))))) 43 mm))
def w_X13_sum (post : Int32 → (Nat → Nat → Int32) → Prop) (mm : (Nat → Nat → Int32)) : Prop := w_X13_part (fun (r1 : Int32) (u2 : (Nat → Nat → Int32)) => ∃ n5, B_X13_sum_5 post n5 r1 u2)  mm
section G_X13_sum
variable {p : Program} {l : Launch} {e : Env} {s : State} {m : MethodId} {args : Array Value} {below : List Frame} {meth : Method} {c : Code} {G : Gd} {ρ : Nat → Nat} {A : Nat → Prop} {cm : CMu} {oo : Nat → Int64}
set_option maxHeartbeats 4000000 in
set_option maxRecDepth 100000 in
theorem T_X13_sum_42 {post : Int32 → (Nat → Nat → Int32) → Prop} (hl : l.stackTraces = false) (X : MC p l s m args meth c cX13_sum 2 RX13 G ρ A) (hr : meth.sig.returnType = (some .int)) (hex : ∀ z ∈ c.exceptionTable.toList, False) : ∀ (v1 : Int32) (mm : (Nat → Nat → Int32)), B_X13_sum_42 post v1 mm → LW p l e rm_X13_sum s m args below meth c (Qm below G ρ A (PI (fun u => (cm, u, oo)) post) noX args s 0 0) G ρ A 2 0 0 42 [(1, .int v1)] [] (cm, mm, oo) := by
  intro v1 mm h
  unfold B_X13_sum_42 at h
  refine L_iload_n (pc := 42) X d_X13_sum_42 rfl 0 rfl ?_
  exact L_iret (pc := 43) X hr d_X13_sum_43 (by decide) (by decide) ⟨_, _, rfl, rfl, h⟩
set_option maxHeartbeats 4000000 in
set_option maxRecDepth 100000 in
theorem T_X13_sum_5 {post : Int32 → (Nat → Nat → Int32) → Prop} (hl : l.stackTraces = false) (X : MC p l s m args meth c cX13_sum 2 RX13 G ρ A) (hr : meth.sig.returnType = (some .int)) (hex : ∀ z ∈ c.exceptionTable.toList, False) (n : Nat) : ∀ (v1 : Int32) (mm : (Nat → Nat → Int32)), B_X13_sum_5 post n v1 mm → LW p l e rm_X13_sum s m args below meth c (Qm below G ρ A (PI (fun u => (cm, u, oo)) post) noX args s 0 0) G ρ A 2 0 0 5 [(0, .ref 703), (1, .int v1)] [] (cm, mm, oo) := by
  induction n with
  | zero =>
    intro v1 mm h
    exact False.elim h
  | succ n ih =>
    intro v1 mm h
    unfold B_X13_sum_5 at h
    refine L_aload_n (pc := 5) X d_X13_sum_5 rfl 0 rfl ?_
    refine gf_X13_22 (pc := 6) X d_X13_sum_6 ?_
    refine L_iconst (pc := 9) (v := (-1)) X d_X13_sum_9 (by decide) ?_
    refine L_icmp_ne (pc := 10) (tgt := 42) X d_X13_sum_10 (by decide) (fun c10 => ?_) (fun c10 => ?_)
    · replace h := h.1 c10
      refine LW.sub [1] rfl ?_
      exact T_X13_sum_42 hl X hr hex _  _ h
    · replace h := h.2 c10
      refine L_aload_n (pc := 13) X d_X13_sum_13 rfl 0 rfl ?_
      refine L_bipush (pc := 14) (v := 43) X d_X13_sum_14 (by decide) ?_
      refine L_callVZ (pc := 16) X lk_X13_118 (c_X13_isSign X.hst  h) rfl rfl kd_703 (by decide) rfl rfl ⟨by decide, by decide⟩ ⟨by decide, by decide⟩ (Nat.zero_le _) d_X13_sum_16 rfl (fun x κ1 hx => L_nox hx) (fun r3 u4 h => ?_)
      refine L_if_eq (pc := 19) (tgt := 42) X d_X13_sum_19 (by decide) (fun c19 => ?_) (fun c19 => ?_)
      · replace h := h.1 ((b2_0 _).mp c19)
        refine LW.sub [1] rfl ?_
        exact T_X13_sum_42 hl X hr hex _  _ h
      · replace h := h.2 (fun z => c19 ((b2_0 _).mpr z))
        refine L_aload_n (pc := 22) X d_X13_sum_22 rfl 0 rfl ?_
        refine L_dup (pc := 23) X d_X13_sum_23 rfl ?_
        refine gf_X13_60 (pc := 24) X d_X13_sum_24 ?_
        refine L_iconst (pc := 27) (v := 1) X d_X13_sum_27 (by decide) ?_
        refine L_iadd (pc := 28) X d_X13_sum_28 ?_
        refine pf_X13_60 (pc := 29) X d_X13_sum_29 ?_
        refine L_iload_n (pc := 32) X d_X13_sum_32 rfl 1 rfl ?_
        refine L_aload_n (pc := 33) X d_X13_sum_33 rfl 0 rfl ?_
        refine L_callVI (pc := 34) X lk_X13_145 (c_X13_part X.hst  h) rfl rfl kd_703 (by decide) rfl rfl ⟨by decide, by decide⟩ ⟨by decide, by decide⟩ (Nat.le_of_ble_eq_true rfl) d_X13_sum_34 rfl (fun x κ1 hx => L_nox hx) (fun r5 u6 h => ?_)
        refine L_iadd (pc := 37) X d_X13_sum_37 ?_
        refine L_istore_n (pc := 38) (lv2 := [(1, .int (v1 + r5)), (0, .ref 703)]) X d_X13_sum_38 rfl (by decide) rfl ?_
        refine L_goto (pc := 39) (tgt := 5) X d_X13_sum_39 (by decide) ?_
        refine LW.sub [1, 0] rfl ?_
        exact ih _  _ h
set_option maxHeartbeats 4000000 in
set_option maxRecDepth 100000 in
theorem c_X13_sum (hl : l.stackTraces = false) {mm : (Nat → Nat → Int32)} {post : Int32 → (Nat → Nat → Int32) → Prop} (h : w_X13_sum post mm) : CT l yX13_sum (.code yX13_sum cX13_sum 2 (some .int)) rm_X13_sum 0 0 G ρ [.ref 703] (cm, mm, oo) (PI (fun u => (cm, u, oo)) post) noX := by
  refine CT_of hl (by decide +kernel) rfl (Nat.le_of_ble_eq_true rfl) (lv0 := [(0, .ref 703)]) rfl (fun p e s m args below meth c A X hr hex hnm => ?_)
  unfold w_X13_sum at h
  refine L_aload_n (pc := 0) X d_X13_sum_0 rfl 0 rfl ?_
  refine L_callVI (pc := 1) X lk_X13_145 (c_X13_part X.hst  h) rfl rfl kd_703 (by decide) rfl rfl ⟨by decide, by decide⟩ ⟨by decide, by decide⟩ (Nat.zero_le _) d_X13_sum_1 rfl (fun x κ1 hx => L_nox hx) (fun r1 u2 h => ?_)
  refine L_istore_n (pc := 4) (lv2 := [(1, .int r1), (0, .ref 703)]) X d_X13_sum_4 rfl (by decide) rfl ?_
  obtain ⟨n5, h⟩ := h
  refine LW.sub [1, 0] rfl ?_
  exact T_X13_sum_5 hl X hr hex n5 _  _ h
end G_X13_sum
theorem yk_X13_sum : yX13_sum.cls = RX13 ∧ yX13_sum.cls ≠ "java/lang/invoke/MethodHandle" ∧ yX13_sum.cls ≠ "java/lang/invoke/VarHandle" ∧ (parseMethodDescriptor yX13_sum.desc).map (fun d => d.parameters.length) = some 0 := by decide +kernel
theorem lk_X13_152 : LinkV RX13 152 RX13 yX13_sum (.code yX13_sum cX13_sum 2 (some .int)) 0 := ⟨tw_1432, tw_1434, tw_52, tw_83, tw_1435, yk_X13_sum⟩
theorem d_X13_plain_0 : decode cX13_plain 0 = .ok (.aload_n 0, 1) := by decide +kernel
theorem d_X13_plain_1 : decode cX13_plain 1 = .ok (.ldc 105, 2) := by decide +kernel
theorem d_X13_plain_3 : decode cX13_plain 3 = .ok (.invokevirtual 89, 3) := by decide +kernel
theorem d_X13_plain_6 : decode cX13_plain 6 = .ok (.ifCond .eq 8, 3) := by decide +kernel
theorem d_X13_plain_9 : decode cX13_plain 9 = .ok (.aload_n 0, 1) := by decide +kernel
theorem d_X13_plain_10 : decode cX13_plain 10 = .ok (.invokevirtual 148, 3) := by decide +kernel
theorem d_X13_plain_13 : decode cX13_plain 13 = .ok (.ireturn, 1) := by decide +kernel
theorem d_X13_plain_14 : decode cX13_plain 14 = .ok (.aload_n 0, 1) := by decide +kernel
theorem d_X13_plain_15 : decode cX13_plain 15 = .ok (.invokevirtual 152, 3) := by decide +kernel
theorem d_X13_plain_18 : decode cX13_plain 18 = .ok (.istore_n 1, 1) := by decide +kernel
theorem d_X13_plain_19 : decode cX13_plain 19 = .ok (.aload_n 0, 1) := by decide +kernel
theorem d_X13_plain_20 : decode cX13_plain 20 = .ok (.getfield 22, 3) := by decide +kernel
theorem d_X13_plain_23 : decode cX13_plain 23 = .ok (.iconst (-1), 1) := by decide +kernel
theorem d_X13_plain_24 : decode cX13_plain 24 = .ok (.if_icmp .eq 5, 3) := by decide +kernel
theorem d_X13_plain_27 : decode cX13_plain 27 = .ok (.iconst 0, 1) := by decide +kernel
theorem d_X13_plain_28 : decode cX13_plain 28 = .ok (.ireturn, 1) := by decide +kernel
theorem d_X13_plain_29 : decode cX13_plain 29 = .ok (.aload_n 0, 1) := by decide +kernel
theorem d_X13_plain_30 : decode cX13_plain 30 = .ok (.bipush 60, 2) := by decide +kernel
theorem d_X13_plain_32 : decode cX13_plain 32 = .ok (.invokevirtual 118, 3) := by decide +kernel
theorem d_X13_plain_35 : decode cX13_plain 35 = .ok (.istore_n 2, 1) := by decide +kernel
theorem d_X13_plain_36 : decode cX13_plain 36 = .ok (.iload_n 2, 1) := by decide +kernel
theorem d_X13_plain_37 : decode cX13_plain 37 = .ok (.ifCond .ne 22, 3) := by decide +kernel
theorem d_X13_plain_40 : decode cX13_plain 40 = .ok (.aload_n 0, 1) := by decide +kernel
theorem d_X13_plain_41 : decode cX13_plain 41 = .ok (.bipush 62, 2) := by decide +kernel
theorem d_X13_plain_43 : decode cX13_plain 43 = .ok (.invokevirtual 118, 3) := by decide +kernel
theorem d_X13_plain_46 : decode cX13_plain 46 = .ok (.ifCond .ne 13, 3) := by decide +kernel
theorem d_X13_plain_49 : decode cX13_plain 49 = .ok (.aload_n 0, 1) := by decide +kernel
theorem d_X13_plain_50 : decode cX13_plain 50 = .ok (.aload_n 0, 1) := by decide +kernel
theorem d_X13_plain_51 : decode cX13_plain 51 = .ok (.getfield 60, 3) := by decide +kernel
theorem d_X13_plain_54 : decode cX13_plain 54 = .ok (.invokevirtual 83, 3) := by decide +kernel
theorem d_X13_plain_57 : decode cX13_plain 57 = .ok (.iconst 0, 1) := by decide +kernel
theorem d_X13_plain_58 : decode cX13_plain 58 = .ok (.ireturn, 1) := by decide +kernel
theorem d_X13_plain_59 : decode cX13_plain 59 = .ok (.aload_n 0, 1) := by decide +kernel
theorem d_X13_plain_60 : decode cX13_plain 60 = .ok (.dup, 1) := by decide +kernel
theorem d_X13_plain_61 : decode cX13_plain 61 = .ok (.getfield 60, 3) := by decide +kernel
theorem d_X13_plain_64 : decode cX13_plain 64 = .ok (.iconst 1, 1) := by decide +kernel
theorem d_X13_plain_65 : decode cX13_plain 65 = .ok (.iadd, 1) := by decide +kernel
theorem d_X13_plain_66 : decode cX13_plain 66 = .ok (.putfield 60, 3) := by decide +kernel
theorem d_X13_plain_69 : decode cX13_plain 69 = .ok (.aload_n 0, 1) := by decide +kernel
theorem d_X13_plain_70 : decode cX13_plain 70 = .ok (.invokevirtual 152, 3) := by decide +kernel
theorem d_X13_plain_73 : decode cX13_plain 73 = .ok (.istore_n 3, 1) := by decide +kernel
theorem d_X13_plain_74 : decode cX13_plain 74 = .ok (.iload_n 2, 1) := by decide +kernel
theorem d_X13_plain_75 : decode cX13_plain 75 = .ok (.ifCond .eq 16, 3) := by decide +kernel
theorem d_X13_plain_78 : decode cX13_plain 78 = .ok (.iload_n 1, 1) := by decide +kernel
theorem d_X13_plain_79 : decode cX13_plain 79 = .ok (.iload_n 3, 1) := by decide +kernel
theorem d_X13_plain_80 : decode cX13_plain 80 = .ok (.if_icmp .ge 7, 3) := by decide +kernel
theorem d_X13_plain_83 : decode cX13_plain 83 = .ok (.iconst 1, 1) := by decide +kernel
theorem d_X13_plain_84 : decode cX13_plain 84 = .ok (.goto 17, 3) := by decide +kernel
theorem d_X13_plain_87 : decode cX13_plain 87 = .ok (.iconst 0, 1) := by decide +kernel
theorem d_X13_plain_88 : decode cX13_plain 88 = .ok (.goto 13, 3) := by decide +kernel
theorem d_X13_plain_91 : decode cX13_plain 91 = .ok (.iload_n 1, 1) := by decide +kernel
theorem d_X13_plain_92 : decode cX13_plain 92 = .ok (.iload_n 3, 1) := by decide +kernel
theorem d_X13_plain_93 : decode cX13_plain 93 = .ok (.if_icmp .le 7, 3) := by decide +kernel
theorem d_X13_plain_96 : decode cX13_plain 96 = .ok (.iconst 1, 1) := by decide +kernel
theorem d_X13_plain_97 : decode cX13_plain 97 = .ok (.goto 4, 3) := by decide +kernel
theorem d_X13_plain_100 : decode cX13_plain 100 = .ok (.iconst 0, 1) := by decide +kernel
theorem d_X13_plain_101 : decode cX13_plain 101 = .ok (.ireturn, 1) := by decide +kernel
abbrev rm_X13_plain : Room := { frames := 7, cells := 0, slots := 0, locals := 150 }
def B_X13_plain_101 (post : Bool → (Nat → Nat → Int32) → Prop) (s0 : Bool) (mm : (Nat → Nat → Int32)) : Prop := post s0 mm
def B_X13_plain_59 (post : Bool → (Nat → Nat → Int32) → Prop) (v1 : Int32) (v2 : Bool) (mm : (Nat → Nat → Int32)) : Prop := w_X13_sum (fun (r13 : Int32) (u14 : (Nat → Nat → Int32)) => ((v2 = false) → ((v1 ≤ r13 → (B_X13_plain_101 post false u14)) ∧ (¬ v1 ≤ r13 → (B_X13_plain_101 post true u14)))) ∧ (¬ (v2 = false) → ((r13 ≤ v1 → (B_X13_plain_101 post false u14)) ∧ (¬ r13 ≤ v1 → (B_X13_plain_101 post true u14)))))  (up2 mm 0 9 ((mm 0 9) + 1))
def w_X13_plain (post : Bool → (Nat → Nat → Int32) → Prop) (mm : (Nat → Nat → Int32)) : Prop := w_X13_has (fun (r1 : Bool) (u2 : (Nat → Nat → Int32)) => ((r1 = false) → (w_X13_sum (fun (r3 : Int32) (u4 : (Nat → Nat → Int32)) => ((u4 0 10) = (-1) → (w_X13_isSign (fun (r5 : Bool) (u6 : (Nat → Nat → Int32)) => (¬ (r5 = false) → (B_X13_plain_59 post r3 r5 u6)) ∧ ((r5 = false) → (w_X13_isSign (fun (r7 : Bool) (u8 : (Nat → Nat → Int32)) => (¬ (r7 = false) → (B_X13_plain_59 post r3 r5 u8)) ∧ ((r7 = false) → (w_X13_wrong (fun (u10 : (Nat → Nat → Int32)) => post false u10) (u8 0 9) u8))) 62 u6))) 60 u4)) ∧ (¬ (u4 0 10) = (-1) → (post false u4)))  u2)) ∧ (¬ (r1 = false) → (w_X13_isFrost (fun (r11 : Bool) (u12 : (Nat → Nat → Int32)) => post r11 u12)  u2))) 14 mm
section G_X13_plain
variable {p : Program} {l : Launch} {e : Env} {s : State} {m : MethodId} {args : Array Value} {below : List Frame} {meth : Method} {c : Code} {G : Gd} {ρ : Nat → Nat} {A : Nat → Prop} {cm : CMu} {oo : Nat → Int64}
set_option maxHeartbeats 4000000 in
set_option maxRecDepth 100000 in
theorem T_X13_plain_101 {post : Bool → (Nat → Nat → Int32) → Prop} (hl : l.stackTraces = false) (X : MC p l s m args meth c cX13_plain 4 RX13 G ρ A) (hr : meth.sig.returnType = (some .boolean)) (hex : ∀ z ∈ c.exceptionTable.toList, False) : ∀ (s0 : Bool) (mm : (Nat → Nat → Int32)), B_X13_plain_101 post s0 mm → LW p l e rm_X13_plain s m args below meth c (Qm below G ρ A (PZ (fun u => (cm, u, oo)) post) noX args s 0 0) G ρ A 4 0 0 101 [] [.int (b2 s0)] (cm, mm, oo) := by
  intro s0 mm h
  unfold B_X13_plain_101 at h
  exact L_zretB (pc := 101) X hr d_X13_plain_101 s0 rfl (by decide) (by decide) ⟨_, _, rfl, rfl, h⟩
set_option maxHeartbeats 4000000 in
set_option maxRecDepth 100000 in
theorem T_X13_plain_59 {post : Bool → (Nat → Nat → Int32) → Prop} (hl : l.stackTraces = false) (X : MC p l s m args meth c cX13_plain 4 RX13 G ρ A) (hr : meth.sig.returnType = (some .boolean)) (hex : ∀ z ∈ c.exceptionTable.toList, False) : ∀ (v1 : Int32) (v2 : Bool) (mm : (Nat → Nat → Int32)), B_X13_plain_59 post v1 v2 mm → LW p l e rm_X13_plain s m args below meth c (Qm below G ρ A (PZ (fun u => (cm, u, oo)) post) noX args s 0 0) G ρ A 4 0 0 59 [(0, .ref 703), (1, .int v1), (2, .int (b2 v2))] [] (cm, mm, oo) := by
  intro v1 v2 mm h
  unfold B_X13_plain_59 at h
  refine L_aload_n (pc := 59) X d_X13_plain_59 rfl 0 rfl ?_
  refine L_dup (pc := 60) X d_X13_plain_60 rfl ?_
  refine gf_X13_60 (pc := 61) X d_X13_plain_61 ?_
  refine L_iconst (pc := 64) (v := 1) X d_X13_plain_64 (by decide) ?_
  refine L_iadd (pc := 65) X d_X13_plain_65 ?_
  refine pf_X13_60 (pc := 66) X d_X13_plain_66 ?_
  refine L_aload_n (pc := 69) X d_X13_plain_69 rfl 0 rfl ?_
  refine L_callVI (pc := 70) X lk_X13_152 (c_X13_sum X.hst  h) rfl rfl kd_703 (by decide) rfl rfl ⟨by decide, by decide⟩ ⟨by decide, by decide⟩ (Nat.zero_le _) d_X13_plain_70 rfl (fun x κ1 hx => L_nox hx) (fun r13 u14 h => ?_)
  refine L_istore_n (pc := 73) (lv2 := [(3, .int r13), (0, .ref 703), (1, .int v1), (2, .int (b2 v2))]) X d_X13_plain_73 rfl (by decide) rfl ?_
  refine L_iload_n (pc := 74) X d_X13_plain_74 rfl 3 rfl ?_
  refine L_if_eq (pc := 75) (tgt := 91) X d_X13_plain_75 (by decide) (fun c75 => ?_) (fun c75 => ?_)
  · replace h := h.1 ((b2_0 _).mp c75)
    refine L_iload_n (pc := 91) X d_X13_plain_91 rfl 2 rfl ?_
    refine L_iload_n (pc := 92) X d_X13_plain_92 rfl 0 rfl ?_
    refine L_icmp_le (pc := 93) (tgt := 100) X d_X13_plain_93 (by decide) (fun c93 => ?_) (fun c93 => ?_)
    · replace h := h.1 c93
      refine L_iconst (pc := 100) (v := 0) X d_X13_plain_100 (by decide) ?_
      refine LW.sub [] rfl ?_
      exact T_X13_plain_101 hl X hr hex _  _ h
    · replace h := h.2 c93
      refine L_iconst (pc := 96) (v := 1) X d_X13_plain_96 (by decide) ?_
      refine L_goto (pc := 97) (tgt := 101) X d_X13_plain_97 (by decide) ?_
      refine LW.sub [] rfl ?_
      exact T_X13_plain_101 hl X hr hex _  _ h
  · replace h := h.2 (fun z => c75 ((b2_0 _).mpr z))
    refine L_iload_n (pc := 78) X d_X13_plain_78 rfl 2 rfl ?_
    refine L_iload_n (pc := 79) X d_X13_plain_79 rfl 0 rfl ?_
    refine L_icmp_ge (pc := 80) (tgt := 87) X d_X13_plain_80 (by decide) (fun c80 => ?_) (fun c80 => ?_)
    · replace h := h.1 c80
      refine L_iconst (pc := 87) (v := 0) X d_X13_plain_87 (by decide) ?_
      refine L_goto (pc := 88) (tgt := 101) X d_X13_plain_88 (by decide) ?_
      refine LW.sub [] rfl ?_
      exact T_X13_plain_101 hl X hr hex _  _ h
    · replace h := h.2 c80
      refine L_iconst (pc := 83) (v := 1) X d_X13_plain_83 (by decide) ?_
      refine L_goto (pc := 84) (tgt := 101) X d_X13_plain_84 (by decide) ?_
      refine LW.sub [] rfl ?_
      exact T_X13_plain_101 hl X hr hex _  _ h
set_option maxHeartbeats 4000000 in
set_option maxRecDepth 100000 in
theorem c_X13_plain (hl : l.stackTraces = false) {mm : (Nat → Nat → Int32)} {post : Bool → (Nat → Nat → Int32) → Prop} (h : w_X13_plain post mm) : CT l yX13_plain (.code yX13_plain cX13_plain 4 (some .boolean)) rm_X13_plain 0 0 G ρ [.ref 703] (cm, mm, oo) (PZ (fun u => (cm, u, oo)) post) noX := by
  refine CT_of hl (by decide +kernel) rfl (Nat.le_of_ble_eq_true rfl) (lv0 := [(0, .ref 703)]) rfl (fun p e s m args below meth c A X hr hex hnm => ?_)
  unfold w_X13_plain at h
  refine L_aload_n (pc := 0) X d_X13_plain_0 rfl 0 rfl ?_
  refine L_ldcS (pc := 1) (i := 14) X (by decide) d_X13_plain_1 ?_
  refine L_callVZ (pc := 3) X lk_X13_89 (c_X13_has X.hst (by decide) h) rfl rfl kd_703 (by decide) rfl rfl ⟨by decide, by decide⟩ ⟨by decide, by decide⟩ (Nat.zero_le _) d_X13_plain_3 rfl (fun x κ1 hx => L_nox hx) (fun r1 u2 h => ?_)
  refine L_if_eq (pc := 6) (tgt := 14) X d_X13_plain_6 (by decide) (fun c6 => ?_) (fun c6 => ?_)
  · replace h := h.1 ((b2_0 _).mp c6)
    refine L_aload_n (pc := 14) X d_X13_plain_14 rfl 0 rfl ?_
    refine L_callVI (pc := 15) X lk_X13_152 (c_X13_sum X.hst  h) rfl rfl kd_703 (by decide) rfl rfl ⟨by decide, by decide⟩ ⟨by decide, by decide⟩ (Nat.zero_le _) d_X13_plain_15 rfl (fun x κ1 hx => L_nox hx) (fun r3 u4 h => ?_)
    refine L_istore_n (pc := 18) (lv2 := [(1, .int r3), (0, .ref 703)]) X d_X13_plain_18 rfl (by decide) rfl ?_
    refine L_aload_n (pc := 19) X d_X13_plain_19 rfl 1 rfl ?_
    refine gf_X13_22 (pc := 20) X d_X13_plain_20 ?_
    refine L_iconst (pc := 23) (v := (-1)) X d_X13_plain_23 (by decide) ?_
    refine L_icmp_eq (pc := 24) (tgt := 29) X d_X13_plain_24 (by decide) (fun c24 => ?_) (fun c24 => ?_)
    · replace h := h.1 c24
      refine L_aload_n (pc := 29) X d_X13_plain_29 rfl 1 rfl ?_
      refine L_bipush (pc := 30) (v := 60) X d_X13_plain_30 (by decide) ?_
      refine L_callVZ (pc := 32) X lk_X13_118 (c_X13_isSign X.hst  h) rfl rfl kd_703 (by decide) rfl rfl ⟨by decide, by decide⟩ ⟨by decide, by decide⟩ (Nat.zero_le _) d_X13_plain_32 rfl (fun x κ1 hx => L_nox hx) (fun r5 u6 h => ?_)
      refine L_istore_n (pc := 35) (lv2 := [(2, .int (b2 r5)), (1, .int r3), (0, .ref 703)]) X d_X13_plain_35 rfl (by decide) rfl ?_
      refine L_iload_n (pc := 36) X d_X13_plain_36 rfl 0 rfl ?_
      refine L_if_ne (pc := 37) (tgt := 59) X d_X13_plain_37 (by decide) (fun c37 => ?_) (fun c37 => ?_)
      · replace h := h.1 (fun z => c37 ((b2_0 _).mpr z))
        refine LW.sub [2, 1, 0] rfl ?_
        exact T_X13_plain_59 hl X hr hex _ _  _ h
      · replace h := h.2 ((b2_0 _).mp c37)
        refine L_aload_n (pc := 40) X d_X13_plain_40 rfl 2 rfl ?_
        refine L_bipush (pc := 41) (v := 62) X d_X13_plain_41 (by decide) ?_
        refine L_callVZ (pc := 43) X lk_X13_118 (c_X13_isSign X.hst  h) rfl rfl kd_703 (by decide) rfl rfl ⟨by decide, by decide⟩ ⟨by decide, by decide⟩ (Nat.zero_le _) d_X13_plain_43 rfl (fun x κ1 hx => L_nox hx) (fun r7 u8 h => ?_)
        refine L_if_ne (pc := 46) (tgt := 59) X d_X13_plain_46 (by decide) (fun c46 => ?_) (fun c46 => ?_)
        · replace h := h.1 (fun z => c46 ((b2_0 _).mpr z))
          refine LW.sub [2, 1, 0] rfl ?_
          exact T_X13_plain_59 hl X hr hex _ _  _ h
        · replace h := h.2 ((b2_0 _).mp c46)
          refine L_aload_n (pc := 49) X d_X13_plain_49 rfl 2 rfl ?_
          refine L_aload_n (pc := 50) X d_X13_plain_50 rfl 2 rfl ?_
          refine gf_X13_60 (pc := 51) X d_X13_plain_51 ?_
          refine L_callVV (pc := 54) X lk_X13_83 (c_X13_wrong X.hst  h) rfl rfl kd_703 (by decide) rfl rfl ⟨by decide, by decide⟩ ⟨by decide, by decide⟩ (Nat.zero_le _) d_X13_plain_54 rfl (fun x κ1 hx => L_nox hx) (fun u10 h => ?_)
          refine L_iconst (pc := 57) (v := 0) X d_X13_plain_57 (by decide) ?_
          exact L_zretB (pc := 58) X hr d_X13_plain_58 false rfl (by decide) (by decide) ⟨_, _, rfl, rfl, h⟩
    · replace h := h.2 c24
      refine L_iconst (pc := 27) (v := 0) X d_X13_plain_27 (by decide) ?_
      exact L_zretB (pc := 28) X hr d_X13_plain_28 false rfl (by decide) (by decide) ⟨_, _, rfl, rfl, h⟩
  · replace h := h.2 (fun z => c6 ((b2_0 _).mpr z))
    refine L_aload_n (pc := 9) X d_X13_plain_9 rfl 0 rfl ?_
    refine L_callVZ (pc := 10) X lk_X13_148 (c_X13_isFrost X.hst  h) rfl rfl kd_703 (by decide) rfl rfl ⟨by decide, by decide⟩ ⟨by decide, by decide⟩ (Nat.zero_le _) d_X13_plain_10 rfl (fun x κ1 hx => L_nox hx) (fun r11 u12 h => ?_)
    exact L_zretB (pc := 13) X hr d_X13_plain_13 r11 rfl (by decide) (by decide) ⟨_, _, rfl, rfl, h⟩
end G_X13_plain
abbrev rmG_some (d : Nat) : Room := { frames := d + 8, cells := 0, slots := 0, locals := d * 23 + 173 }
theorem yk_X13_every : yX13_every.cls = RX13 ∧ yX13_every.cls ≠ "java/lang/invoke/MethodHandle" ∧ yX13_every.cls ≠ "java/lang/invoke/VarHandle" ∧ (parseMethodDescriptor yX13_every.desc).map (fun d => d.parameters.length) = some 0 := by decide +kernel
theorem lk_X13_168 : LinkV RX13 168 RX13 yX13_every (.code yX13_every cX13_every 3 (some .boolean)) 0 := ⟨tw_1415, tw_1417, tw_48, tw_83, tw_1418, yk_X13_every⟩
theorem d_X13_some_0 : decode cX13_some 0 = .ok (.aload_n 0, 1) := by decide +kernel
theorem d_X13_some_1 : decode cX13_some 1 = .ok (.invokevirtual 168, 3) := by decide +kernel
theorem d_X13_some_4 : decode cX13_some 4 = .ok (.istore_n 1, 1) := by decide +kernel
theorem d_X13_some_5 : decode cX13_some 5 = .ok (.aload_n 0, 1) := by decide +kernel
theorem d_X13_some_6 : decode cX13_some 6 = .ok (.getfield 22, 3) := by decide +kernel
theorem d_X13_some_9 : decode cX13_some 9 = .ok (.iconst (-1), 1) := by decide +kernel
theorem d_X13_some_10 : decode cX13_some 10 = .ok (.if_icmp .ne 34, 3) := by decide +kernel
theorem d_X13_some_13 : decode cX13_some 13 = .ok (.aload_n 0, 1) := by decide +kernel
theorem d_X13_some_14 : decode cX13_some 14 = .ok (.ldc 171, 2) := by decide +kernel
theorem d_X13_some_16 : decode cX13_some 16 = .ok (.invokevirtual 89, 3) := by decide +kernel
theorem d_X13_some_19 : decode cX13_some 19 = .ok (.ifCond .eq 25, 3) := by decide +kernel
theorem d_X13_some_22 : decode cX13_some 22 = .ok (.aload_n 0, 1) := by decide +kernel
theorem d_X13_some_23 : decode cX13_some 23 = .ok (.invokevirtual 168, 3) := by decide +kernel
theorem d_X13_some_26 : decode cX13_some 26 = .ok (.istore_n 2, 1) := by decide +kernel
theorem d_X13_some_27 : decode cX13_some 27 = .ok (.iload_n 1, 1) := by decide +kernel
theorem d_X13_some_28 : decode cX13_some 28 = .ok (.ifCond .ne 7, 3) := by decide +kernel
theorem d_X13_some_31 : decode cX13_some 31 = .ok (.iload_n 2, 1) := by decide +kernel
theorem d_X13_some_32 : decode cX13_some 32 = .ok (.ifCond .eq 7, 3) := by decide +kernel
theorem d_X13_some_35 : decode cX13_some 35 = .ok (.iconst 1, 1) := by decide +kernel
theorem d_X13_some_36 : decode cX13_some 36 = .ok (.goto 4, 3) := by decide +kernel
theorem d_X13_some_39 : decode cX13_some 39 = .ok (.iconst 0, 1) := by decide +kernel
theorem d_X13_some_40 : decode cX13_some 40 = .ok (.istore_n 1, 1) := by decide +kernel
theorem d_X13_some_41 : decode cX13_some 41 = .ok (.goto (-36), 3) := by decide +kernel
theorem d_X13_some_44 : decode cX13_some 44 = .ok (.iload_n 1, 1) := by decide +kernel
theorem d_X13_some_45 : decode cX13_some 45 = .ok (.ireturn, 1) := by decide +kernel
def B_X13_some_44 (r_X13_some : (Bool → (Nat → Nat → Int32) → Prop) → (Nat → Nat → Int32) → Prop) (r_X13_every : (Bool → (Nat → Nat → Int32) → Prop) → (Nat → Nat → Int32) → Prop) (r_X13_atom : (Bool → (Nat → Nat → Int32) → Prop) → (Nat → Nat → Int32) → Prop) (post : Bool → (Nat → Nat → Int32) → Prop) (v1 : Bool) (mm : (Nat → Nat → Int32)) : Prop := post v1 mm
def B_X13_some_40 (r_X13_some : (Bool → (Nat → Nat → Int32) → Prop) → (Nat → Nat → Int32) → Prop) (r_X13_every : (Bool → (Nat → Nat → Int32) → Prop) → (Nat → Nat → Int32) → Prop) (r_X13_atom : (Bool → (Nat → Nat → Int32) → Prop) → (Nat → Nat → Int32) → Prop) (post : Bool → (Nat → Nat → Int32) → Prop) (k5 : Bool → (Nat → Nat → Int32) → Prop) (s0 : Bool) (mm : (Nat → Nat → Int32)) : Prop := k5 s0 mm
def B_X13_some_35 (r_X13_some : (Bool → (Nat → Nat → Int32) → Prop) → (Nat → Nat → Int32) → Prop) (r_X13_every : (Bool → (Nat → Nat → Int32) → Prop) → (Nat → Nat → Int32) → Prop) (r_X13_atom : (Bool → (Nat → Nat → Int32) → Prop) → (Nat → Nat → Int32) → Prop) (post : Bool → (Nat → Nat → Int32) → Prop) (k5 : Bool → (Nat → Nat → Int32) → Prop) (mm : (Nat → Nat → Int32)) : Prop := B_X13_some_40 r_X13_some r_X13_every r_X13_atom post k5 true mm
def B_X13_some_5 (r_X13_some : (Bool → (Nat → Nat → Int32) → Prop) → (Nat → Nat → Int32) → Prop) (r_X13_every : (Bool → (Nat → Nat → Int32) → Prop) → (Nat → Nat → Int32) → Prop) (r_X13_atom : (Bool → (Nat → Nat → Int32) → Prop) → (Nat → Nat → Int32) → Prop) (post : Bool → (Nat → Nat → Int32) → Prop) : Nat → Bool → (Nat → Nat → Int32) → Prop
  | 0 => fun _ _ => False
  | n + 1 => fun v1 mm => (¬ (mm 0 10) = (-1) → (B_X13_some_44 r_X13_some r_X13_every r_X13_atom post v1 mm)) ∧ ((mm 0 10) = (-1) → (w_X13_has (fun (r3 : Bool) (u4 : (Nat → Nat → Int32)) => ((r3 = false) → (B_X13_some_44 r_X13_some r_X13_every r_X13_atom post v1 u4)) ∧ (¬ (r3 = false) → (r_X13_every (fun (r5 : Bool) (u6 : (Nat → Nat → Int32)) => (¬ (v1 = false) → (B_X13_some_35 r_X13_some r_X13_every r_X13_atom post (B_X13_some_5 r_X13_some r_X13_every r_X13_atom post n) u6)) ∧ ((v1 = false) → (((r5 = false) → (B_X13_some_40 r_X13_some r_X13_every r_X13_atom post (B_X13_some_5 r_X13_some r_X13_every r_X13_atom post n) false u6)) ∧ (¬ (r5 = false) → (B_X13_some_35 r_X13_some r_X13_every r_X13_atom post (B_X13_some_5 r_X13_some r_X13_every r_X13_atom post n) u6)))))  u4))) 24 mm))
def wb_X13_some (r_X13_some : (Bool → (Nat → Nat → Int32) → Prop) → (Nat → Nat → Int32) → Prop) (r_X13_every : (Bool → (Nat → Nat → Int32) → Prop) → (Nat → Nat → Int32) → Prop) (r_X13_atom : (Bool → (Nat → Nat → Int32) → Prop) → (Nat → Nat → Int32) → Prop) (post : Bool → (Nat → Nat → Int32) → Prop) (mm : (Nat → Nat → Int32)) : Prop := r_X13_every (fun (r1 : Bool) (u2 : (Nat → Nat → Int32)) => ∃ n5, B_X13_some_5 r_X13_some r_X13_every r_X13_atom post n5 r1 u2)  mm
section G_X13_some
variable {p : Program} {l : Launch} {e : Env} {s : State} {m : MethodId} {args : Array Value} {below : List Frame} {meth : Method} {c : Code} {G : Gd} {ρ : Nat → Nat} {A : Nat → Prop} {cm : CMu} {oo : Nat → Int64}
set_option maxHeartbeats 4000000 in
set_option maxRecDepth 100000 in
theorem T_X13_some_44 {d : Nat} {r_X13_some : (Bool → (Nat → Nat → Int32) → Prop) → (Nat → Nat → Int32) → Prop} {r_X13_every : (Bool → (Nat → Nat → Int32) → Prop) → (Nat → Nat → Int32) → Prop} {r_X13_atom : (Bool → (Nat → Nat → Int32) → Prop) → (Nat → Nat → Int32) → Prop} {post : Bool → (Nat → Nat → Int32) → Prop} (hl : l.stackTraces = false)
    (hg_X13_some : ∀ (mm : (Nat → Nat → Int32)) {post : Bool → (Nat → Nat → Int32) → Prop}, r_X13_some post mm → CT l yX13_some (.code yX13_some cX13_some 3 (some .boolean)) (rmG_some d) 0 0 G ρ [.ref 703] (cm, mm, oo) (PZ (fun u => (cm, u, oo)) post) noX)
    (hg_X13_every : ∀ (mm : (Nat → Nat → Int32)) {post : Bool → (Nat → Nat → Int32) → Prop}, r_X13_every post mm → CT l yX13_every (.code yX13_every cX13_every 3 (some .boolean)) (rmG_some d) 0 0 G ρ [.ref 703] (cm, mm, oo) (PZ (fun u => (cm, u, oo)) post) noX)
    (hg_X13_atom : ∀ (mm : (Nat → Nat → Int32)) {post : Bool → (Nat → Nat → Int32) → Prop}, r_X13_atom post mm → CT l yX13_atom (.code yX13_atom cX13_atom 4 (some .boolean)) (rmG_some d) 0 0 G ρ [.ref 703] (cm, mm, oo) (PZ (fun u => (cm, u, oo)) post) noX) (X : MC p l s m args meth c cX13_some 3 RX13 G ρ A) (hr : meth.sig.returnType = (some .boolean)) (hex : ∀ z ∈ c.exceptionTable.toList, False) : ∀ (v1 : Bool) (mm : (Nat → Nat → Int32)), B_X13_some_44 r_X13_some r_X13_every r_X13_atom post v1 mm → LW p l e (rmG_some (d + 1)) s m args below meth c (Qm below G ρ A (PZ (fun u => (cm, u, oo)) post) noX args s 0 0) G ρ A 3 0 0 44 [(1, .int (b2 v1))] [] (cm, mm, oo) := by
  intro v1 mm h
  unfold B_X13_some_44 at h
  refine L_iload_n (pc := 44) X d_X13_some_44 rfl 0 rfl ?_
  exact L_zretB (pc := 45) X hr d_X13_some_45 v1 rfl (by decide) (by decide) ⟨_, _, rfl, rfl, h⟩
set_option maxHeartbeats 4000000 in
set_option maxRecDepth 100000 in
theorem T_X13_some_40 {d : Nat} {r_X13_some : (Bool → (Nat → Nat → Int32) → Prop) → (Nat → Nat → Int32) → Prop} {r_X13_every : (Bool → (Nat → Nat → Int32) → Prop) → (Nat → Nat → Int32) → Prop} {r_X13_atom : (Bool → (Nat → Nat → Int32) → Prop) → (Nat → Nat → Int32) → Prop} {post : Bool → (Nat → Nat → Int32) → Prop} {k5 : Bool → (Nat → Nat → Int32) → Prop} (hl : l.stackTraces = false)
    (hg_X13_some : ∀ (mm : (Nat → Nat → Int32)) {post : Bool → (Nat → Nat → Int32) → Prop}, r_X13_some post mm → CT l yX13_some (.code yX13_some cX13_some 3 (some .boolean)) (rmG_some d) 0 0 G ρ [.ref 703] (cm, mm, oo) (PZ (fun u => (cm, u, oo)) post) noX)
    (hg_X13_every : ∀ (mm : (Nat → Nat → Int32)) {post : Bool → (Nat → Nat → Int32) → Prop}, r_X13_every post mm → CT l yX13_every (.code yX13_every cX13_every 3 (some .boolean)) (rmG_some d) 0 0 G ρ [.ref 703] (cm, mm, oo) (PZ (fun u => (cm, u, oo)) post) noX)
    (hg_X13_atom : ∀ (mm : (Nat → Nat → Int32)) {post : Bool → (Nat → Nat → Int32) → Prop}, r_X13_atom post mm → CT l yX13_atom (.code yX13_atom cX13_atom 4 (some .boolean)) (rmG_some d) 0 0 G ρ [.ref 703] (cm, mm, oo) (PZ (fun u => (cm, u, oo)) post) noX) (X : MC p l s m args meth c cX13_some 3 RX13 G ρ A) (hr : meth.sig.returnType = (some .boolean)) (hex : ∀ z ∈ c.exceptionTable.toList, False)
    (hk5 : ∀ (v1 : Bool) (mm : (Nat → Nat → Int32)), k5 v1 mm → LW p l e (rmG_some (d + 1)) s m args below meth c (Qm below G ρ A (PZ (fun u => (cm, u, oo)) post) noX args s 0 0) G ρ A 3 0 0 5 [(0, .ref 703), (1, .int (b2 v1))] [] (cm, mm, oo)) : ∀ (s0 : Bool) (mm : (Nat → Nat → Int32)), B_X13_some_40 r_X13_some r_X13_every r_X13_atom post k5 s0 mm → LW p l e (rmG_some (d + 1)) s m args below meth c (Qm below G ρ A (PZ (fun u => (cm, u, oo)) post) noX args s 0 0) G ρ A 3 0 0 40 [(0, .ref 703)] [.int (b2 s0)] (cm, mm, oo) := by
  intro s0 mm h
  unfold B_X13_some_40 at h
  refine L_istore_n (pc := 40) (lv2 := [(1, .int (b2 s0)), (0, .ref 703)]) X d_X13_some_40 rfl (by decide) rfl ?_
  refine L_goto (pc := 41) (tgt := 5) X d_X13_some_41 (by decide) ?_
  refine LW.sub [1, 0] rfl ?_
  exact hk5 _  _ h
set_option maxHeartbeats 4000000 in
set_option maxRecDepth 100000 in
theorem T_X13_some_35 {d : Nat} {r_X13_some : (Bool → (Nat → Nat → Int32) → Prop) → (Nat → Nat → Int32) → Prop} {r_X13_every : (Bool → (Nat → Nat → Int32) → Prop) → (Nat → Nat → Int32) → Prop} {r_X13_atom : (Bool → (Nat → Nat → Int32) → Prop) → (Nat → Nat → Int32) → Prop} {post : Bool → (Nat → Nat → Int32) → Prop} {k5 : Bool → (Nat → Nat → Int32) → Prop} (hl : l.stackTraces = false)
    (hg_X13_some : ∀ (mm : (Nat → Nat → Int32)) {post : Bool → (Nat → Nat → Int32) → Prop}, r_X13_some post mm → CT l yX13_some (.code yX13_some cX13_some 3 (some .boolean)) (rmG_some d) 0 0 G ρ [.ref 703] (cm, mm, oo) (PZ (fun u => (cm, u, oo)) post) noX)
    (hg_X13_every : ∀ (mm : (Nat → Nat → Int32)) {post : Bool → (Nat → Nat → Int32) → Prop}, r_X13_every post mm → CT l yX13_every (.code yX13_every cX13_every 3 (some .boolean)) (rmG_some d) 0 0 G ρ [.ref 703] (cm, mm, oo) (PZ (fun u => (cm, u, oo)) post) noX)
    (hg_X13_atom : ∀ (mm : (Nat → Nat → Int32)) {post : Bool → (Nat → Nat → Int32) → Prop}, r_X13_atom post mm → CT l yX13_atom (.code yX13_atom cX13_atom 4 (some .boolean)) (rmG_some d) 0 0 G ρ [.ref 703] (cm, mm, oo) (PZ (fun u => (cm, u, oo)) post) noX) (X : MC p l s m args meth c cX13_some 3 RX13 G ρ A) (hr : meth.sig.returnType = (some .boolean)) (hex : ∀ z ∈ c.exceptionTable.toList, False)
    (hk5 : ∀ (v1 : Bool) (mm : (Nat → Nat → Int32)), k5 v1 mm → LW p l e (rmG_some (d + 1)) s m args below meth c (Qm below G ρ A (PZ (fun u => (cm, u, oo)) post) noX args s 0 0) G ρ A 3 0 0 5 [(0, .ref 703), (1, .int (b2 v1))] [] (cm, mm, oo)) : ∀ (mm : (Nat → Nat → Int32)), B_X13_some_35 r_X13_some r_X13_every r_X13_atom post k5 mm → LW p l e (rmG_some (d + 1)) s m args below meth c (Qm below G ρ A (PZ (fun u => (cm, u, oo)) post) noX args s 0 0) G ρ A 3 0 0 35 [(0, .ref 703)] [] (cm, mm, oo) := by
  intro mm h
  unfold B_X13_some_35 at h
  refine L_iconst (pc := 35) (v := 1) X d_X13_some_35 (by decide) ?_
  refine L_goto (pc := 36) (tgt := 40) X d_X13_some_36 (by decide) ?_
  refine LW.sub [0] rfl ?_
  exact T_X13_some_40 hl hg_X13_some hg_X13_every hg_X13_atom X hr hex hk5 _  _ h
set_option maxHeartbeats 4000000 in
set_option maxRecDepth 100000 in
theorem T_X13_some_5 {d : Nat} {r_X13_some : (Bool → (Nat → Nat → Int32) → Prop) → (Nat → Nat → Int32) → Prop} {r_X13_every : (Bool → (Nat → Nat → Int32) → Prop) → (Nat → Nat → Int32) → Prop} {r_X13_atom : (Bool → (Nat → Nat → Int32) → Prop) → (Nat → Nat → Int32) → Prop} {post : Bool → (Nat → Nat → Int32) → Prop} (hl : l.stackTraces = false)
    (hg_X13_some : ∀ (mm : (Nat → Nat → Int32)) {post : Bool → (Nat → Nat → Int32) → Prop}, r_X13_some post mm → CT l yX13_some (.code yX13_some cX13_some 3 (some .boolean)) (rmG_some d) 0 0 G ρ [.ref 703] (cm, mm, oo) (PZ (fun u => (cm, u, oo)) post) noX)
    (hg_X13_every : ∀ (mm : (Nat → Nat → Int32)) {post : Bool → (Nat → Nat → Int32) → Prop}, r_X13_every post mm → CT l yX13_every (.code yX13_every cX13_every 3 (some .boolean)) (rmG_some d) 0 0 G ρ [.ref 703] (cm, mm, oo) (PZ (fun u => (cm, u, oo)) post) noX)
    (hg_X13_atom : ∀ (mm : (Nat → Nat → Int32)) {post : Bool → (Nat → Nat → Int32) → Prop}, r_X13_atom post mm → CT l yX13_atom (.code yX13_atom cX13_atom 4 (some .boolean)) (rmG_some d) 0 0 G ρ [.ref 703] (cm, mm, oo) (PZ (fun u => (cm, u, oo)) post) noX) (X : MC p l s m args meth c cX13_some 3 RX13 G ρ A) (hr : meth.sig.returnType = (some .boolean)) (hex : ∀ z ∈ c.exceptionTable.toList, False) (n : Nat) : ∀ (v1 : Bool) (mm : (Nat → Nat → Int32)), B_X13_some_5 r_X13_some r_X13_every r_X13_atom post n v1 mm → LW p l e (rmG_some (d + 1)) s m args below meth c (Qm below G ρ A (PZ (fun u => (cm, u, oo)) post) noX args s 0 0) G ρ A 3 0 0 5 [(0, .ref 703), (1, .int (b2 v1))] [] (cm, mm, oo) := by
  induction n with
  | zero =>
    intro v1 mm h
    exact False.elim h
  | succ n ih =>
    intro v1 mm h
    unfold B_X13_some_5 at h
    refine L_aload_n (pc := 5) X d_X13_some_5 rfl 0 rfl ?_
    refine gf_X13_22 (pc := 6) X d_X13_some_6 ?_
    refine L_iconst (pc := 9) (v := (-1)) X d_X13_some_9 (by decide) ?_
    refine L_icmp_ne (pc := 10) (tgt := 44) X d_X13_some_10 (by decide) (fun c10 => ?_) (fun c10 => ?_)
    · replace h := h.1 c10
      refine LW.sub [1] rfl ?_
      exact T_X13_some_44 hl hg_X13_some hg_X13_every hg_X13_atom X hr hex _  _ h
    · replace h := h.2 c10
      refine L_aload_n (pc := 13) X d_X13_some_13 rfl 0 rfl ?_
      refine L_ldcS (pc := 14) (i := 24) X (by decide) d_X13_some_14 ?_
      refine L_callVZ (pc := 16) X lk_X13_89 (c_X13_has X.hst (by decide) h) rfl rfl kd_703 (by decide) rfl rfl ⟨Nat.le_trans (m := 8) (Nat.le_of_ble_eq_true rfl) (by show 8 ≤ d + 1 + 8; omega), Nat.le_trans (m := 173) (Nat.le_of_ble_eq_true rfl) (by show 173 ≤ (d + 1) * 23 + 173; omega)⟩ ⟨Nat.le_of_ble_eq_true rfl, Nat.le_of_ble_eq_true rfl⟩ (Nat.zero_le _) d_X13_some_16 rfl (fun x κ1 hx => L_nox hx) (fun r3 u4 h => ?_)
      refine L_if_eq (pc := 19) (tgt := 44) X d_X13_some_19 (by decide) (fun c19 => ?_) (fun c19 => ?_)
      · replace h := h.1 ((b2_0 _).mp c19)
        refine LW.sub [1] rfl ?_
        exact T_X13_some_44 hl hg_X13_some hg_X13_every hg_X13_atom X hr hex _  _ h
      · replace h := h.2 (fun z => c19 ((b2_0 _).mpr z))
        refine L_aload_n (pc := 22) X d_X13_some_22 rfl 0 rfl ?_
        refine L_callVZ (pc := 23) X lk_X13_168 (hg_X13_every   _ h) rfl rfl kd_703 (by decide) rfl rfl ⟨by show d + 8 + 1 ≤ d + 1 + 8; omega, by show 8 + (3 + 11) + (d * 23 + 173) ≤ (d + 1) * 23 + 173; omega⟩ ⟨Nat.le_of_ble_eq_true rfl, Nat.le_of_ble_eq_true rfl⟩ (Nat.zero_le _) d_X13_some_23 rfl (fun x κ1 hx => L_nox hx) (fun r5 u6 h => ?_)
        refine L_istore_n (pc := 26) (lv2 := [(2, .int (b2 r5)), (0, .ref 703), (1, .int (b2 v1))]) X d_X13_some_26 rfl (by decide) rfl ?_
        refine L_iload_n (pc := 27) X d_X13_some_27 rfl 2 rfl ?_
        refine L_if_ne (pc := 28) (tgt := 35) X d_X13_some_28 (by decide) (fun c28 => ?_) (fun c28 => ?_)
        · replace h := h.1 (fun z => c28 ((b2_0 _).mpr z))
          refine LW.sub [1] rfl ?_
          exact T_X13_some_35 hl hg_X13_some hg_X13_every hg_X13_atom X hr hex ih   _ h
        · replace h := h.2 ((b2_0 _).mp c28)
          refine L_iload_n (pc := 31) X d_X13_some_31 rfl 0 rfl ?_
          refine L_if_eq (pc := 32) (tgt := 39) X d_X13_some_32 (by decide) (fun c32 => ?_) (fun c32 => ?_)
          · replace h := h.1 ((b2_0 _).mp c32)
            refine L_iconst (pc := 39) (v := 0) X d_X13_some_39 (by decide) ?_
            refine LW.sub [1] rfl ?_
            exact T_X13_some_40 hl hg_X13_some hg_X13_every hg_X13_atom X hr hex ih _  _ h
          · replace h := h.2 (fun z => c32 ((b2_0 _).mpr z))
            refine LW.sub [1] rfl ?_
            exact T_X13_some_35 hl hg_X13_some hg_X13_every hg_X13_atom X hr hex ih   _ h
set_option maxHeartbeats 4000000 in
set_option maxRecDepth 100000 in
theorem cb_X13_some {d : Nat} {r_X13_some : (Bool → (Nat → Nat → Int32) → Prop) → (Nat → Nat → Int32) → Prop} {r_X13_every : (Bool → (Nat → Nat → Int32) → Prop) → (Nat → Nat → Int32) → Prop} {r_X13_atom : (Bool → (Nat → Nat → Int32) → Prop) → (Nat → Nat → Int32) → Prop} (hl : l.stackTraces = false)
    (hg_X13_some : ∀ (mm : (Nat → Nat → Int32)) {post : Bool → (Nat → Nat → Int32) → Prop}, r_X13_some post mm → CT l yX13_some (.code yX13_some cX13_some 3 (some .boolean)) (rmG_some d) 0 0 G ρ [.ref 703] (cm, mm, oo) (PZ (fun u => (cm, u, oo)) post) noX)
    (hg_X13_every : ∀ (mm : (Nat → Nat → Int32)) {post : Bool → (Nat → Nat → Int32) → Prop}, r_X13_every post mm → CT l yX13_every (.code yX13_every cX13_every 3 (some .boolean)) (rmG_some d) 0 0 G ρ [.ref 703] (cm, mm, oo) (PZ (fun u => (cm, u, oo)) post) noX)
    (hg_X13_atom : ∀ (mm : (Nat → Nat → Int32)) {post : Bool → (Nat → Nat → Int32) → Prop}, r_X13_atom post mm → CT l yX13_atom (.code yX13_atom cX13_atom 4 (some .boolean)) (rmG_some d) 0 0 G ρ [.ref 703] (cm, mm, oo) (PZ (fun u => (cm, u, oo)) post) noX) {mm : (Nat → Nat → Int32)} {post : Bool → (Nat → Nat → Int32) → Prop} (h : wb_X13_some r_X13_some r_X13_every r_X13_atom post mm) : CT l yX13_some (.code yX13_some cX13_some 3 (some .boolean)) (rmG_some (d + 1)) 0 0 G ρ [.ref 703] (cm, mm, oo) (PZ (fun u => (cm, u, oo)) post) noX := by
  refine CT_of hl (by decide +kernel) rfl (Nat.le_of_ble_eq_true rfl) (lv0 := [(0, .ref 703)]) rfl (fun p e s m args below meth c A X hr hex hnm => ?_)
  unfold wb_X13_some at h
  refine L_aload_n (pc := 0) X d_X13_some_0 rfl 0 rfl ?_
  refine L_callVZ (pc := 1) X lk_X13_168 (hg_X13_every   _ h) rfl rfl kd_703 (by decide) rfl rfl ⟨by show d + 8 + 1 ≤ d + 1 + 8; omega, by show 8 + (3 + 11) + (d * 23 + 173) ≤ (d + 1) * 23 + 173; omega⟩ ⟨Nat.le_of_ble_eq_true rfl, Nat.le_of_ble_eq_true rfl⟩ (Nat.zero_le _) d_X13_some_1 rfl (fun x κ1 hx => L_nox hx) (fun r1 u2 h => ?_)
  refine L_istore_n (pc := 4) (lv2 := [(1, .int (b2 r1)), (0, .ref 703)]) X d_X13_some_4 rfl (by decide) rfl ?_
  obtain ⟨n5, h⟩ := h
  refine LW.sub [1, 0] rfl ?_
  exact T_X13_some_5 hl hg_X13_some hg_X13_every hg_X13_atom X hr hex n5 _  _ h
end G_X13_some
theorem yk_X13_atom : yX13_atom.cls = RX13 ∧ yX13_atom.cls ≠ "java/lang/invoke/MethodHandle" ∧ yX13_atom.cls ≠ "java/lang/invoke/VarHandle" ∧ (parseMethodDescriptor yX13_atom.desc).map (fun d => d.parameters.length) = some 0 := by decide +kernel
theorem lk_X13_160 : LinkV RX13 160 RX13 yX13_atom (.code yX13_atom cX13_atom 4 (some .boolean)) 0 := ⟨tw_1419, tw_1421, tw_49, tw_83, tw_1422, yk_X13_atom⟩
theorem d_X13_every_0 : decode cX13_every 0 = .ok (.aload_n 0, 1) := by decide +kernel
theorem d_X13_every_1 : decode cX13_every 1 = .ok (.invokevirtual 160, 3) := by decide +kernel
theorem d_X13_every_4 : decode cX13_every 4 = .ok (.istore_n 1, 1) := by decide +kernel
theorem d_X13_every_5 : decode cX13_every 5 = .ok (.aload_n 0, 1) := by decide +kernel
theorem d_X13_every_6 : decode cX13_every 6 = .ok (.getfield 22, 3) := by decide +kernel
theorem d_X13_every_9 : decode cX13_every 9 = .ok (.iconst (-1), 1) := by decide +kernel
theorem d_X13_every_10 : decode cX13_every 10 = .ok (.if_icmp .ne 34, 3) := by decide +kernel
theorem d_X13_every_13 : decode cX13_every 13 = .ok (.aload_n 0, 1) := by decide +kernel
theorem d_X13_every_14 : decode cX13_every 14 = .ok (.ldc 166, 2) := by decide +kernel
theorem d_X13_every_16 : decode cX13_every 16 = .ok (.invokevirtual 89, 3) := by decide +kernel
theorem d_X13_every_19 : decode cX13_every 19 = .ok (.ifCond .eq 25, 3) := by decide +kernel
theorem d_X13_every_22 : decode cX13_every 22 = .ok (.aload_n 0, 1) := by decide +kernel
theorem d_X13_every_23 : decode cX13_every 23 = .ok (.invokevirtual 160, 3) := by decide +kernel
theorem d_X13_every_26 : decode cX13_every 26 = .ok (.istore_n 2, 1) := by decide +kernel
theorem d_X13_every_27 : decode cX13_every 27 = .ok (.iload_n 1, 1) := by decide +kernel
theorem d_X13_every_28 : decode cX13_every 28 = .ok (.ifCond .eq 11, 3) := by decide +kernel
theorem d_X13_every_31 : decode cX13_every 31 = .ok (.iload_n 2, 1) := by decide +kernel
theorem d_X13_every_32 : decode cX13_every 32 = .ok (.ifCond .eq 7, 3) := by decide +kernel
theorem d_X13_every_35 : decode cX13_every 35 = .ok (.iconst 1, 1) := by decide +kernel
theorem d_X13_every_36 : decode cX13_every 36 = .ok (.goto 4, 3) := by decide +kernel
theorem d_X13_every_39 : decode cX13_every 39 = .ok (.iconst 0, 1) := by decide +kernel
theorem d_X13_every_40 : decode cX13_every 40 = .ok (.istore_n 1, 1) := by decide +kernel
theorem d_X13_every_41 : decode cX13_every 41 = .ok (.goto (-36), 3) := by decide +kernel
theorem d_X13_every_44 : decode cX13_every 44 = .ok (.iload_n 1, 1) := by decide +kernel
theorem d_X13_every_45 : decode cX13_every 45 = .ok (.ireturn, 1) := by decide +kernel
def B_X13_every_44 (r_X13_some : (Bool → (Nat → Nat → Int32) → Prop) → (Nat → Nat → Int32) → Prop) (r_X13_every : (Bool → (Nat → Nat → Int32) → Prop) → (Nat → Nat → Int32) → Prop) (r_X13_atom : (Bool → (Nat → Nat → Int32) → Prop) → (Nat → Nat → Int32) → Prop) (post : Bool → (Nat → Nat → Int32) → Prop) (v1 : Bool) (mm : (Nat → Nat → Int32)) : Prop := post v1 mm
def B_X13_every_40 (r_X13_some : (Bool → (Nat → Nat → Int32) → Prop) → (Nat → Nat → Int32) → Prop) (r_X13_every : (Bool → (Nat → Nat → Int32) → Prop) → (Nat → Nat → Int32) → Prop) (r_X13_atom : (Bool → (Nat → Nat → Int32) → Prop) → (Nat → Nat → Int32) → Prop) (post : Bool → (Nat → Nat → Int32) → Prop) (k5 : Bool → (Nat → Nat → Int32) → Prop) (s0 : Bool) (mm : (Nat → Nat → Int32)) : Prop := k5 s0 mm
def B_X13_every_39 (r_X13_some : (Bool → (Nat → Nat → Int32) → Prop) → (Nat → Nat → Int32) → Prop) (r_X13_every : (Bool → (Nat → Nat → Int32) → Prop) → (Nat → Nat → Int32) → Prop) (r_X13_atom : (Bool → (Nat → Nat → Int32) → Prop) → (Nat → Nat → Int32) → Prop) (post : Bool → (Nat → Nat → Int32) → Prop) (k5 : Bool → (Nat → Nat → Int32) → Prop) (mm : (Nat → Nat → Int32)) : Prop := B_X13_every_40 r_X13_some r_X13_every r_X13_atom post k5 false mm
def B_X13_every_5 (r_X13_some : (Bool → (Nat → Nat → Int32) → Prop) → (Nat → Nat → Int32) → Prop) (r_X13_every : (Bool → (Nat → Nat → Int32) → Prop) → (Nat → Nat → Int32) → Prop) (r_X13_atom : (Bool → (Nat → Nat → Int32) → Prop) → (Nat → Nat → Int32) → Prop) (post : Bool → (Nat → Nat → Int32) → Prop) : Nat → Bool → (Nat → Nat → Int32) → Prop
  | 0 => fun _ _ => False
  | n + 1 => fun v1 mm => (¬ (mm 0 10) = (-1) → (B_X13_every_44 r_X13_some r_X13_every r_X13_atom post v1 mm)) ∧ ((mm 0 10) = (-1) → (w_X13_has (fun (r3 : Bool) (u4 : (Nat → Nat → Int32)) => ((r3 = false) → (B_X13_every_44 r_X13_some r_X13_every r_X13_atom post v1 u4)) ∧ (¬ (r3 = false) → (r_X13_atom (fun (r5 : Bool) (u6 : (Nat → Nat → Int32)) => ((v1 = false) → (B_X13_every_39 r_X13_some r_X13_every r_X13_atom post (B_X13_every_5 r_X13_some r_X13_every r_X13_atom post n) u6)) ∧ (¬ (v1 = false) → (((r5 = false) → (B_X13_every_39 r_X13_some r_X13_every r_X13_atom post (B_X13_every_5 r_X13_some r_X13_every r_X13_atom post n) u6)) ∧ (¬ (r5 = false) → (B_X13_every_40 r_X13_some r_X13_every r_X13_atom post (B_X13_every_5 r_X13_some r_X13_every r_X13_atom post n) true u6)))))  u4))) 25 mm))
def wb_X13_every (r_X13_some : (Bool → (Nat → Nat → Int32) → Prop) → (Nat → Nat → Int32) → Prop) (r_X13_every : (Bool → (Nat → Nat → Int32) → Prop) → (Nat → Nat → Int32) → Prop) (r_X13_atom : (Bool → (Nat → Nat → Int32) → Prop) → (Nat → Nat → Int32) → Prop) (post : Bool → (Nat → Nat → Int32) → Prop) (mm : (Nat → Nat → Int32)) : Prop := r_X13_atom (fun (r1 : Bool) (u2 : (Nat → Nat → Int32)) => ∃ n5, B_X13_every_5 r_X13_some r_X13_every r_X13_atom post n5 r1 u2)  mm
section G_X13_every
variable {p : Program} {l : Launch} {e : Env} {s : State} {m : MethodId} {args : Array Value} {below : List Frame} {meth : Method} {c : Code} {G : Gd} {ρ : Nat → Nat} {A : Nat → Prop} {cm : CMu} {oo : Nat → Int64}
set_option maxHeartbeats 4000000 in
set_option maxRecDepth 100000 in
theorem T_X13_every_44 {d : Nat} {r_X13_some : (Bool → (Nat → Nat → Int32) → Prop) → (Nat → Nat → Int32) → Prop} {r_X13_every : (Bool → (Nat → Nat → Int32) → Prop) → (Nat → Nat → Int32) → Prop} {r_X13_atom : (Bool → (Nat → Nat → Int32) → Prop) → (Nat → Nat → Int32) → Prop} {post : Bool → (Nat → Nat → Int32) → Prop} (hl : l.stackTraces = false)
    (hg_X13_some : ∀ (mm : (Nat → Nat → Int32)) {post : Bool → (Nat → Nat → Int32) → Prop}, r_X13_some post mm → CT l yX13_some (.code yX13_some cX13_some 3 (some .boolean)) (rmG_some d) 0 0 G ρ [.ref 703] (cm, mm, oo) (PZ (fun u => (cm, u, oo)) post) noX)
    (hg_X13_every : ∀ (mm : (Nat → Nat → Int32)) {post : Bool → (Nat → Nat → Int32) → Prop}, r_X13_every post mm → CT l yX13_every (.code yX13_every cX13_every 3 (some .boolean)) (rmG_some d) 0 0 G ρ [.ref 703] (cm, mm, oo) (PZ (fun u => (cm, u, oo)) post) noX)
    (hg_X13_atom : ∀ (mm : (Nat → Nat → Int32)) {post : Bool → (Nat → Nat → Int32) → Prop}, r_X13_atom post mm → CT l yX13_atom (.code yX13_atom cX13_atom 4 (some .boolean)) (rmG_some d) 0 0 G ρ [.ref 703] (cm, mm, oo) (PZ (fun u => (cm, u, oo)) post) noX) (X : MC p l s m args meth c cX13_every 3 RX13 G ρ A) (hr : meth.sig.returnType = (some .boolean)) (hex : ∀ z ∈ c.exceptionTable.toList, False) : ∀ (v1 : Bool) (mm : (Nat → Nat → Int32)), B_X13_every_44 r_X13_some r_X13_every r_X13_atom post v1 mm → LW p l e (rmG_some (d + 1)) s m args below meth c (Qm below G ρ A (PZ (fun u => (cm, u, oo)) post) noX args s 0 0) G ρ A 3 0 0 44 [(1, .int (b2 v1))] [] (cm, mm, oo) := by
  intro v1 mm h
  unfold B_X13_every_44 at h
  refine L_iload_n (pc := 44) X d_X13_every_44 rfl 0 rfl ?_
  exact L_zretB (pc := 45) X hr d_X13_every_45 v1 rfl (by decide) (by decide) ⟨_, _, rfl, rfl, h⟩
set_option maxHeartbeats 4000000 in
set_option maxRecDepth 100000 in
theorem T_X13_every_40 {d : Nat} {r_X13_some : (Bool → (Nat → Nat → Int32) → Prop) → (Nat → Nat → Int32) → Prop} {r_X13_every : (Bool → (Nat → Nat → Int32) → Prop) → (Nat → Nat → Int32) → Prop} {r_X13_atom : (Bool → (Nat → Nat → Int32) → Prop) → (Nat → Nat → Int32) → Prop} {post : Bool → (Nat → Nat → Int32) → Prop} {k5 : Bool → (Nat → Nat → Int32) → Prop} (hl : l.stackTraces = false)
    (hg_X13_some : ∀ (mm : (Nat → Nat → Int32)) {post : Bool → (Nat → Nat → Int32) → Prop}, r_X13_some post mm → CT l yX13_some (.code yX13_some cX13_some 3 (some .boolean)) (rmG_some d) 0 0 G ρ [.ref 703] (cm, mm, oo) (PZ (fun u => (cm, u, oo)) post) noX)
    (hg_X13_every : ∀ (mm : (Nat → Nat → Int32)) {post : Bool → (Nat → Nat → Int32) → Prop}, r_X13_every post mm → CT l yX13_every (.code yX13_every cX13_every 3 (some .boolean)) (rmG_some d) 0 0 G ρ [.ref 703] (cm, mm, oo) (PZ (fun u => (cm, u, oo)) post) noX)
    (hg_X13_atom : ∀ (mm : (Nat → Nat → Int32)) {post : Bool → (Nat → Nat → Int32) → Prop}, r_X13_atom post mm → CT l yX13_atom (.code yX13_atom cX13_atom 4 (some .boolean)) (rmG_some d) 0 0 G ρ [.ref 703] (cm, mm, oo) (PZ (fun u => (cm, u, oo)) post) noX) (X : MC p l s m args meth c cX13_every 3 RX13 G ρ A) (hr : meth.sig.returnType = (some .boolean)) (hex : ∀ z ∈ c.exceptionTable.toList, False)
    (hk5 : ∀ (v1 : Bool) (mm : (Nat → Nat → Int32)), k5 v1 mm → LW p l e (rmG_some (d + 1)) s m args below meth c (Qm below G ρ A (PZ (fun u => (cm, u, oo)) post) noX args s 0 0) G ρ A 3 0 0 5 [(0, .ref 703), (1, .int (b2 v1))] [] (cm, mm, oo)) : ∀ (s0 : Bool) (mm : (Nat → Nat → Int32)), B_X13_every_40 r_X13_some r_X13_every r_X13_atom post k5 s0 mm → LW p l e (rmG_some (d + 1)) s m args below meth c (Qm below G ρ A (PZ (fun u => (cm, u, oo)) post) noX args s 0 0) G ρ A 3 0 0 40 [(0, .ref 703)] [.int (b2 s0)] (cm, mm, oo) := by
  intro s0 mm h
  unfold B_X13_every_40 at h
  refine L_istore_n (pc := 40) (lv2 := [(1, .int (b2 s0)), (0, .ref 703)]) X d_X13_every_40 rfl (by decide) rfl ?_
  refine L_goto (pc := 41) (tgt := 5) X d_X13_every_41 (by decide) ?_
  refine LW.sub [1, 0] rfl ?_
  exact hk5 _  _ h
set_option maxHeartbeats 4000000 in
set_option maxRecDepth 100000 in
theorem T_X13_every_39 {d : Nat} {r_X13_some : (Bool → (Nat → Nat → Int32) → Prop) → (Nat → Nat → Int32) → Prop} {r_X13_every : (Bool → (Nat → Nat → Int32) → Prop) → (Nat → Nat → Int32) → Prop} {r_X13_atom : (Bool → (Nat → Nat → Int32) → Prop) → (Nat → Nat → Int32) → Prop} {post : Bool → (Nat → Nat → Int32) → Prop} {k5 : Bool → (Nat → Nat → Int32) → Prop} (hl : l.stackTraces = false)
    (hg_X13_some : ∀ (mm : (Nat → Nat → Int32)) {post : Bool → (Nat → Nat → Int32) → Prop}, r_X13_some post mm → CT l yX13_some (.code yX13_some cX13_some 3 (some .boolean)) (rmG_some d) 0 0 G ρ [.ref 703] (cm, mm, oo) (PZ (fun u => (cm, u, oo)) post) noX)
    (hg_X13_every : ∀ (mm : (Nat → Nat → Int32)) {post : Bool → (Nat → Nat → Int32) → Prop}, r_X13_every post mm → CT l yX13_every (.code yX13_every cX13_every 3 (some .boolean)) (rmG_some d) 0 0 G ρ [.ref 703] (cm, mm, oo) (PZ (fun u => (cm, u, oo)) post) noX)
    (hg_X13_atom : ∀ (mm : (Nat → Nat → Int32)) {post : Bool → (Nat → Nat → Int32) → Prop}, r_X13_atom post mm → CT l yX13_atom (.code yX13_atom cX13_atom 4 (some .boolean)) (rmG_some d) 0 0 G ρ [.ref 703] (cm, mm, oo) (PZ (fun u => (cm, u, oo)) post) noX) (X : MC p l s m args meth c cX13_every 3 RX13 G ρ A) (hr : meth.sig.returnType = (some .boolean)) (hex : ∀ z ∈ c.exceptionTable.toList, False)
    (hk5 : ∀ (v1 : Bool) (mm : (Nat → Nat → Int32)), k5 v1 mm → LW p l e (rmG_some (d + 1)) s m args below meth c (Qm below G ρ A (PZ (fun u => (cm, u, oo)) post) noX args s 0 0) G ρ A 3 0 0 5 [(0, .ref 703), (1, .int (b2 v1))] [] (cm, mm, oo)) : ∀ (mm : (Nat → Nat → Int32)), B_X13_every_39 r_X13_some r_X13_every r_X13_atom post k5 mm → LW p l e (rmG_some (d + 1)) s m args below meth c (Qm below G ρ A (PZ (fun u => (cm, u, oo)) post) noX args s 0 0) G ρ A 3 0 0 39 [(0, .ref 703)] [] (cm, mm, oo) := by
  intro mm h
  unfold B_X13_every_39 at h
  refine L_iconst (pc := 39) (v := 0) X d_X13_every_39 (by decide) ?_
  refine LW.sub [0] rfl ?_
  exact T_X13_every_40 hl hg_X13_some hg_X13_every hg_X13_atom X hr hex hk5 _  _ h
set_option maxHeartbeats 4000000 in
set_option maxRecDepth 100000 in
theorem T_X13_every_5 {d : Nat} {r_X13_some : (Bool → (Nat → Nat → Int32) → Prop) → (Nat → Nat → Int32) → Prop} {r_X13_every : (Bool → (Nat → Nat → Int32) → Prop) → (Nat → Nat → Int32) → Prop} {r_X13_atom : (Bool → (Nat → Nat → Int32) → Prop) → (Nat → Nat → Int32) → Prop} {post : Bool → (Nat → Nat → Int32) → Prop} (hl : l.stackTraces = false)
    (hg_X13_some : ∀ (mm : (Nat → Nat → Int32)) {post : Bool → (Nat → Nat → Int32) → Prop}, r_X13_some post mm → CT l yX13_some (.code yX13_some cX13_some 3 (some .boolean)) (rmG_some d) 0 0 G ρ [.ref 703] (cm, mm, oo) (PZ (fun u => (cm, u, oo)) post) noX)
    (hg_X13_every : ∀ (mm : (Nat → Nat → Int32)) {post : Bool → (Nat → Nat → Int32) → Prop}, r_X13_every post mm → CT l yX13_every (.code yX13_every cX13_every 3 (some .boolean)) (rmG_some d) 0 0 G ρ [.ref 703] (cm, mm, oo) (PZ (fun u => (cm, u, oo)) post) noX)
    (hg_X13_atom : ∀ (mm : (Nat → Nat → Int32)) {post : Bool → (Nat → Nat → Int32) → Prop}, r_X13_atom post mm → CT l yX13_atom (.code yX13_atom cX13_atom 4 (some .boolean)) (rmG_some d) 0 0 G ρ [.ref 703] (cm, mm, oo) (PZ (fun u => (cm, u, oo)) post) noX) (X : MC p l s m args meth c cX13_every 3 RX13 G ρ A) (hr : meth.sig.returnType = (some .boolean)) (hex : ∀ z ∈ c.exceptionTable.toList, False) (n : Nat) : ∀ (v1 : Bool) (mm : (Nat → Nat → Int32)), B_X13_every_5 r_X13_some r_X13_every r_X13_atom post n v1 mm → LW p l e (rmG_some (d + 1)) s m args below meth c (Qm below G ρ A (PZ (fun u => (cm, u, oo)) post) noX args s 0 0) G ρ A 3 0 0 5 [(0, .ref 703), (1, .int (b2 v1))] [] (cm, mm, oo) := by
  induction n with
  | zero =>
    intro v1 mm h
    exact False.elim h
  | succ n ih =>
    intro v1 mm h
    unfold B_X13_every_5 at h
    refine L_aload_n (pc := 5) X d_X13_every_5 rfl 0 rfl ?_
    refine gf_X13_22 (pc := 6) X d_X13_every_6 ?_
    refine L_iconst (pc := 9) (v := (-1)) X d_X13_every_9 (by decide) ?_
    refine L_icmp_ne (pc := 10) (tgt := 44) X d_X13_every_10 (by decide) (fun c10 => ?_) (fun c10 => ?_)
    · replace h := h.1 c10
      refine LW.sub [1] rfl ?_
      exact T_X13_every_44 hl hg_X13_some hg_X13_every hg_X13_atom X hr hex _  _ h
    · replace h := h.2 c10
      refine L_aload_n (pc := 13) X d_X13_every_13 rfl 0 rfl ?_
      refine L_ldcS (pc := 14) (i := 25) X (by decide) d_X13_every_14 ?_
      refine L_callVZ (pc := 16) X lk_X13_89 (c_X13_has X.hst (by decide) h) rfl rfl kd_703 (by decide) rfl rfl ⟨Nat.le_trans (m := 8) (Nat.le_of_ble_eq_true rfl) (by show 8 ≤ d + 1 + 8; omega), Nat.le_trans (m := 173) (Nat.le_of_ble_eq_true rfl) (by show 173 ≤ (d + 1) * 23 + 173; omega)⟩ ⟨Nat.le_of_ble_eq_true rfl, Nat.le_of_ble_eq_true rfl⟩ (Nat.zero_le _) d_X13_every_16 rfl (fun x κ1 hx => L_nox hx) (fun r3 u4 h => ?_)
      refine L_if_eq (pc := 19) (tgt := 44) X d_X13_every_19 (by decide) (fun c19 => ?_) (fun c19 => ?_)
      · replace h := h.1 ((b2_0 _).mp c19)
        refine LW.sub [1] rfl ?_
        exact T_X13_every_44 hl hg_X13_some hg_X13_every hg_X13_atom X hr hex _  _ h
      · replace h := h.2 (fun z => c19 ((b2_0 _).mpr z))
        refine L_aload_n (pc := 22) X d_X13_every_22 rfl 0 rfl ?_
        refine L_callVZ (pc := 23) X lk_X13_160 (hg_X13_atom   _ h) rfl rfl kd_703 (by decide) rfl rfl ⟨by show d + 8 + 1 ≤ d + 1 + 8; omega, by show 8 + (4 + 11) + (d * 23 + 173) ≤ (d + 1) * 23 + 173; omega⟩ ⟨Nat.le_of_ble_eq_true rfl, Nat.le_of_ble_eq_true rfl⟩ (Nat.zero_le _) d_X13_every_23 rfl (fun x κ1 hx => L_nox hx) (fun r5 u6 h => ?_)
        refine L_istore_n (pc := 26) (lv2 := [(2, .int (b2 r5)), (0, .ref 703), (1, .int (b2 v1))]) X d_X13_every_26 rfl (by decide) rfl ?_
        refine L_iload_n (pc := 27) X d_X13_every_27 rfl 2 rfl ?_
        refine L_if_eq (pc := 28) (tgt := 39) X d_X13_every_28 (by decide) (fun c28 => ?_) (fun c28 => ?_)
        · replace h := h.1 ((b2_0 _).mp c28)
          refine LW.sub [1] rfl ?_
          exact T_X13_every_39 hl hg_X13_some hg_X13_every hg_X13_atom X hr hex ih   _ h
        · replace h := h.2 (fun z => c28 ((b2_0 _).mpr z))
          refine L_iload_n (pc := 31) X d_X13_every_31 rfl 0 rfl ?_
          refine L_if_eq (pc := 32) (tgt := 39) X d_X13_every_32 (by decide) (fun c32 => ?_) (fun c32 => ?_)
          · replace h := h.1 ((b2_0 _).mp c32)
            refine LW.sub [1] rfl ?_
            exact T_X13_every_39 hl hg_X13_some hg_X13_every hg_X13_atom X hr hex ih   _ h
          · replace h := h.2 (fun z => c32 ((b2_0 _).mpr z))
            refine L_iconst (pc := 35) (v := 1) X d_X13_every_35 (by decide) ?_
            refine L_goto (pc := 36) (tgt := 40) X d_X13_every_36 (by decide) ?_
            refine LW.sub [1] rfl ?_
            exact T_X13_every_40 hl hg_X13_some hg_X13_every hg_X13_atom X hr hex ih _  _ h
set_option maxHeartbeats 4000000 in
set_option maxRecDepth 100000 in
theorem cb_X13_every {d : Nat} {r_X13_some : (Bool → (Nat → Nat → Int32) → Prop) → (Nat → Nat → Int32) → Prop} {r_X13_every : (Bool → (Nat → Nat → Int32) → Prop) → (Nat → Nat → Int32) → Prop} {r_X13_atom : (Bool → (Nat → Nat → Int32) → Prop) → (Nat → Nat → Int32) → Prop} (hl : l.stackTraces = false)
    (hg_X13_some : ∀ (mm : (Nat → Nat → Int32)) {post : Bool → (Nat → Nat → Int32) → Prop}, r_X13_some post mm → CT l yX13_some (.code yX13_some cX13_some 3 (some .boolean)) (rmG_some d) 0 0 G ρ [.ref 703] (cm, mm, oo) (PZ (fun u => (cm, u, oo)) post) noX)
    (hg_X13_every : ∀ (mm : (Nat → Nat → Int32)) {post : Bool → (Nat → Nat → Int32) → Prop}, r_X13_every post mm → CT l yX13_every (.code yX13_every cX13_every 3 (some .boolean)) (rmG_some d) 0 0 G ρ [.ref 703] (cm, mm, oo) (PZ (fun u => (cm, u, oo)) post) noX)
    (hg_X13_atom : ∀ (mm : (Nat → Nat → Int32)) {post : Bool → (Nat → Nat → Int32) → Prop}, r_X13_atom post mm → CT l yX13_atom (.code yX13_atom cX13_atom 4 (some .boolean)) (rmG_some d) 0 0 G ρ [.ref 703] (cm, mm, oo) (PZ (fun u => (cm, u, oo)) post) noX) {mm : (Nat → Nat → Int32)} {post : Bool → (Nat → Nat → Int32) → Prop} (h : wb_X13_every r_X13_some r_X13_every r_X13_atom post mm) : CT l yX13_every (.code yX13_every cX13_every 3 (some .boolean)) (rmG_some (d + 1)) 0 0 G ρ [.ref 703] (cm, mm, oo) (PZ (fun u => (cm, u, oo)) post) noX := by
  refine CT_of hl (by decide +kernel) rfl (Nat.le_of_ble_eq_true rfl) (lv0 := [(0, .ref 703)]) rfl (fun p e s m args below meth c A X hr hex hnm => ?_)
  unfold wb_X13_every at h
  refine L_aload_n (pc := 0) X d_X13_every_0 rfl 0 rfl ?_
  refine L_callVZ (pc := 1) X lk_X13_160 (hg_X13_atom   _ h) rfl rfl kd_703 (by decide) rfl rfl ⟨by show d + 8 + 1 ≤ d + 1 + 8; omega, by show 8 + (4 + 11) + (d * 23 + 173) ≤ (d + 1) * 23 + 173; omega⟩ ⟨Nat.le_of_ble_eq_true rfl, Nat.le_of_ble_eq_true rfl⟩ (Nat.zero_le _) d_X13_every_1 rfl (fun x κ1 hx => L_nox hx) (fun r1 u2 h => ?_)
  refine L_istore_n (pc := 4) (lv2 := [(1, .int (b2 r1)), (0, .ref 703)]) X d_X13_every_4 rfl (by decide) rfl ?_
  obtain ⟨n5, h⟩ := h
  refine LW.sub [1, 0] rfl ?_
  exact T_X13_every_5 hl hg_X13_some hg_X13_every hg_X13_atom X hr hex n5 _  _ h
end G_X13_every
theorem yk_X13_plain : yX13_plain.cls = RX13 ∧ yX13_plain.cls ≠ "java/lang/invoke/MethodHandle" ∧ yX13_plain.cls ≠ "java/lang/invoke/VarHandle" ∧ (parseMethodDescriptor yX13_plain.desc).map (fun d => d.parameters.length) = some 0 := by decide +kernel
theorem lk_X13_157 : LinkV RX13 157 RX13 yX13_plain (.code yX13_plain cX13_plain 4 (some .boolean)) 0 := ⟨tw_1424, tw_1426, tw_50, tw_83, tw_1427, yk_X13_plain⟩
theorem yk_X13_some : yX13_some.cls = RX13 ∧ yX13_some.cls ≠ "java/lang/invoke/MethodHandle" ∧ yX13_some.cls ≠ "java/lang/invoke/VarHandle" ∧ (parseMethodDescriptor yX13_some.desc).map (fun d => d.parameters.length) = some 0 := by decide +kernel
theorem lk_X13_163 : LinkV RX13 163 RX13 yX13_some (.code yX13_some cX13_some 3 (some .boolean)) 0 := ⟨tw_1411, tw_1413, tw_47, tw_83, tw_1414, yk_X13_some⟩
theorem d_X13_atom_0 : decode cX13_atom 0 = .ok (.aload_n 0, 1) := by decide +kernel
theorem d_X13_atom_1 : decode cX13_atom 1 = .ok (.getfield 22, 3) := by decide +kernel
theorem d_X13_atom_4 : decode cX13_atom 4 = .ok (.iconst (-1), 1) := by decide +kernel
theorem d_X13_atom_5 : decode cX13_atom 5 = .ok (.if_icmp .eq 5, 3) := by decide +kernel
theorem d_X13_atom_8 : decode cX13_atom 8 = .ok (.iconst 0, 1) := by decide +kernel
theorem d_X13_atom_9 : decode cX13_atom 9 = .ok (.ireturn, 1) := by decide +kernel
theorem d_X13_atom_10 : decode cX13_atom 10 = .ok (.aload_n 0, 1) := by decide +kernel
theorem d_X13_atom_11 : decode cX13_atom 11 = .ok (.invokevirtual 70, 3) := by decide +kernel
theorem d_X13_atom_14 : decode cX13_atom 14 = .ok (.aload_n 0, 1) := by decide +kernel
theorem d_X13_atom_15 : decode cX13_atom 15 = .ok (.getfield 60, 3) := by decide +kernel
theorem d_X13_atom_18 : decode cX13_atom 18 = .ok (.istore_n 1, 1) := by decide +kernel
theorem d_X13_atom_19 : decode cX13_atom 19 = .ok (.aload_n 0, 1) := by decide +kernel
theorem d_X13_atom_20 : decode cX13_atom 20 = .ok (.ldc 155, 2) := by decide +kernel
theorem d_X13_atom_22 : decode cX13_atom 22 = .ok (.invokevirtual 89, 3) := by decide +kernel
theorem d_X13_atom_25 : decode cX13_atom 25 = .ok (.istore_n 2, 1) := by decide +kernel
theorem d_X13_atom_26 : decode cX13_atom 26 = .ok (.iload_n 2, 1) := by decide +kernel
theorem d_X13_atom_27 : decode cX13_atom 27 = .ok (.ifCond .ne 17, 3) := by decide +kernel
theorem d_X13_atom_30 : decode cX13_atom 30 = .ok (.aload_n 0, 1) := by decide +kernel
theorem d_X13_atom_31 : decode cX13_atom 31 = .ok (.bipush 40, 2) := by decide +kernel
theorem d_X13_atom_33 : decode cX13_atom 33 = .ok (.invokevirtual 118, 3) := by decide +kernel
theorem d_X13_atom_36 : decode cX13_atom 36 = .ok (.ifCond .ne 8, 3) := by decide +kernel
theorem d_X13_atom_39 : decode cX13_atom 39 = .ok (.aload_n 0, 1) := by decide +kernel
theorem d_X13_atom_40 : decode cX13_atom 40 = .ok (.invokevirtual 157, 3) := by decide +kernel
theorem d_X13_atom_43 : decode cX13_atom 43 = .ok (.ireturn, 1) := by decide +kernel
theorem d_X13_atom_44 : decode cX13_atom 44 = .ok (.aload_n 0, 1) := by decide +kernel
theorem d_X13_atom_45 : decode cX13_atom 45 = .ok (.getfield 109, 3) := by decide +kernel
theorem d_X13_atom_48 : decode cX13_atom 48 = .ok (.bipush 6, 2) := by decide +kernel
theorem d_X13_atom_50 : decode cX13_atom 50 = .ok (.if_icmp .ne 10, 3) := by decide +kernel
theorem d_X13_atom_53 : decode cX13_atom 53 = .ok (.aload_n 0, 1) := by decide +kernel
theorem d_X13_atom_54 : decode cX13_atom 54 = .ok (.iload_n 1, 1) := by decide +kernel
theorem d_X13_atom_55 : decode cX13_atom 55 = .ok (.invokevirtual 83, 3) := by decide +kernel
theorem d_X13_atom_58 : decode cX13_atom 58 = .ok (.iconst 0, 1) := by decide +kernel
theorem d_X13_atom_59 : decode cX13_atom 59 = .ok (.ireturn, 1) := by decide +kernel
theorem d_X13_atom_60 : decode cX13_atom 60 = .ok (.aload_n 0, 1) := by decide +kernel
theorem d_X13_atom_61 : decode cX13_atom 61 = .ok (.dup, 1) := by decide +kernel
theorem d_X13_atom_62 : decode cX13_atom 62 = .ok (.getfield 109, 3) := by decide +kernel
theorem d_X13_atom_65 : decode cX13_atom 65 = .ok (.iconst 1, 1) := by decide +kernel
theorem d_X13_atom_66 : decode cX13_atom 66 = .ok (.iadd, 1) := by decide +kernel
theorem d_X13_atom_67 : decode cX13_atom 67 = .ok (.putfield 109, 3) := by decide +kernel
theorem d_X13_atom_70 : decode cX13_atom 70 = .ok (.iconst 0, 1) := by decide +kernel
theorem d_X13_atom_71 : decode cX13_atom 71 = .ok (.istore_n 3, 1) := by decide +kernel
theorem d_X13_atom_72 : decode cX13_atom 72 = .ok (.iload_n 2, 1) := by decide +kernel
theorem d_X13_atom_73 : decode cX13_atom 73 = .ok (.ifCond .eq 19, 3) := by decide +kernel
theorem d_X13_atom_76 : decode cX13_atom 76 = .ok (.aload_n 0, 1) := by decide +kernel
theorem d_X13_atom_77 : decode cX13_atom 77 = .ok (.invokevirtual 160, 3) := by decide +kernel
theorem d_X13_atom_80 : decode cX13_atom 80 = .ok (.ifCond .ne 7, 3) := by decide +kernel
theorem d_X13_atom_83 : decode cX13_atom 83 = .ok (.iconst 1, 1) := by decide +kernel
theorem d_X13_atom_84 : decode cX13_atom 84 = .ok (.goto 4, 3) := by decide +kernel
theorem d_X13_atom_87 : decode cX13_atom 87 = .ok (.iconst 0, 1) := by decide +kernel
theorem d_X13_atom_88 : decode cX13_atom 88 = .ok (.istore_n 3, 1) := by decide +kernel
theorem d_X13_atom_89 : decode cX13_atom 89 = .ok (.goto 53, 3) := by decide +kernel
theorem d_X13_atom_92 : decode cX13_atom 92 = .ok (.aload_n 0, 1) := by decide +kernel
theorem d_X13_atom_93 : decode cX13_atom 93 = .ok (.dup, 1) := by decide +kernel
theorem d_X13_atom_94 : decode cX13_atom 94 = .ok (.getfield 60, 3) := by decide +kernel
theorem d_X13_atom_97 : decode cX13_atom 97 = .ok (.iconst 1, 1) := by decide +kernel
theorem d_X13_atom_98 : decode cX13_atom 98 = .ok (.iadd, 1) := by decide +kernel
theorem d_X13_atom_99 : decode cX13_atom 99 = .ok (.putfield 60, 3) := by decide +kernel
theorem d_X13_atom_102 : decode cX13_atom 102 = .ok (.aload_n 0, 1) := by decide +kernel
theorem d_X13_atom_103 : decode cX13_atom 103 = .ok (.invokevirtual 163, 3) := by decide +kernel
theorem d_X13_atom_106 : decode cX13_atom 106 = .ok (.istore_n 3, 1) := by decide +kernel
theorem d_X13_atom_107 : decode cX13_atom 107 = .ok (.aload_n 0, 1) := by decide +kernel
theorem d_X13_atom_108 : decode cX13_atom 108 = .ok (.getfield 22, 3) := by decide +kernel
theorem d_X13_atom_111 : decode cX13_atom 111 = .ok (.iconst (-1), 1) := by decide +kernel
theorem d_X13_atom_112 : decode cX13_atom 112 = .ok (.if_icmp .ne 20, 3) := by decide +kernel
theorem d_X13_atom_115 : decode cX13_atom 115 = .ok (.aload_n 0, 1) := by decide +kernel
theorem d_X13_atom_116 : decode cX13_atom 116 = .ok (.bipush 41, 2) := by decide +kernel
theorem d_X13_atom_118 : decode cX13_atom 118 = .ok (.invokevirtual 118, 3) := by decide +kernel
theorem d_X13_atom_121 : decode cX13_atom 121 = .ok (.ifCond .ne 11, 3) := by decide +kernel
theorem d_X13_atom_124 : decode cX13_atom 124 = .ok (.aload_n 0, 1) := by decide +kernel
theorem d_X13_atom_125 : decode cX13_atom 125 = .ok (.aload_n 0, 1) := by decide +kernel
theorem d_X13_atom_126 : decode cX13_atom 126 = .ok (.getfield 60, 3) := by decide +kernel
theorem d_X13_atom_129 : decode cX13_atom 129 = .ok (.invokevirtual 83, 3) := by decide +kernel
theorem d_X13_atom_132 : decode cX13_atom 132 = .ok (.aload_n 0, 1) := by decide +kernel
theorem d_X13_atom_133 : decode cX13_atom 133 = .ok (.dup, 1) := by decide +kernel
theorem d_X13_atom_134 : decode cX13_atom 134 = .ok (.getfield 60, 3) := by decide +kernel
theorem d_X13_atom_137 : decode cX13_atom 137 = .ok (.iconst 1, 1) := by decide +kernel
theorem d_X13_atom_138 : decode cX13_atom 138 = .ok (.iadd, 1) := by decide +kernel
theorem d_X13_atom_139 : decode cX13_atom 139 = .ok (.putfield 60, 3) := by decide +kernel
theorem d_X13_atom_142 : decode cX13_atom 142 = .ok (.aload_n 0, 1) := by decide +kernel
theorem d_X13_atom_143 : decode cX13_atom 143 = .ok (.dup, 1) := by decide +kernel
theorem d_X13_atom_144 : decode cX13_atom 144 = .ok (.getfield 109, 3) := by decide +kernel
theorem d_X13_atom_147 : decode cX13_atom 147 = .ok (.iconst 1, 1) := by decide +kernel
theorem d_X13_atom_148 : decode cX13_atom 148 = .ok (.isub, 1) := by decide +kernel
theorem d_X13_atom_149 : decode cX13_atom 149 = .ok (.putfield 109, 3) := by decide +kernel
theorem d_X13_atom_152 : decode cX13_atom 152 = .ok (.iload_n 3, 1) := by decide +kernel
theorem d_X13_atom_153 : decode cX13_atom 153 = .ok (.ireturn, 1) := by decide +kernel
def B_X13_atom_142 (r_X13_some : (Bool → (Nat → Nat → Int32) → Prop) → (Nat → Nat → Int32) → Prop) (r_X13_every : (Bool → (Nat → Nat → Int32) → Prop) → (Nat → Nat → Int32) → Prop) (r_X13_atom : (Bool → (Nat → Nat → Int32) → Prop) → (Nat → Nat → Int32) → Prop) (post : Bool → (Nat → Nat → Int32) → Prop) (v3 : Bool) (mm : (Nat → Nat → Int32)) : Prop := post v3 (up2 mm 0 11 ((mm 0 11) - 1))
def B_X13_atom_132 (r_X13_some : (Bool → (Nat → Nat → Int32) → Prop) → (Nat → Nat → Int32) → Prop) (r_X13_every : (Bool → (Nat → Nat → Int32) → Prop) → (Nat → Nat → Int32) → Prop) (r_X13_atom : (Bool → (Nat → Nat → Int32) → Prop) → (Nat → Nat → Int32) → Prop) (post : Bool → (Nat → Nat → Int32) → Prop) (v3 : Bool) (mm : (Nat → Nat → Int32)) : Prop := B_X13_atom_142 r_X13_some r_X13_every r_X13_atom post v3 (up2 mm 0 9 ((mm 0 9) + 1))
def B_X13_atom_88 (r_X13_some : (Bool → (Nat → Nat → Int32) → Prop) → (Nat → Nat → Int32) → Prop) (r_X13_every : (Bool → (Nat → Nat → Int32) → Prop) → (Nat → Nat → Int32) → Prop) (r_X13_atom : (Bool → (Nat → Nat → Int32) → Prop) → (Nat → Nat → Int32) → Prop) (post : Bool → (Nat → Nat → Int32) → Prop) (s0 : Bool) (mm : (Nat → Nat → Int32)) : Prop := B_X13_atom_142 r_X13_some r_X13_every r_X13_atom post s0 mm
def B_X13_atom_44 (r_X13_some : (Bool → (Nat → Nat → Int32) → Prop) → (Nat → Nat → Int32) → Prop) (r_X13_every : (Bool → (Nat → Nat → Int32) → Prop) → (Nat → Nat → Int32) → Prop) (r_X13_atom : (Bool → (Nat → Nat → Int32) → Prop) → (Nat → Nat → Int32) → Prop) (post : Bool → (Nat → Nat → Int32) → Prop) (v1 : Int32) (v2 : Bool) (mm : (Nat → Nat → Int32)) : Prop := (¬ (mm 0 11) = 6 → (((v2 = false) → (r_X13_some (fun (r9 : Bool) (u10 : (Nat → Nat → Int32)) => (¬ (u10 0 10) = (-1) → (B_X13_atom_132 r_X13_some r_X13_every r_X13_atom post r9 u10)) ∧ ((u10 0 10) = (-1) → (w_X13_isSign (fun (r11 : Bool) (u12 : (Nat → Nat → Int32)) => (¬ (r11 = false) → (B_X13_atom_132 r_X13_some r_X13_every r_X13_atom post r9 u12)) ∧ ((r11 = false) → (w_X13_wrong (fun (u14 : (Nat → Nat → Int32)) => B_X13_atom_132 r_X13_some r_X13_every r_X13_atom post r9 u14) (u12 0 9) u12))) 41 u10)))  (up2 (up2 mm 0 11 ((mm 0 11) + 1)) 0 9 (((up2 mm 0 11 ((mm 0 11) + 1)) 0 9) + 1)))) ∧ (¬ (v2 = false) → (r_X13_atom (fun (r15 : Bool) (u16 : (Nat → Nat → Int32)) => (¬ (r15 = false) → (B_X13_atom_88 r_X13_some r_X13_every r_X13_atom post false u16)) ∧ ((r15 = false) → (B_X13_atom_88 r_X13_some r_X13_every r_X13_atom post true u16)))  (up2 mm 0 11 ((mm 0 11) + 1)))))) ∧ ((mm 0 11) = 6 → (w_X13_wrong (fun (u18 : (Nat → Nat → Int32)) => post false u18) v1 mm))
def wb_X13_atom (r_X13_some : (Bool → (Nat → Nat → Int32) → Prop) → (Nat → Nat → Int32) → Prop) (r_X13_every : (Bool → (Nat → Nat → Int32) → Prop) → (Nat → Nat → Int32) → Prop) (r_X13_atom : (Bool → (Nat → Nat → Int32) → Prop) → (Nat → Nat → Int32) → Prop) (post : Bool → (Nat → Nat → Int32) → Prop) (mm : (Nat → Nat → Int32)) : Prop := ((mm 0 10) = (-1) → (w_X13_skip (fun (u2 : (Nat → Nat → Int32)) => w_X13_has (fun (r3 : Bool) (u4 : (Nat → Nat → Int32)) => (¬ (r3 = false) → (B_X13_atom_44 r_X13_some r_X13_every r_X13_atom post (u2 0 9) r3 u4)) ∧ ((r3 = false) → (w_X13_isSign (fun (r5 : Bool) (u6 : (Nat → Nat → Int32)) => (¬ (r5 = false) → (B_X13_atom_44 r_X13_some r_X13_every r_X13_atom post (u2 0 9) r3 u6)) ∧ ((r5 = false) → (w_X13_plain (fun (r7 : Bool) (u8 : (Nat → Nat → Int32)) => post r7 u8)  u6))) 40 u4))) 13 u2)  mm)) ∧ (¬ (mm 0 10) = (-1) → (post false mm))
section G_X13_atom
variable {p : Program} {l : Launch} {e : Env} {s : State} {m : MethodId} {args : Array Value} {below : List Frame} {meth : Method} {c : Code} {G : Gd} {ρ : Nat → Nat} {A : Nat → Prop} {cm : CMu} {oo : Nat → Int64}
set_option maxHeartbeats 4000000 in
set_option maxRecDepth 100000 in
theorem T_X13_atom_142 {d : Nat} {r_X13_some : (Bool → (Nat → Nat → Int32) → Prop) → (Nat → Nat → Int32) → Prop} {r_X13_every : (Bool → (Nat → Nat → Int32) → Prop) → (Nat → Nat → Int32) → Prop} {r_X13_atom : (Bool → (Nat → Nat → Int32) → Prop) → (Nat → Nat → Int32) → Prop} {post : Bool → (Nat → Nat → Int32) → Prop} (hl : l.stackTraces = false)
    (hg_X13_some : ∀ (mm : (Nat → Nat → Int32)) {post : Bool → (Nat → Nat → Int32) → Prop}, r_X13_some post mm → CT l yX13_some (.code yX13_some cX13_some 3 (some .boolean)) (rmG_some d) 0 0 G ρ [.ref 703] (cm, mm, oo) (PZ (fun u => (cm, u, oo)) post) noX)
    (hg_X13_every : ∀ (mm : (Nat → Nat → Int32)) {post : Bool → (Nat → Nat → Int32) → Prop}, r_X13_every post mm → CT l yX13_every (.code yX13_every cX13_every 3 (some .boolean)) (rmG_some d) 0 0 G ρ [.ref 703] (cm, mm, oo) (PZ (fun u => (cm, u, oo)) post) noX)
    (hg_X13_atom : ∀ (mm : (Nat → Nat → Int32)) {post : Bool → (Nat → Nat → Int32) → Prop}, r_X13_atom post mm → CT l yX13_atom (.code yX13_atom cX13_atom 4 (some .boolean)) (rmG_some d) 0 0 G ρ [.ref 703] (cm, mm, oo) (PZ (fun u => (cm, u, oo)) post) noX) (X : MC p l s m args meth c cX13_atom 4 RX13 G ρ A) (hr : meth.sig.returnType = (some .boolean)) (hex : ∀ z ∈ c.exceptionTable.toList, False) : ∀ (v3 : Bool) (mm : (Nat → Nat → Int32)), B_X13_atom_142 r_X13_some r_X13_every r_X13_atom post v3 mm → LW p l e (rmG_some (d + 1)) s m args below meth c (Qm below G ρ A (PZ (fun u => (cm, u, oo)) post) noX args s 0 0) G ρ A 4 0 0 142 [(0, .ref 703), (3, .int (b2 v3))] [] (cm, mm, oo) := by
  intro v3 mm h
  unfold B_X13_atom_142 at h
  refine L_aload_n (pc := 142) X d_X13_atom_142 rfl 0 rfl ?_
  refine L_dup (pc := 143) X d_X13_atom_143 rfl ?_
  refine gf_X13_109 (pc := 144) X d_X13_atom_144 ?_
  refine L_iconst (pc := 147) (v := 1) X d_X13_atom_147 (by decide) ?_
  refine L_isub (pc := 148) X d_X13_atom_148 ?_
  refine pf_X13_109 (pc := 149) X d_X13_atom_149 ?_
  refine L_iload_n (pc := 152) X d_X13_atom_152 rfl 1 rfl ?_
  exact L_zretB (pc := 153) X hr d_X13_atom_153 v3 rfl (by decide) (by decide) ⟨_, _, rfl, rfl, h⟩
set_option maxHeartbeats 4000000 in
set_option maxRecDepth 100000 in
theorem T_X13_atom_132 {d : Nat} {r_X13_some : (Bool → (Nat → Nat → Int32) → Prop) → (Nat → Nat → Int32) → Prop} {r_X13_every : (Bool → (Nat → Nat → Int32) → Prop) → (Nat → Nat → Int32) → Prop} {r_X13_atom : (Bool → (Nat → Nat → Int32) → Prop) → (Nat → Nat → Int32) → Prop} {post : Bool → (Nat → Nat → Int32) → Prop} (hl : l.stackTraces = false)
    (hg_X13_some : ∀ (mm : (Nat → Nat → Int32)) {post : Bool → (Nat → Nat → Int32) → Prop}, r_X13_some post mm → CT l yX13_some (.code yX13_some cX13_some 3 (some .boolean)) (rmG_some d) 0 0 G ρ [.ref 703] (cm, mm, oo) (PZ (fun u => (cm, u, oo)) post) noX)
    (hg_X13_every : ∀ (mm : (Nat → Nat → Int32)) {post : Bool → (Nat → Nat → Int32) → Prop}, r_X13_every post mm → CT l yX13_every (.code yX13_every cX13_every 3 (some .boolean)) (rmG_some d) 0 0 G ρ [.ref 703] (cm, mm, oo) (PZ (fun u => (cm, u, oo)) post) noX)
    (hg_X13_atom : ∀ (mm : (Nat → Nat → Int32)) {post : Bool → (Nat → Nat → Int32) → Prop}, r_X13_atom post mm → CT l yX13_atom (.code yX13_atom cX13_atom 4 (some .boolean)) (rmG_some d) 0 0 G ρ [.ref 703] (cm, mm, oo) (PZ (fun u => (cm, u, oo)) post) noX) (X : MC p l s m args meth c cX13_atom 4 RX13 G ρ A) (hr : meth.sig.returnType = (some .boolean)) (hex : ∀ z ∈ c.exceptionTable.toList, False) : ∀ (v3 : Bool) (mm : (Nat → Nat → Int32)), B_X13_atom_132 r_X13_some r_X13_every r_X13_atom post v3 mm → LW p l e (rmG_some (d + 1)) s m args below meth c (Qm below G ρ A (PZ (fun u => (cm, u, oo)) post) noX args s 0 0) G ρ A 4 0 0 132 [(0, .ref 703), (3, .int (b2 v3))] [] (cm, mm, oo) := by
  intro v3 mm h
  unfold B_X13_atom_132 at h
  refine L_aload_n (pc := 132) X d_X13_atom_132 rfl 0 rfl ?_
  refine L_dup (pc := 133) X d_X13_atom_133 rfl ?_
  refine gf_X13_60 (pc := 134) X d_X13_atom_134 ?_
  refine L_iconst (pc := 137) (v := 1) X d_X13_atom_137 (by decide) ?_
  refine L_iadd (pc := 138) X d_X13_atom_138 ?_
  refine pf_X13_60 (pc := 139) X d_X13_atom_139 ?_
  refine LW.sub [0, 1] rfl ?_
  exact T_X13_atom_142 hl hg_X13_some hg_X13_every hg_X13_atom X hr hex _  _ h
set_option maxHeartbeats 4000000 in
set_option maxRecDepth 100000 in
theorem T_X13_atom_88 {d : Nat} {r_X13_some : (Bool → (Nat → Nat → Int32) → Prop) → (Nat → Nat → Int32) → Prop} {r_X13_every : (Bool → (Nat → Nat → Int32) → Prop) → (Nat → Nat → Int32) → Prop} {r_X13_atom : (Bool → (Nat → Nat → Int32) → Prop) → (Nat → Nat → Int32) → Prop} {post : Bool → (Nat → Nat → Int32) → Prop} (hl : l.stackTraces = false)
    (hg_X13_some : ∀ (mm : (Nat → Nat → Int32)) {post : Bool → (Nat → Nat → Int32) → Prop}, r_X13_some post mm → CT l yX13_some (.code yX13_some cX13_some 3 (some .boolean)) (rmG_some d) 0 0 G ρ [.ref 703] (cm, mm, oo) (PZ (fun u => (cm, u, oo)) post) noX)
    (hg_X13_every : ∀ (mm : (Nat → Nat → Int32)) {post : Bool → (Nat → Nat → Int32) → Prop}, r_X13_every post mm → CT l yX13_every (.code yX13_every cX13_every 3 (some .boolean)) (rmG_some d) 0 0 G ρ [.ref 703] (cm, mm, oo) (PZ (fun u => (cm, u, oo)) post) noX)
    (hg_X13_atom : ∀ (mm : (Nat → Nat → Int32)) {post : Bool → (Nat → Nat → Int32) → Prop}, r_X13_atom post mm → CT l yX13_atom (.code yX13_atom cX13_atom 4 (some .boolean)) (rmG_some d) 0 0 G ρ [.ref 703] (cm, mm, oo) (PZ (fun u => (cm, u, oo)) post) noX) (X : MC p l s m args meth c cX13_atom 4 RX13 G ρ A) (hr : meth.sig.returnType = (some .boolean)) (hex : ∀ z ∈ c.exceptionTable.toList, False) : ∀ (s0 : Bool) (mm : (Nat → Nat → Int32)), B_X13_atom_88 r_X13_some r_X13_every r_X13_atom post s0 mm → LW p l e (rmG_some (d + 1)) s m args below meth c (Qm below G ρ A (PZ (fun u => (cm, u, oo)) post) noX args s 0 0) G ρ A 4 0 0 88 [(0, .ref 703)] [.int (b2 s0)] (cm, mm, oo) := by
  intro s0 mm h
  unfold B_X13_atom_88 at h
  refine L_istore_n (pc := 88) (lv2 := [(3, .int (b2 s0)), (0, .ref 703)]) X d_X13_atom_88 rfl (by decide) rfl ?_
  refine L_goto (pc := 89) (tgt := 142) X d_X13_atom_89 (by decide) ?_
  refine LW.sub [1, 0] rfl ?_
  exact T_X13_atom_142 hl hg_X13_some hg_X13_every hg_X13_atom X hr hex _  _ h
set_option maxHeartbeats 4000000 in
set_option maxRecDepth 100000 in
theorem T_X13_atom_44 {d : Nat} {r_X13_some : (Bool → (Nat → Nat → Int32) → Prop) → (Nat → Nat → Int32) → Prop} {r_X13_every : (Bool → (Nat → Nat → Int32) → Prop) → (Nat → Nat → Int32) → Prop} {r_X13_atom : (Bool → (Nat → Nat → Int32) → Prop) → (Nat → Nat → Int32) → Prop} {post : Bool → (Nat → Nat → Int32) → Prop} (hl : l.stackTraces = false)
    (hg_X13_some : ∀ (mm : (Nat → Nat → Int32)) {post : Bool → (Nat → Nat → Int32) → Prop}, r_X13_some post mm → CT l yX13_some (.code yX13_some cX13_some 3 (some .boolean)) (rmG_some d) 0 0 G ρ [.ref 703] (cm, mm, oo) (PZ (fun u => (cm, u, oo)) post) noX)
    (hg_X13_every : ∀ (mm : (Nat → Nat → Int32)) {post : Bool → (Nat → Nat → Int32) → Prop}, r_X13_every post mm → CT l yX13_every (.code yX13_every cX13_every 3 (some .boolean)) (rmG_some d) 0 0 G ρ [.ref 703] (cm, mm, oo) (PZ (fun u => (cm, u, oo)) post) noX)
    (hg_X13_atom : ∀ (mm : (Nat → Nat → Int32)) {post : Bool → (Nat → Nat → Int32) → Prop}, r_X13_atom post mm → CT l yX13_atom (.code yX13_atom cX13_atom 4 (some .boolean)) (rmG_some d) 0 0 G ρ [.ref 703] (cm, mm, oo) (PZ (fun u => (cm, u, oo)) post) noX) (X : MC p l s m args meth c cX13_atom 4 RX13 G ρ A) (hr : meth.sig.returnType = (some .boolean)) (hex : ∀ z ∈ c.exceptionTable.toList, False) : ∀ (v1 : Int32) (v2 : Bool) (mm : (Nat → Nat → Int32)), B_X13_atom_44 r_X13_some r_X13_every r_X13_atom post v1 v2 mm → LW p l e (rmG_some (d + 1)) s m args below meth c (Qm below G ρ A (PZ (fun u => (cm, u, oo)) post) noX args s 0 0) G ρ A 4 0 0 44 [(0, .ref 703), (1, .int v1), (2, .int (b2 v2))] [] (cm, mm, oo) := by
  intro v1 v2 mm h
  unfold B_X13_atom_44 at h
  refine L_aload_n (pc := 44) X d_X13_atom_44 rfl 0 rfl ?_
  refine gf_X13_109 (pc := 45) X d_X13_atom_45 ?_
  refine L_bipush (pc := 48) (v := 6) X d_X13_atom_48 (by decide) ?_
  refine L_icmp_ne (pc := 50) (tgt := 60) X d_X13_atom_50 (by decide) (fun c50 => ?_) (fun c50 => ?_)
  · replace h := h.1 c50
    refine L_aload_n (pc := 60) X d_X13_atom_60 rfl 0 rfl ?_
    refine L_dup (pc := 61) X d_X13_atom_61 rfl ?_
    refine gf_X13_109 (pc := 62) X d_X13_atom_62 ?_
    refine L_iconst (pc := 65) (v := 1) X d_X13_atom_65 (by decide) ?_
    refine L_iadd (pc := 66) X d_X13_atom_66 ?_
    refine pf_X13_109 (pc := 67) X d_X13_atom_67 ?_
    refine L_iconst (pc := 70) (v := 0) X d_X13_atom_70 (by decide) ?_
    refine L_istore_n (pc := 71) (lv2 := [(3, .int 0), (0, .ref 703), (1, .int v1), (2, .int (b2 v2))]) X d_X13_atom_71 rfl (by decide) rfl ?_
    refine L_iload_n (pc := 72) X d_X13_atom_72 rfl 3 rfl ?_
    refine L_if_eq (pc := 73) (tgt := 92) X d_X13_atom_73 (by decide) (fun c73 => ?_) (fun c73 => ?_)
    · replace h := h.1 ((b2_0 _).mp c73)
      refine L_aload_n (pc := 92) X d_X13_atom_92 rfl 1 rfl ?_
      refine L_dup (pc := 93) X d_X13_atom_93 rfl ?_
      refine gf_X13_60 (pc := 94) X d_X13_atom_94 ?_
      refine L_iconst (pc := 97) (v := 1) X d_X13_atom_97 (by decide) ?_
      refine L_iadd (pc := 98) X d_X13_atom_98 ?_
      refine pf_X13_60 (pc := 99) X d_X13_atom_99 ?_
      refine L_aload_n (pc := 102) X d_X13_atom_102 rfl 1 rfl ?_
      refine L_callVZ (pc := 103) X lk_X13_163 (hg_X13_some   _ h) rfl rfl kd_703 (by decide) rfl rfl ⟨by show d + 8 + 1 ≤ d + 1 + 8; omega, by show 8 + (3 + 11) + (d * 23 + 173) ≤ (d + 1) * 23 + 173; omega⟩ ⟨Nat.le_of_ble_eq_true rfl, Nat.le_of_ble_eq_true rfl⟩ (Nat.zero_le _) d_X13_atom_103 rfl (fun x κ1 hx => L_nox hx) (fun r9 u10 h => ?_)
      refine L_istore_n (pc := 106) (lv2 := [(3, .int (b2 r9)), (0, .ref 703), (1, .int v1), (2, .int (b2 v2))]) X d_X13_atom_106 rfl (by decide) rfl ?_
      refine L_aload_n (pc := 107) X d_X13_atom_107 rfl 1 rfl ?_
      refine gf_X13_22 (pc := 108) X d_X13_atom_108 ?_
      refine L_iconst (pc := 111) (v := (-1)) X d_X13_atom_111 (by decide) ?_
      refine L_icmp_ne (pc := 112) (tgt := 132) X d_X13_atom_112 (by decide) (fun c112 => ?_) (fun c112 => ?_)
      · replace h := h.1 c112
        refine LW.sub [1, 0] rfl ?_
        exact T_X13_atom_132 hl hg_X13_some hg_X13_every hg_X13_atom X hr hex _  _ h
      · replace h := h.2 c112
        refine L_aload_n (pc := 115) X d_X13_atom_115 rfl 1 rfl ?_
        refine L_bipush (pc := 116) (v := 41) X d_X13_atom_116 (by decide) ?_
        refine L_callVZ (pc := 118) X lk_X13_118 (c_X13_isSign X.hst  h) rfl rfl kd_703 (by decide) rfl rfl ⟨Nat.le_trans (m := 8) (Nat.le_of_ble_eq_true rfl) (by show 8 ≤ d + 1 + 8; omega), Nat.le_trans (m := 173) (Nat.le_of_ble_eq_true rfl) (by show 173 ≤ (d + 1) * 23 + 173; omega)⟩ ⟨Nat.le_of_ble_eq_true rfl, Nat.le_of_ble_eq_true rfl⟩ (Nat.zero_le _) d_X13_atom_118 rfl (fun x κ1 hx => L_nox hx) (fun r11 u12 h => ?_)
        refine L_if_ne (pc := 121) (tgt := 132) X d_X13_atom_121 (by decide) (fun c121 => ?_) (fun c121 => ?_)
        · replace h := h.1 (fun z => c121 ((b2_0 _).mpr z))
          refine LW.sub [1, 0] rfl ?_
          exact T_X13_atom_132 hl hg_X13_some hg_X13_every hg_X13_atom X hr hex _  _ h
        · replace h := h.2 ((b2_0 _).mp c121)
          refine L_aload_n (pc := 124) X d_X13_atom_124 rfl 1 rfl ?_
          refine L_aload_n (pc := 125) X d_X13_atom_125 rfl 1 rfl ?_
          refine gf_X13_60 (pc := 126) X d_X13_atom_126 ?_
          refine L_callVV (pc := 129) X lk_X13_83 (c_X13_wrong X.hst  h) rfl rfl kd_703 (by decide) rfl rfl ⟨Nat.le_trans (m := 8) (Nat.le_of_ble_eq_true rfl) (by show 8 ≤ d + 1 + 8; omega), Nat.le_trans (m := 173) (Nat.le_of_ble_eq_true rfl) (by show 173 ≤ (d + 1) * 23 + 173; omega)⟩ ⟨Nat.le_of_ble_eq_true rfl, Nat.le_of_ble_eq_true rfl⟩ (Nat.zero_le _) d_X13_atom_129 rfl (fun x κ1 hx => L_nox hx) (fun u14 h => ?_)
          refine LW.sub [1, 0] rfl ?_
          exact T_X13_atom_132 hl hg_X13_some hg_X13_every hg_X13_atom X hr hex _  _ h
    · replace h := h.2 (fun z => c73 ((b2_0 _).mpr z))
      refine L_aload_n (pc := 76) X d_X13_atom_76 rfl 1 rfl ?_
      refine L_callVZ (pc := 77) X lk_X13_160 (hg_X13_atom   _ h) rfl rfl kd_703 (by decide) rfl rfl ⟨by show d + 8 + 1 ≤ d + 1 + 8; omega, by show 8 + (4 + 11) + (d * 23 + 173) ≤ (d + 1) * 23 + 173; omega⟩ ⟨Nat.le_of_ble_eq_true rfl, Nat.le_of_ble_eq_true rfl⟩ (Nat.zero_le _) d_X13_atom_77 rfl (fun x κ1 hx => L_nox hx) (fun r15 u16 h => ?_)
      refine L_if_ne (pc := 80) (tgt := 87) X d_X13_atom_80 (by decide) (fun c80 => ?_) (fun c80 => ?_)
      · replace h := h.1 (fun z => c80 ((b2_0 _).mpr z))
        refine L_iconst (pc := 87) (v := 0) X d_X13_atom_87 (by decide) ?_
        refine LW.sub [1] rfl ?_
        exact T_X13_atom_88 hl hg_X13_some hg_X13_every hg_X13_atom X hr hex _  _ h
      · replace h := h.2 ((b2_0 _).mp c80)
        refine L_iconst (pc := 83) (v := 1) X d_X13_atom_83 (by decide) ?_
        refine L_goto (pc := 84) (tgt := 88) X d_X13_atom_84 (by decide) ?_
        refine LW.sub [1] rfl ?_
        exact T_X13_atom_88 hl hg_X13_some hg_X13_every hg_X13_atom X hr hex _  _ h
  · replace h := h.2 c50
    refine L_aload_n (pc := 53) X d_X13_atom_53 rfl 0 rfl ?_
    refine L_iload_n (pc := 54) X d_X13_atom_54 rfl 1 rfl ?_
    refine L_callVV (pc := 55) X lk_X13_83 (c_X13_wrong X.hst  h) rfl rfl kd_703 (by decide) rfl rfl ⟨Nat.le_trans (m := 8) (Nat.le_of_ble_eq_true rfl) (by show 8 ≤ d + 1 + 8; omega), Nat.le_trans (m := 173) (Nat.le_of_ble_eq_true rfl) (by show 173 ≤ (d + 1) * 23 + 173; omega)⟩ ⟨Nat.le_of_ble_eq_true rfl, Nat.le_of_ble_eq_true rfl⟩ (Nat.zero_le _) d_X13_atom_55 rfl (fun x κ1 hx => L_nox hx) (fun u18 h => ?_)
    refine L_iconst (pc := 58) (v := 0) X d_X13_atom_58 (by decide) ?_
    exact L_zretB (pc := 59) X hr d_X13_atom_59 false rfl (by decide) (by decide) ⟨_, _, rfl, rfl, h⟩
set_option maxHeartbeats 4000000 in
set_option maxRecDepth 100000 in
theorem cb_X13_atom {d : Nat} {r_X13_some : (Bool → (Nat → Nat → Int32) → Prop) → (Nat → Nat → Int32) → Prop} {r_X13_every : (Bool → (Nat → Nat → Int32) → Prop) → (Nat → Nat → Int32) → Prop} {r_X13_atom : (Bool → (Nat → Nat → Int32) → Prop) → (Nat → Nat → Int32) → Prop} (hl : l.stackTraces = false)
    (hg_X13_some : ∀ (mm : (Nat → Nat → Int32)) {post : Bool → (Nat → Nat → Int32) → Prop}, r_X13_some post mm → CT l yX13_some (.code yX13_some cX13_some 3 (some .boolean)) (rmG_some d) 0 0 G ρ [.ref 703] (cm, mm, oo) (PZ (fun u => (cm, u, oo)) post) noX)
    (hg_X13_every : ∀ (mm : (Nat → Nat → Int32)) {post : Bool → (Nat → Nat → Int32) → Prop}, r_X13_every post mm → CT l yX13_every (.code yX13_every cX13_every 3 (some .boolean)) (rmG_some d) 0 0 G ρ [.ref 703] (cm, mm, oo) (PZ (fun u => (cm, u, oo)) post) noX)
    (hg_X13_atom : ∀ (mm : (Nat → Nat → Int32)) {post : Bool → (Nat → Nat → Int32) → Prop}, r_X13_atom post mm → CT l yX13_atom (.code yX13_atom cX13_atom 4 (some .boolean)) (rmG_some d) 0 0 G ρ [.ref 703] (cm, mm, oo) (PZ (fun u => (cm, u, oo)) post) noX) {mm : (Nat → Nat → Int32)} {post : Bool → (Nat → Nat → Int32) → Prop} (h : wb_X13_atom r_X13_some r_X13_every r_X13_atom post mm) : CT l yX13_atom (.code yX13_atom cX13_atom 4 (some .boolean)) (rmG_some (d + 1)) 0 0 G ρ [.ref 703] (cm, mm, oo) (PZ (fun u => (cm, u, oo)) post) noX := by
  refine CT_of hl (by decide +kernel) rfl (Nat.le_of_ble_eq_true rfl) (lv0 := [(0, .ref 703)]) rfl (fun p e s m args below meth c A X hr hex hnm => ?_)
  unfold wb_X13_atom at h
  refine L_aload_n (pc := 0) X d_X13_atom_0 rfl 0 rfl ?_
  refine gf_X13_22 (pc := 1) X d_X13_atom_1 ?_
  refine L_iconst (pc := 4) (v := (-1)) X d_X13_atom_4 (by decide) ?_
  refine L_icmp_eq (pc := 5) (tgt := 10) X d_X13_atom_5 (by decide) (fun c5 => ?_) (fun c5 => ?_)
  · replace h := h.1 c5
    refine L_aload_n (pc := 10) X d_X13_atom_10 rfl 0 rfl ?_
    refine L_callVV (pc := 11) X lk_X13_70 (c_X13_skip X.hst  h) rfl rfl kd_703 (by decide) rfl rfl ⟨Nat.le_trans (m := 8) (Nat.le_of_ble_eq_true rfl) (by show 8 ≤ d + 1 + 8; omega), Nat.le_trans (m := 173) (Nat.le_of_ble_eq_true rfl) (by show 173 ≤ (d + 1) * 23 + 173; omega)⟩ ⟨Nat.le_of_ble_eq_true rfl, Nat.le_of_ble_eq_true rfl⟩ (Nat.zero_le _) d_X13_atom_11 rfl (fun x κ1 hx => L_nox hx) (fun u2 h => ?_)
    refine L_aload_n (pc := 14) X d_X13_atom_14 rfl 0 rfl ?_
    refine gf_X13_60 (pc := 15) X d_X13_atom_15 ?_
    refine L_istore_n (pc := 18) (lv2 := [(1, .int (u2 0 9)), (0, .ref 703)]) X d_X13_atom_18 rfl (by decide) rfl ?_
    refine L_aload_n (pc := 19) X d_X13_atom_19 rfl 1 rfl ?_
    refine L_ldcS (pc := 20) (i := 13) X (by decide) d_X13_atom_20 ?_
    refine L_callVZ (pc := 22) X lk_X13_89 (c_X13_has X.hst (by decide) h) rfl rfl kd_703 (by decide) rfl rfl ⟨Nat.le_trans (m := 8) (Nat.le_of_ble_eq_true rfl) (by show 8 ≤ d + 1 + 8; omega), Nat.le_trans (m := 173) (Nat.le_of_ble_eq_true rfl) (by show 173 ≤ (d + 1) * 23 + 173; omega)⟩ ⟨Nat.le_of_ble_eq_true rfl, Nat.le_of_ble_eq_true rfl⟩ (Nat.zero_le _) d_X13_atom_22 rfl (fun x κ1 hx => L_nox hx) (fun r3 u4 h => ?_)
    refine L_istore_n (pc := 25) (lv2 := [(2, .int (b2 r3)), (1, .int (u2 0 9)), (0, .ref 703)]) X d_X13_atom_25 rfl (by decide) rfl ?_
    refine L_iload_n (pc := 26) X d_X13_atom_26 rfl 0 rfl ?_
    refine L_if_ne (pc := 27) (tgt := 44) X d_X13_atom_27 (by decide) (fun c27 => ?_) (fun c27 => ?_)
    · replace h := h.1 (fun z => c27 ((b2_0 _).mpr z))
      refine LW.sub [2, 1, 0] rfl ?_
      exact T_X13_atom_44 hl hg_X13_some hg_X13_every hg_X13_atom X hr hex _ _  _ h
    · replace h := h.2 ((b2_0 _).mp c27)
      refine L_aload_n (pc := 30) X d_X13_atom_30 rfl 2 rfl ?_
      refine L_bipush (pc := 31) (v := 40) X d_X13_atom_31 (by decide) ?_
      refine L_callVZ (pc := 33) X lk_X13_118 (c_X13_isSign X.hst  h) rfl rfl kd_703 (by decide) rfl rfl ⟨Nat.le_trans (m := 8) (Nat.le_of_ble_eq_true rfl) (by show 8 ≤ d + 1 + 8; omega), Nat.le_trans (m := 173) (Nat.le_of_ble_eq_true rfl) (by show 173 ≤ (d + 1) * 23 + 173; omega)⟩ ⟨Nat.le_of_ble_eq_true rfl, Nat.le_of_ble_eq_true rfl⟩ (Nat.zero_le _) d_X13_atom_33 rfl (fun x κ1 hx => L_nox hx) (fun r5 u6 h => ?_)
      refine L_if_ne (pc := 36) (tgt := 44) X d_X13_atom_36 (by decide) (fun c36 => ?_) (fun c36 => ?_)
      · replace h := h.1 (fun z => c36 ((b2_0 _).mpr z))
        refine LW.sub [2, 1, 0] rfl ?_
        exact T_X13_atom_44 hl hg_X13_some hg_X13_every hg_X13_atom X hr hex _ _  _ h
      · replace h := h.2 ((b2_0 _).mp c36)
        refine L_aload_n (pc := 39) X d_X13_atom_39 rfl 2 rfl ?_
        refine L_callVZ (pc := 40) X lk_X13_157 (c_X13_plain X.hst  h) rfl rfl kd_703 (by decide) rfl rfl ⟨Nat.le_trans (m := 8) (Nat.le_of_ble_eq_true rfl) (by show 8 ≤ d + 1 + 8; omega), Nat.le_trans (m := 173) (Nat.le_of_ble_eq_true rfl) (by show 173 ≤ (d + 1) * 23 + 173; omega)⟩ ⟨Nat.le_of_ble_eq_true rfl, Nat.le_of_ble_eq_true rfl⟩ (Nat.zero_le _) d_X13_atom_40 rfl (fun x κ1 hx => L_nox hx) (fun r7 u8 h => ?_)
        exact L_zretB (pc := 43) X hr d_X13_atom_43 r7 rfl (by decide) (by decide) ⟨_, _, rfl, rfl, h⟩
  · replace h := h.2 c5
    refine L_iconst (pc := 8) (v := 0) X d_X13_atom_8 (by decide) ?_
    exact L_zretB (pc := 9) X hr d_X13_atom_9 false rfl (by decide) (by decide) ⟨_, _, rfl, rfl, h⟩
end G_X13_atom
def WG_some : Nat → ((Bool → (Nat → Nat → Int32) → Prop) → (Nat → Nat → Int32) → Prop) × ((Bool → (Nat → Nat → Int32) → Prop) → (Nat → Nat → Int32) → Prop) × ((Bool → (Nat → Nat → Int32) → Prop) → (Nat → Nat → Int32) → Prop)
  | 0 => (fun _ _ => False, fun _ _ => False, fun _ _ => False)
  | d + 1 => (wb_X13_some ((WG_some d).1) ((WG_some d).2.1) ((WG_some d).2.2), wb_X13_every ((WG_some d).1) ((WG_some d).2.1) ((WG_some d).2.2), wb_X13_atom ((WG_some d).1) ((WG_some d).2.1) ((WG_some d).2.2))
section GG_some
variable {l : Launch} {G : Gd} {ρ : Nat → Nat} {cm : CMu} {oo : Nat → Int64}
theorem CG_some (hl : l.stackTraces = false) : ∀ d : Nat, (∀ (mm : (Nat → Nat → Int32)) {post : Bool → (Nat → Nat → Int32) → Prop}, ((WG_some d).1) post mm → CT l yX13_some (.code yX13_some cX13_some 3 (some .boolean)) (rmG_some d) 0 0 G ρ [.ref 703] (cm, mm, oo) (PZ (fun u => (cm, u, oo)) post) noX) ∧ (∀ (mm : (Nat → Nat → Int32)) {post : Bool → (Nat → Nat → Int32) → Prop}, ((WG_some d).2.1) post mm → CT l yX13_every (.code yX13_every cX13_every 3 (some .boolean)) (rmG_some d) 0 0 G ρ [.ref 703] (cm, mm, oo) (PZ (fun u => (cm, u, oo)) post) noX) ∧ (∀ (mm : (Nat → Nat → Int32)) {post : Bool → (Nat → Nat → Int32) → Prop}, ((WG_some d).2.2) post mm → CT l yX13_atom (.code yX13_atom cX13_atom 4 (some .boolean)) (rmG_some d) 0 0 G ρ [.ref 703] (cm, mm, oo) (PZ (fun u => (cm, u, oo)) post) noX) := by
  intro d
  induction d with
  | zero => exact ⟨fun mm _ h => False.elim h, fun mm _ h => False.elim h, fun mm _ h => False.elim h⟩
  | succ d ih => exact ⟨fun mm _ h => cb_X13_some hl ih.1 ih.2.1 ih.2.2  h, fun mm _ h => cb_X13_every hl ih.1 ih.2.1 ih.2.2  h, fun mm _ h => cb_X13_atom hl ih.1 ih.2.1 ih.2.2  h⟩
def w_X13_some (post : Bool → (Nat → Nat → Int32) → Prop) (mm : (Nat → Nat → Int32)) : Prop := ((WG_some 30).1) post mm
abbrev rm_X13_some : Room := rmG_some 30
theorem c_X13_some (hl : l.stackTraces = false) {mm : (Nat → Nat → Int32)} {post : Bool → (Nat → Nat → Int32) → Prop} (h : w_X13_some post mm) : CT l yX13_some (.code yX13_some cX13_some 3 (some .boolean)) rm_X13_some 0 0 G ρ [.ref 703] (cm, mm, oo) (PZ (fun u => (cm, u, oo)) post) noX := ((CG_some hl 30).1)   _ h
def w_X13_every (post : Bool → (Nat → Nat → Int32) → Prop) (mm : (Nat → Nat → Int32)) : Prop := ((WG_some 30).2.1) post mm
abbrev rm_X13_every : Room := rmG_some 30
theorem c_X13_every (hl : l.stackTraces = false) {mm : (Nat → Nat → Int32)} {post : Bool → (Nat → Nat → Int32) → Prop} (h : w_X13_every post mm) : CT l yX13_every (.code yX13_every cX13_every 3 (some .boolean)) rm_X13_every 0 0 G ρ [.ref 703] (cm, mm, oo) (PZ (fun u => (cm, u, oo)) post) noX := ((CG_some hl 30).2.1)   _ h
def w_X13_atom (post : Bool → (Nat → Nat → Int32) → Prop) (mm : (Nat → Nat → Int32)) : Prop := ((WG_some 30).2.2) post mm
abbrev rm_X13_atom : Room := rmG_some 30
theorem c_X13_atom (hl : l.stackTraces = false) {mm : (Nat → Nat → Int32)} {post : Bool → (Nat → Nat → Int32) → Prop} (h : w_X13_atom post mm) : CT l yX13_atom (.code yX13_atom cX13_atom 4 (some .boolean)) rm_X13_atom 0 0 G ρ [.ref 703] (cm, mm, oo) (PZ (fun u => (cm, u, oo)) post) noX := ((CG_some hl 30).2.2)   _ h
end GG_some
theorem yk_X13_adds : yX13_adds.cls = RX13 ∧ yX13_adds.cls ≠ "java/lang/invoke/MethodHandle" ∧ yX13_adds.cls ≠ "java/lang/invoke/VarHandle" ∧ (parseMethodDescriptor yX13_adds.desc).map (fun d => d.parameters.length) = some 4 := by decide +kernel
theorem lk_X13_213 : LinkV RX13 213 RX13 yX13_adds (.code yX13_adds cX13_adds 7 (some .int)) 4 := ⟨tw_1451, tw_1453, tw_55, tw_83, tw_1454, yk_X13_adds⟩
theorem d_X13_acts_0 : decode cX13_acts 0 = .ok (.bipush 46, 2) := by decide +kernel
theorem d_X13_acts_2 : decode cX13_acts 2 = .ok (.iconst 4, 1) := by decide +kernel
theorem d_X13_acts_3 : decode cX13_acts 3 = .ok (.aload_n 0, 1) := by decide +kernel
theorem d_X13_acts_4 : decode cX13_acts 4 = .ok (.getfield 126, 3) := by decide +kernel
theorem d_X13_acts_7 : decode cX13_acts 7 = .ok (.imul, 1) := by decide +kernel
theorem d_X13_acts_8 : decode cX13_acts 8 = .ok (.iadd, 1) := by decide +kernel
theorem d_X13_acts_9 : decode cX13_acts 9 = .ok (.istore_n 3, 1) := by decide +kernel
theorem d_X13_acts_10 : decode cX13_acts 10 = .ok (.iload_n 1, 1) := by decide +kernel
theorem d_X13_acts_11 : decode cX13_acts 11 = .ok (.ifCond .ne 58, 3) := by decide +kernel
theorem d_X13_acts_14 : decode cX13_acts 14 = .ok (.aload_n 0, 1) := by decide +kernel
theorem d_X13_acts_15 : decode cX13_acts 15 = .ok (.getfield 7, 3) := by decide +kernel
theorem d_X13_acts_18 : decode cX13_acts 18 = .ok (.iload_n 3, 1) := by decide +kernel
theorem d_X13_acts_19 : decode cX13_acts 19 = .ok (.iconst 0, 1) := by decide +kernel
theorem d_X13_acts_20 : decode cX13_acts 20 = .ok (.iadd, 1) := by decide +kernel
theorem d_X13_acts_21 : decode cX13_acts 21 = .ok (.iaload, 1) := by decide +kernel
theorem d_X13_acts_22 : decode cX13_acts 22 = .ok (.iload_n 2, 1) := by decide +kernel
theorem d_X13_acts_23 : decode cX13_acts 23 = .ok (.if_icmp .ge 14, 3) := by decide +kernel
theorem d_X13_acts_26 : decode cX13_acts 26 = .ok (.aload_n 0, 1) := by decide +kernel
theorem d_X13_acts_27 : decode cX13_acts 27 = .ok (.getfield 7, 3) := by decide +kernel
theorem d_X13_acts_30 : decode cX13_acts 30 = .ok (.iload_n 3, 1) := by decide +kernel
theorem d_X13_acts_31 : decode cX13_acts 31 = .ok (.iconst 0, 1) := by decide +kernel
theorem d_X13_acts_32 : decode cX13_acts 32 = .ok (.iadd, 1) := by decide +kernel
theorem d_X13_acts_33 : decode cX13_acts 33 = .ok (.iaload, 1) := by decide +kernel
theorem d_X13_acts_34 : decode cX13_acts 34 = .ok (.goto 4, 3) := by decide +kernel
theorem d_X13_acts_37 : decode cX13_acts 37 = .ok (.iload_n 2, 1) := by decide +kernel
theorem d_X13_acts_38 : decode cX13_acts 38 = .ok (.istore 4, 2) := by decide +kernel
theorem d_X13_acts_40 : decode cX13_acts 40 = .ok (.aload_n 0, 1) := by decide +kernel
theorem d_X13_acts_41 : decode cX13_acts 41 = .ok (.getfield 7, 3) := by decide +kernel
theorem d_X13_acts_44 : decode cX13_acts 44 = .ok (.iload_n 3, 1) := by decide +kernel
theorem d_X13_acts_45 : decode cX13_acts 45 = .ok (.iconst 0, 1) := by decide +kernel
theorem d_X13_acts_46 : decode cX13_acts 46 = .ok (.iadd, 1) := by decide +kernel
theorem d_X13_acts_47 : decode cX13_acts 47 = .ok (.dup2, 1) := by decide +kernel
theorem d_X13_acts_48 : decode cX13_acts 48 = .ok (.iaload, 1) := by decide +kernel
theorem d_X13_acts_49 : decode cX13_acts 49 = .ok (.iload 4, 2) := by decide +kernel
theorem d_X13_acts_51 : decode cX13_acts 51 = .ok (.isub, 1) := by decide +kernel
theorem d_X13_acts_52 : decode cX13_acts 52 = .ok (.iastore, 1) := by decide +kernel
theorem d_X13_acts_53 : decode cX13_acts 53 = .ok (.aload_n 0, 1) := by decide +kernel
theorem d_X13_acts_54 : decode cX13_acts 54 = .ok (.getfield 7, 3) := by decide +kernel
theorem d_X13_acts_57 : decode cX13_acts 57 = .ok (.iload_n 3, 1) := by decide +kernel
theorem d_X13_acts_58 : decode cX13_acts 58 = .ok (.iconst 1, 1) := by decide +kernel
theorem d_X13_acts_59 : decode cX13_acts 59 = .ok (.iadd, 1) := by decide +kernel
theorem d_X13_acts_60 : decode cX13_acts 60 = .ok (.dup2, 1) := by decide +kernel
theorem d_X13_acts_61 : decode cX13_acts 61 = .ok (.iaload, 1) := by decide +kernel
theorem d_X13_acts_62 : decode cX13_acts 62 = .ok (.iload 4, 2) := by decide +kernel
theorem d_X13_acts_64 : decode cX13_acts 64 = .ok (.iadd, 1) := by decide +kernel
theorem d_X13_acts_65 : decode cX13_acts 65 = .ok (.iastore, 1) := by decide +kernel
theorem d_X13_acts_66 : decode cX13_acts 66 = .ok (.goto 164, 3) := by decide +kernel
theorem d_X13_acts_69 : decode cX13_acts 69 = .ok (.iload_n 1, 1) := by decide +kernel
theorem d_X13_acts_70 : decode cX13_acts 70 = .ok (.iconst 1, 1) := by decide +kernel
theorem d_X13_acts_71 : decode cX13_acts 71 = .ok (.if_icmp .ne 58, 3) := by decide +kernel
theorem d_X13_acts_74 : decode cX13_acts 74 = .ok (.aload_n 0, 1) := by decide +kernel
theorem d_X13_acts_75 : decode cX13_acts 75 = .ok (.getfield 7, 3) := by decide +kernel
theorem d_X13_acts_78 : decode cX13_acts 78 = .ok (.iload_n 3, 1) := by decide +kernel
theorem d_X13_acts_79 : decode cX13_acts 79 = .ok (.iconst 1, 1) := by decide +kernel
theorem d_X13_acts_80 : decode cX13_acts 80 = .ok (.iadd, 1) := by decide +kernel
theorem d_X13_acts_81 : decode cX13_acts 81 = .ok (.iaload, 1) := by decide +kernel
theorem d_X13_acts_82 : decode cX13_acts 82 = .ok (.iload_n 2, 1) := by decide +kernel
theorem d_X13_acts_83 : decode cX13_acts 83 = .ok (.if_icmp .ge 14, 3) := by decide +kernel
theorem d_X13_acts_86 : decode cX13_acts 86 = .ok (.aload_n 0, 1) := by decide +kernel
theorem d_X13_acts_87 : decode cX13_acts 87 = .ok (.getfield 7, 3) := by decide +kernel
theorem d_X13_acts_90 : decode cX13_acts 90 = .ok (.iload_n 3, 1) := by decide +kernel
theorem d_X13_acts_91 : decode cX13_acts 91 = .ok (.iconst 1, 1) := by decide +kernel
theorem d_X13_acts_92 : decode cX13_acts 92 = .ok (.iadd, 1) := by decide +kernel
theorem d_X13_acts_93 : decode cX13_acts 93 = .ok (.iaload, 1) := by decide +kernel
theorem d_X13_acts_94 : decode cX13_acts 94 = .ok (.goto 4, 3) := by decide +kernel
theorem d_X13_acts_97 : decode cX13_acts 97 = .ok (.iload_n 2, 1) := by decide +kernel
theorem d_X13_acts_98 : decode cX13_acts 98 = .ok (.istore 4, 2) := by decide +kernel
theorem d_X13_acts_100 : decode cX13_acts 100 = .ok (.aload_n 0, 1) := by decide +kernel
theorem d_X13_acts_101 : decode cX13_acts 101 = .ok (.getfield 7, 3) := by decide +kernel
theorem d_X13_acts_104 : decode cX13_acts 104 = .ok (.iload_n 3, 1) := by decide +kernel
theorem d_X13_acts_105 : decode cX13_acts 105 = .ok (.iconst 1, 1) := by decide +kernel
theorem d_X13_acts_106 : decode cX13_acts 106 = .ok (.iadd, 1) := by decide +kernel
theorem d_X13_acts_107 : decode cX13_acts 107 = .ok (.dup2, 1) := by decide +kernel
theorem d_X13_acts_108 : decode cX13_acts 108 = .ok (.iaload, 1) := by decide +kernel
theorem d_X13_acts_109 : decode cX13_acts 109 = .ok (.iload 4, 2) := by decide +kernel
theorem d_X13_acts_111 : decode cX13_acts 111 = .ok (.isub, 1) := by decide +kernel
theorem d_X13_acts_112 : decode cX13_acts 112 = .ok (.iastore, 1) := by decide +kernel
theorem d_X13_acts_113 : decode cX13_acts 113 = .ok (.aload_n 0, 1) := by decide +kernel
theorem d_X13_acts_114 : decode cX13_acts 114 = .ok (.getfield 7, 3) := by decide +kernel
theorem d_X13_acts_117 : decode cX13_acts 117 = .ok (.iload_n 3, 1) := by decide +kernel
theorem d_X13_acts_118 : decode cX13_acts 118 = .ok (.iconst 2, 1) := by decide +kernel
theorem d_X13_acts_119 : decode cX13_acts 119 = .ok (.iadd, 1) := by decide +kernel
theorem d_X13_acts_120 : decode cX13_acts 120 = .ok (.dup2, 1) := by decide +kernel
theorem d_X13_acts_121 : decode cX13_acts 121 = .ok (.iaload, 1) := by decide +kernel
theorem d_X13_acts_122 : decode cX13_acts 122 = .ok (.iload 4, 2) := by decide +kernel
theorem d_X13_acts_124 : decode cX13_acts 124 = .ok (.iadd, 1) := by decide +kernel
theorem d_X13_acts_125 : decode cX13_acts 125 = .ok (.iastore, 1) := by decide +kernel
theorem d_X13_acts_126 : decode cX13_acts 126 = .ok (.goto 104, 3) := by decide +kernel
theorem d_X13_acts_129 : decode cX13_acts 129 = .ok (.iload_n 1, 1) := by decide +kernel
theorem d_X13_acts_130 : decode cX13_acts 130 = .ok (.iconst 2, 1) := by decide +kernel
theorem d_X13_acts_131 : decode cX13_acts 131 = .ok (.if_icmp .ne 37, 3) := by decide +kernel
theorem d_X13_acts_134 : decode cX13_acts 134 = .ok (.aload_n 0, 1) := by decide +kernel
theorem d_X13_acts_135 : decode cX13_acts 135 = .ok (.getfield 7, 3) := by decide +kernel
theorem d_X13_acts_138 : decode cX13_acts 138 = .ok (.iconst 2, 1) := by decide +kernel
theorem d_X13_acts_139 : decode cX13_acts 139 = .ok (.iaload, 1) := by decide +kernel
theorem d_X13_acts_140 : decode cX13_acts 140 = .ok (.bipush 60, 2) := by decide +kernel
theorem d_X13_acts_142 : decode cX13_acts 142 = .ok (.if_icmp .ne 4, 3) := by decide +kernel
theorem d_X13_acts_145 : decode cX13_acts 145 = .ok (.return_, 1) := by decide +kernel
theorem d_X13_acts_146 : decode cX13_acts 146 = .ok (.aload_n 0, 1) := by decide +kernel
theorem d_X13_acts_147 : decode cX13_acts 147 = .ok (.aload_n 0, 1) := by decide +kernel
theorem d_X13_acts_148 : decode cX13_acts 148 = .ok (.getfield 126, 3) := by decide +kernel
theorem d_X13_acts_151 : decode cX13_acts 151 = .ok (.iconst 1, 1) := by decide +kernel
theorem d_X13_acts_152 : decode cX13_acts 152 = .ok (.aload_n 0, 1) := by decide +kernel
theorem d_X13_acts_153 : decode cX13_acts 153 = .ok (.getfield 7, 3) := by decide +kernel
theorem d_X13_acts_156 : decode cX13_acts 156 = .ok (.iload_n 3, 1) := by decide +kernel
theorem d_X13_acts_157 : decode cX13_acts 157 = .ok (.iconst 1, 1) := by decide +kernel
theorem d_X13_acts_158 : decode cX13_acts 158 = .ok (.iadd, 1) := by decide +kernel
theorem d_X13_acts_159 : decode cX13_acts 159 = .ok (.iaload, 1) := by decide +kernel
theorem d_X13_acts_160 : decode cX13_acts 160 = .ok (.iconst 0, 1) := by decide +kernel
theorem d_X13_acts_161 : decode cX13_acts 161 = .ok (.invokevirtual 213, 3) := by decide +kernel
theorem d_X13_acts_164 : decode cX13_acts 164 = .ok (.pop, 1) := by decide +kernel
theorem d_X13_acts_165 : decode cX13_acts 165 = .ok (.goto 65, 3) := by decide +kernel
theorem d_X13_acts_168 : decode cX13_acts 168 = .ok (.iload_n 2, 1) := by decide +kernel
theorem d_X13_acts_169 : decode cX13_acts 169 = .ok (.aload_n 0, 1) := by decide +kernel
theorem d_X13_acts_170 : decode cX13_acts 170 = .ok (.getfield 7, 3) := by decide +kernel
theorem d_X13_acts_173 : decode cX13_acts 173 = .ok (.iconst 2, 1) := by decide +kernel
theorem d_X13_acts_174 : decode cX13_acts 174 = .ok (.iaload, 1) := by decide +kernel
theorem d_X13_acts_175 : decode cX13_acts 175 = .ok (.if_icmp .ge 36, 3) := by decide +kernel
theorem d_X13_acts_178 : decode cX13_acts 178 = .ok (.aload_n 0, 1) := by decide +kernel
theorem d_X13_acts_179 : decode cX13_acts 179 = .ok (.iload_n 2, 1) := by decide +kernel
theorem d_X13_acts_180 : decode cX13_acts 180 = .ok (.bipush 6, 2) := by decide +kernel
theorem d_X13_acts_182 : decode cX13_acts 182 = .ok (.invokevirtual 132, 3) := by decide +kernel
theorem d_X13_acts_185 : decode cX13_acts 185 = .ok (.aload_n 0, 1) := by decide +kernel
theorem d_X13_acts_186 : decode cX13_acts 186 = .ok (.getfield 126, 3) := by decide +kernel
theorem d_X13_acts_189 : decode cX13_acts 189 = .ok (.ishr, 1) := by decide +kernel
theorem d_X13_acts_190 : decode cX13_acts 190 = .ok (.iconst 1, 1) := by decide +kernel
theorem d_X13_acts_191 : decode cX13_acts 191 = .ok (.iand, 1) := by decide +kernel
theorem d_X13_acts_192 : decode cX13_acts 192 = .ok (.iconst 1, 1) := by decide +kernel
theorem d_X13_acts_193 : decode cX13_acts 193 = .ok (.if_icmp .ne 18, 3) := by decide +kernel
theorem d_X13_acts_196 : decode cX13_acts 196 = .ok (.aload_n 0, 1) := by decide +kernel
theorem d_X13_acts_197 : decode cX13_acts 197 = .ok (.getfield 7, 3) := by decide +kernel
theorem d_X13_acts_200 : decode cX13_acts 200 = .ok (.iload_n 3, 1) := by decide +kernel
theorem d_X13_acts_201 : decode cX13_acts 201 = .ok (.iconst 3, 1) := by decide +kernel
theorem d_X13_acts_202 : decode cX13_acts 202 = .ok (.iadd, 1) := by decide +kernel
theorem d_X13_acts_203 : decode cX13_acts 203 = .ok (.dup2, 1) := by decide +kernel
theorem d_X13_acts_204 : decode cX13_acts 204 = .ok (.iaload, 1) := by decide +kernel
theorem d_X13_acts_205 : decode cX13_acts 205 = .ok (.iconst 1, 1) := by decide +kernel
theorem d_X13_acts_206 : decode cX13_acts 206 = .ok (.iadd, 1) := by decide +kernel
theorem d_X13_acts_207 : decode cX13_acts 207 = .ok (.iastore, 1) := by decide +kernel
theorem d_X13_acts_208 : decode cX13_acts 208 = .ok (.goto 22, 3) := by decide +kernel
theorem d_X13_acts_211 : decode cX13_acts 211 = .ok (.aload_n 0, 1) := by decide +kernel
theorem d_X13_acts_212 : decode cX13_acts 212 = .ok (.getfield 7, 3) := by decide +kernel
theorem d_X13_acts_215 : decode cX13_acts 215 = .ok (.sipush 810, 3) := by decide +kernel
theorem d_X13_acts_218 : decode cX13_acts 218 = .ok (.bipush 60, 2) := by decide +kernel
theorem d_X13_acts_220 : decode cX13_acts 220 = .ok (.aload_n 0, 1) := by decide +kernel
theorem d_X13_acts_221 : decode cX13_acts 221 = .ok (.getfield 126, 3) := by decide +kernel
theorem d_X13_acts_224 : decode cX13_acts 224 = .ok (.imul, 1) := by decide +kernel
theorem d_X13_acts_225 : decode cX13_acts 225 = .ok (.iadd, 1) := by decide +kernel
theorem d_X13_acts_226 : decode cX13_acts 226 = .ok (.iload_n 2, 1) := by decide +kernel
theorem d_X13_acts_227 : decode cX13_acts 227 = .ok (.iadd, 1) := by decide +kernel
theorem d_X13_acts_228 : decode cX13_acts 228 = .ok (.iconst 1, 1) := by decide +kernel
theorem d_X13_acts_229 : decode cX13_acts 229 = .ok (.iastore, 1) := by decide +kernel
theorem d_X13_acts_230 : decode cX13_acts 230 = .ok (.return_, 1) := by decide +kernel
abbrev rm_X13_acts : Room := { frames := 2, cells := 0, slots := 0, locals := 49 }
def B_X13_acts_230 (post : (Nat → Nat → Int32) → Prop) (mm : (Nat → Nat → Int32)) : Prop := post mm
def B_X13_acts_211 (post : (Nat → Nat → Int32) → Prop) (v2 : Int32) (mm : (Nat → Nat → Int32)) : Prop := (vp_in ((810 + (60 * (mm 0 15))) + v2) 25530) ∧ B_X13_acts_230 post (up2 mm 1 (Int32.toNatClampNeg ((810 + (60 * (mm 0 15))) + v2)) 1)
def B_X13_acts_98 (post : (Nat → Nat → Int32) → Prop) (v3 : Int32) (s0 : Int32) (mm : (Nat → Nat → Int32)) : Prop := (vp_in (v3 + 1) 25530) ∧ (vp_in (v3 + 1) 25530) ∧ (vp_in (v3 + 2) 25530) ∧ (vp_in (v3 + 2) 25530) ∧ B_X13_acts_230 post (up2 (up2 mm 1 (Int32.toNatClampNeg (v3 + 1)) ((mm 1 (Int32.toNatClampNeg (v3 + 1))) - s0)) 1 (Int32.toNatClampNeg (v3 + 2)) (((up2 mm 1 (Int32.toNatClampNeg (v3 + 1)) ((mm 1 (Int32.toNatClampNeg (v3 + 1))) - s0)) 1 (Int32.toNatClampNeg (v3 + 2))) + s0))
def B_X13_acts_38 (post : (Nat → Nat → Int32) → Prop) (v3 : Int32) (s0 : Int32) (mm : (Nat → Nat → Int32)) : Prop := (vp_in (v3 + 0) 25530) ∧ (vp_in (v3 + 0) 25530) ∧ (vp_in (v3 + 1) 25530) ∧ (vp_in (v3 + 1) 25530) ∧ B_X13_acts_230 post (up2 (up2 mm 1 (Int32.toNatClampNeg (v3 + 0)) ((mm 1 (Int32.toNatClampNeg (v3 + 0))) - s0)) 1 (Int32.toNatClampNeg (v3 + 1)) (((up2 mm 1 (Int32.toNatClampNeg (v3 + 0)) ((mm 1 (Int32.toNatClampNeg (v3 + 0))) - s0)) 1 (Int32.toNatClampNeg (v3 + 1))) + s0))
def w_X13_acts (post : (Nat → Nat → Int32) → Prop) (x1 : Int32) (x2 : Int32) (mm : (Nat → Nat → Int32)) : Prop := (¬ x1 = 0 → ((¬ x1 = 1 → ((¬ x1 = 2 → (((mm 1 (Int32.toNatClampNeg (2 : Int32))) ≤ x2 → (B_X13_acts_211 post x2 mm)) ∧ (¬ (mm 1 (Int32.toNatClampNeg (2 : Int32))) ≤ x2 → (w_X13_chipOf (fun (r1 : Int32) (u2 : (Nat → Nat → Int32)) => (¬ ((r1 >>> ((u2 0 15) &&& 31)) &&& 1) = 1 → (B_X13_acts_211 post x2 u2)) ∧ (((r1 >>> ((u2 0 15) &&& 31)) &&& 1) = 1 → ((vp_in ((46 + (4 * (mm 0 15))) + 3) 25530) ∧ (vp_in ((46 + (4 * (mm 0 15))) + 3) 25530) ∧ B_X13_acts_230 post (up2 u2 1 (Int32.toNatClampNeg ((46 + (4 * (mm 0 15))) + 3)) ((u2 1 (Int32.toNatClampNeg ((46 + (4 * (mm 0 15))) + 3))) + 1))))) x2 6 mm)))) ∧ (x1 = 2 → ((¬ (mm 1 (Int32.toNatClampNeg (2 : Int32))) = 60 → ((vp_in ((46 + (4 * (mm 0 15))) + 1) 25530) ∧ w_X13_adds (fun (r6 : Int32) (u7 : (Nat → Nat → Int32)) => B_X13_acts_230 post u7) (mm 0 15) 1 (mm 1 (Int32.toNatClampNeg ((46 + (4 * (mm 0 15))) + 1))) 0 mm)) ∧ ((mm 1 (Int32.toNatClampNeg (2 : Int32))) = 60 → (post mm)))))) ∧ (x1 = 1 → ((vp_in ((46 + (4 * (mm 0 15))) + 1) 25530) ∧ (x2 ≤ (mm 1 (Int32.toNatClampNeg ((46 + (4 * (mm 0 15))) + 1))) → (B_X13_acts_98 post (46 + (4 * (mm 0 15))) x2 mm)) ∧ (¬ x2 ≤ (mm 1 (Int32.toNatClampNeg ((46 + (4 * (mm 0 15))) + 1))) → ((vp_in ((46 + (4 * (mm 0 15))) + 1) 25530) ∧ B_X13_acts_98 post (46 + (4 * (mm 0 15))) (mm 1 (Int32.toNatClampNeg ((46 + (4 * (mm 0 15))) + 1))) mm)))))) ∧ (x1 = 0 → ((vp_in ((46 + (4 * (mm 0 15))) + 0) 25530) ∧ (x2 ≤ (mm 1 (Int32.toNatClampNeg ((46 + (4 * (mm 0 15))) + 0))) → (B_X13_acts_38 post (46 + (4 * (mm 0 15))) x2 mm)) ∧ (¬ x2 ≤ (mm 1 (Int32.toNatClampNeg ((46 + (4 * (mm 0 15))) + 0))) → ((vp_in ((46 + (4 * (mm 0 15))) + 0) 25530) ∧ B_X13_acts_38 post (46 + (4 * (mm 0 15))) (mm 1 (Int32.toNatClampNeg ((46 + (4 * (mm 0 15))) + 0))) mm))))
section G_X13_acts
variable {p : Program} {l : Launch} {e : Env} {s : State} {m : MethodId} {args : Array Value} {below : List Frame} {meth : Method} {c : Code} {G : Gd} {ρ : Nat → Nat} {A : Nat → Prop} {cm : CMu} {oo : Nat → Int64}
set_option maxHeartbeats 4000000 in
set_option maxRecDepth 100000 in
theorem T_X13_acts_230 {post : (Nat → Nat → Int32) → Prop} (hl : l.stackTraces = false) (X : MC p l s m args meth c cX13_acts 5 RX13 G ρ A) (hr : meth.sig.returnType = none) (hex : ∀ z ∈ c.exceptionTable.toList, False) : ∀ (mm : (Nat → Nat → Int32)), B_X13_acts_230 post mm → LW p l e rm_X13_acts s m args below meth c (Qm below G ρ A (PV (fun u => (cm, u, oo)) post) noX args s 0 0) G ρ A 5 0 0 230 [] [] (cm, mm, oo) := by
  intro mm h
  unfold B_X13_acts_230 at h
  exact L_vret (pc := 230) X hr d_X13_acts_230 (by decide) (by decide) ⟨_, rfl, rfl, h⟩
set_option maxHeartbeats 4000000 in
set_option maxRecDepth 100000 in
theorem T_X13_acts_211 {post : (Nat → Nat → Int32) → Prop} (hl : l.stackTraces = false) (X : MC p l s m args meth c cX13_acts 5 RX13 G ρ A) (hr : meth.sig.returnType = none) (hex : ∀ z ∈ c.exceptionTable.toList, False) : ∀ (v2 : Int32) (mm : (Nat → Nat → Int32)), B_X13_acts_211 post v2 mm → LW p l e rm_X13_acts s m args below meth c (Qm below G ρ A (PV (fun u => (cm, u, oo)) post) noX args s 0 0) G ρ A 5 0 0 211 [(0, .ref 703), (2, .int v2)] [] (cm, mm, oo) := by
  intro v2 mm h
  unfold B_X13_acts_211 at h
  refine L_aload_n (pc := 211) X d_X13_acts_211 rfl 0 rfl ?_
  refine gf_X13_7 (pc := 212) X d_X13_acts_212 ?_
  refine L_sipush (pc := 215) (v := 810) X d_X13_acts_215 (by decide) ?_
  refine L_bipush (pc := 218) (v := 60) X d_X13_acts_218 (by decide) ?_
  refine L_aload_n (pc := 220) X d_X13_acts_220 rfl 0 rfl ?_
  refine gf_X13_126 (pc := 221) X d_X13_acts_221 ?_
  refine L_imul (pc := 224) X d_X13_acts_224 ?_
  refine L_iadd (pc := 225) X d_X13_acts_225 ?_
  refine L_iload_n (pc := 226) X d_X13_acts_226 rfl 1 rfl ?_
  refine L_iadd (pc := 227) X d_X13_acts_227 ?_
  refine L_iconst (pc := 228) (v := 1) X d_X13_acts_228 (by decide) ?_
  obtain ⟨q20, h⟩ := h
  refine L_iastM (pc := 229) (a := 1) X d_X13_acts_229 kd_704 q20 ?_
  refine LW.sub [] rfl ?_
  exact T_X13_acts_230 hl X hr hex   _ h
set_option maxHeartbeats 4000000 in
set_option maxRecDepth 100000 in
theorem T_X13_acts_98 {post : (Nat → Nat → Int32) → Prop} (hl : l.stackTraces = false) (X : MC p l s m args meth c cX13_acts 5 RX13 G ρ A) (hr : meth.sig.returnType = none) (hex : ∀ z ∈ c.exceptionTable.toList, False) : ∀ (v3 : Int32) (s0 : Int32) (mm : (Nat → Nat → Int32)), B_X13_acts_98 post v3 s0 mm → LW p l e rm_X13_acts s m args below meth c (Qm below G ρ A (PV (fun u => (cm, u, oo)) post) noX args s 0 0) G ρ A 5 0 0 98 [(0, .ref 703), (3, .int v3)] [.int s0] (cm, mm, oo) := by
  intro v3 s0 mm h
  unfold B_X13_acts_98 at h
  refine L_istore (pc := 98) (lv2 := [(4, .int s0), (0, .ref 703), (3, .int v3)]) X d_X13_acts_98 (by decide) rfl ?_
  refine L_aload_n (pc := 100) X d_X13_acts_100 rfl 1 rfl ?_
  refine gf_X13_7 (pc := 101) X d_X13_acts_101 ?_
  refine L_iload_n (pc := 104) X d_X13_acts_104 rfl 2 rfl ?_
  refine L_iconst (pc := 105) (v := 1) X d_X13_acts_105 (by decide) ?_
  refine L_iadd (pc := 106) X d_X13_acts_106 ?_
  refine L_dup2 (pc := 107) X d_X13_acts_107 rfl rfl ?_
  obtain ⟨q16, h⟩ := h
  refine L_ialdM (pc := 108) (a := 1) X d_X13_acts_108 kd_704 q16 ?_
  refine L_iload (pc := 109) X d_X13_acts_109 0 rfl ?_
  refine L_isub (pc := 111) X d_X13_acts_111 ?_
  obtain ⟨q17, h⟩ := h
  refine L_iastM (pc := 112) (a := 1) X d_X13_acts_112 kd_704 q17 ?_
  refine L_aload_n (pc := 113) X d_X13_acts_113 rfl 1 rfl ?_
  refine gf_X13_7 (pc := 114) X d_X13_acts_114 ?_
  refine L_iload_n (pc := 117) X d_X13_acts_117 rfl 2 rfl ?_
  refine L_iconst (pc := 118) (v := 2) X d_X13_acts_118 (by decide) ?_
  refine L_iadd (pc := 119) X d_X13_acts_119 ?_
  refine L_dup2 (pc := 120) X d_X13_acts_120 rfl rfl ?_
  obtain ⟨q18, h⟩ := h
  refine L_ialdM (pc := 121) (a := 1) X d_X13_acts_121 kd_704 q18 ?_
  refine L_iload (pc := 122) X d_X13_acts_122 0 rfl ?_
  refine L_iadd (pc := 124) X d_X13_acts_124 ?_
  obtain ⟨q19, h⟩ := h
  refine L_iastM (pc := 125) (a := 1) X d_X13_acts_125 kd_704 q19 ?_
  refine L_goto (pc := 126) (tgt := 230) X d_X13_acts_126 (by decide) ?_
  refine LW.sub [] rfl ?_
  exact T_X13_acts_230 hl X hr hex   _ h
set_option maxHeartbeats 4000000 in
set_option maxRecDepth 100000 in
theorem T_X13_acts_38 {post : (Nat → Nat → Int32) → Prop} (hl : l.stackTraces = false) (X : MC p l s m args meth c cX13_acts 5 RX13 G ρ A) (hr : meth.sig.returnType = none) (hex : ∀ z ∈ c.exceptionTable.toList, False) : ∀ (v3 : Int32) (s0 : Int32) (mm : (Nat → Nat → Int32)), B_X13_acts_38 post v3 s0 mm → LW p l e rm_X13_acts s m args below meth c (Qm below G ρ A (PV (fun u => (cm, u, oo)) post) noX args s 0 0) G ρ A 5 0 0 38 [(0, .ref 703), (3, .int v3)] [.int s0] (cm, mm, oo) := by
  intro v3 s0 mm h
  unfold B_X13_acts_38 at h
  refine L_istore (pc := 38) (lv2 := [(4, .int s0), (0, .ref 703), (3, .int v3)]) X d_X13_acts_38 (by decide) rfl ?_
  refine L_aload_n (pc := 40) X d_X13_acts_40 rfl 1 rfl ?_
  refine gf_X13_7 (pc := 41) X d_X13_acts_41 ?_
  refine L_iload_n (pc := 44) X d_X13_acts_44 rfl 2 rfl ?_
  refine L_iconst (pc := 45) (v := 0) X d_X13_acts_45 (by decide) ?_
  refine L_iadd (pc := 46) X d_X13_acts_46 ?_
  refine L_dup2 (pc := 47) X d_X13_acts_47 rfl rfl ?_
  obtain ⟨q12, h⟩ := h
  refine L_ialdM (pc := 48) (a := 1) X d_X13_acts_48 kd_704 q12 ?_
  refine L_iload (pc := 49) X d_X13_acts_49 0 rfl ?_
  refine L_isub (pc := 51) X d_X13_acts_51 ?_
  obtain ⟨q13, h⟩ := h
  refine L_iastM (pc := 52) (a := 1) X d_X13_acts_52 kd_704 q13 ?_
  refine L_aload_n (pc := 53) X d_X13_acts_53 rfl 1 rfl ?_
  refine gf_X13_7 (pc := 54) X d_X13_acts_54 ?_
  refine L_iload_n (pc := 57) X d_X13_acts_57 rfl 2 rfl ?_
  refine L_iconst (pc := 58) (v := 1) X d_X13_acts_58 (by decide) ?_
  refine L_iadd (pc := 59) X d_X13_acts_59 ?_
  refine L_dup2 (pc := 60) X d_X13_acts_60 rfl rfl ?_
  obtain ⟨q14, h⟩ := h
  refine L_ialdM (pc := 61) (a := 1) X d_X13_acts_61 kd_704 q14 ?_
  refine L_iload (pc := 62) X d_X13_acts_62 0 rfl ?_
  refine L_iadd (pc := 64) X d_X13_acts_64 ?_
  obtain ⟨q15, h⟩ := h
  refine L_iastM (pc := 65) (a := 1) X d_X13_acts_65 kd_704 q15 ?_
  refine L_goto (pc := 66) (tgt := 230) X d_X13_acts_66 (by decide) ?_
  refine LW.sub [] rfl ?_
  exact T_X13_acts_230 hl X hr hex   _ h
set_option maxHeartbeats 4000000 in
set_option maxRecDepth 100000 in
theorem c_X13_acts (hl : l.stackTraces = false) {x1 : Int32} {x2 : Int32} {mm : (Nat → Nat → Int32)} {post : (Nat → Nat → Int32) → Prop} (h : w_X13_acts post x1 x2 mm) : CT l yX13_acts (.code yX13_acts cX13_acts 5 none) rm_X13_acts 0 0 G ρ [.ref 703, .int x1, .int x2] (cm, mm, oo) (PV (fun u => (cm, u, oo)) post) noX := by
  refine CT_of hl (by decide +kernel) rfl (Nat.le_of_ble_eq_true rfl) (lv0 := [(0, .ref 703), (1, .int x1), (2, .int x2)]) rfl (fun p e s m args below meth c A X hr hex hnm => ?_)
  unfold w_X13_acts at h
  refine L_bipush (pc := 0) (v := 46) X d_X13_acts_0 (by decide) ?_
  refine L_iconst (pc := 2) (v := 4) X d_X13_acts_2 (by decide) ?_
  refine L_aload_n (pc := 3) X d_X13_acts_3 rfl 0 rfl ?_
  refine gf_X13_126 (pc := 4) X d_X13_acts_4 ?_
  refine L_imul (pc := 7) X d_X13_acts_7 ?_
  refine L_iadd (pc := 8) X d_X13_acts_8 ?_
  refine L_istore_n (pc := 9) (lv2 := [(3, .int (46 + (4 * (mm 0 15)))), (0, .ref 703), (1, .int x1), (2, .int x2)]) X d_X13_acts_9 rfl (by decide) rfl ?_
  refine L_iload_n (pc := 10) X d_X13_acts_10 rfl 2 rfl ?_
  refine L_if_ne (pc := 11) (tgt := 69) X d_X13_acts_11 (by decide) (fun c11 => ?_) (fun c11 => ?_)
  · replace h := h.1 c11
    refine L_iload_n (pc := 69) X d_X13_acts_69 rfl 2 rfl ?_
    refine L_iconst (pc := 70) (v := 1) X d_X13_acts_70 (by decide) ?_
    refine L_icmp_ne (pc := 71) (tgt := 129) X d_X13_acts_71 (by decide) (fun c71 => ?_) (fun c71 => ?_)
    · replace h := h.1 c71
      refine L_iload_n (pc := 129) X d_X13_acts_129 rfl 2 rfl ?_
      refine L_iconst (pc := 130) (v := 2) X d_X13_acts_130 (by decide) ?_
      refine L_icmp_ne (pc := 131) (tgt := 168) X d_X13_acts_131 (by decide) (fun c131 => ?_) (fun c131 => ?_)
      · replace h := h.1 c131
        refine L_iload_n (pc := 168) X d_X13_acts_168 rfl 3 rfl ?_
        refine L_aload_n (pc := 169) X d_X13_acts_169 rfl 1 rfl ?_
        refine gf_X13_7 (pc := 170) X d_X13_acts_170 ?_
        refine L_iconst (pc := 173) (v := 2) X d_X13_acts_173 (by decide) ?_
        refine L_ialdM (pc := 174) (a := 1) X d_X13_acts_174 kd_704 (by unfold vp_in; decide) ?_
        refine L_icmp_ge (pc := 175) (tgt := 211) X d_X13_acts_175 (by decide) (fun c175 => ?_) (fun c175 => ?_)
        · replace h := h.1 c175
          refine LW.sub [1, 3] rfl ?_
          exact T_X13_acts_211 hl X hr hex _  _ h
        · replace h := h.2 c175
          refine L_aload_n (pc := 178) X d_X13_acts_178 rfl 1 rfl ?_
          refine L_iload_n (pc := 179) X d_X13_acts_179 rfl 3 rfl ?_
          refine L_bipush (pc := 180) (v := 6) X d_X13_acts_180 (by decide) ?_
          refine L_callVI (pc := 182) X lk_X13_132 (c_X13_chipOf X.hst  h) rfl rfl kd_703 (by decide) rfl rfl ⟨by decide, by decide⟩ ⟨by decide, by decide⟩ (Nat.zero_le _) d_X13_acts_182 rfl (fun x κ1 hx => L_nox hx) (fun r1 u2 h => ?_)
          refine L_aload_n (pc := 185) X d_X13_acts_185 rfl 1 rfl ?_
          refine gf_X13_126 (pc := 186) X d_X13_acts_186 ?_
          refine L_ishr (pc := 189) X d_X13_acts_189 ?_
          refine L_iconst (pc := 190) (v := 1) X d_X13_acts_190 (by decide) ?_
          refine L_iand (pc := 191) X d_X13_acts_191 ?_
          refine L_iconst (pc := 192) (v := 1) X d_X13_acts_192 (by decide) ?_
          refine L_icmp_ne (pc := 193) (tgt := 211) X d_X13_acts_193 (by decide) (fun c193 => ?_) (fun c193 => ?_)
          · replace h := h.1 c193
            refine LW.sub [1, 3] rfl ?_
            exact T_X13_acts_211 hl X hr hex _  _ h
          · replace h := h.2 c193
            refine L_aload_n (pc := 196) X d_X13_acts_196 rfl 1 rfl ?_
            refine gf_X13_7 (pc := 197) X d_X13_acts_197 ?_
            refine L_iload_n (pc := 200) X d_X13_acts_200 rfl 0 rfl ?_
            refine L_iconst (pc := 201) (v := 3) X d_X13_acts_201 (by decide) ?_
            refine L_iadd (pc := 202) X d_X13_acts_202 ?_
            refine L_dup2 (pc := 203) X d_X13_acts_203 rfl rfl ?_
            obtain ⟨q3, h⟩ := h
            refine L_ialdM (pc := 204) (a := 1) X d_X13_acts_204 kd_704 q3 ?_
            refine L_iconst (pc := 205) (v := 1) X d_X13_acts_205 (by decide) ?_
            refine L_iadd (pc := 206) X d_X13_acts_206 ?_
            obtain ⟨q4, h⟩ := h
            refine L_iastM (pc := 207) (a := 1) X d_X13_acts_207 kd_704 q4 ?_
            refine L_goto (pc := 208) (tgt := 230) X d_X13_acts_208 (by decide) ?_
            refine LW.sub [] rfl ?_
            exact T_X13_acts_230 hl X hr hex   _ h
      · replace h := h.2 c131
        refine L_aload_n (pc := 134) X d_X13_acts_134 rfl 1 rfl ?_
        refine gf_X13_7 (pc := 135) X d_X13_acts_135 ?_
        refine L_iconst (pc := 138) (v := 2) X d_X13_acts_138 (by decide) ?_
        refine L_ialdM (pc := 139) (a := 1) X d_X13_acts_139 kd_704 (by unfold vp_in; decide) ?_
        refine L_bipush (pc := 140) (v := 60) X d_X13_acts_140 (by decide) ?_
        refine L_icmp_ne (pc := 142) (tgt := 146) X d_X13_acts_142 (by decide) (fun c142 => ?_) (fun c142 => ?_)
        · replace h := h.1 c142
          refine L_aload_n (pc := 146) X d_X13_acts_146 rfl 1 rfl ?_
          refine L_aload_n (pc := 147) X d_X13_acts_147 rfl 1 rfl ?_
          refine gf_X13_126 (pc := 148) X d_X13_acts_148 ?_
          refine L_iconst (pc := 151) (v := 1) X d_X13_acts_151 (by decide) ?_
          refine L_aload_n (pc := 152) X d_X13_acts_152 rfl 1 rfl ?_
          refine gf_X13_7 (pc := 153) X d_X13_acts_153 ?_
          refine L_iload_n (pc := 156) X d_X13_acts_156 rfl 0 rfl ?_
          refine L_iconst (pc := 157) (v := 1) X d_X13_acts_157 (by decide) ?_
          refine L_iadd (pc := 158) X d_X13_acts_158 ?_
          obtain ⟨q5, h⟩ := h
          refine L_ialdM (pc := 159) (a := 1) X d_X13_acts_159 kd_704 q5 ?_
          refine L_iconst (pc := 160) (v := 0) X d_X13_acts_160 (by decide) ?_
          refine L_callVI (pc := 161) X lk_X13_213 (c_X13_adds X.hst  h) rfl rfl kd_703 (by decide) rfl rfl ⟨by decide, by decide⟩ ⟨by decide, by decide⟩ (Nat.zero_le _) d_X13_acts_161 rfl (fun x κ1 hx => L_nox hx) (fun r6 u7 h => ?_)
          refine L_pop (pc := 164) X d_X13_acts_164 rfl ?_
          refine L_goto (pc := 165) (tgt := 230) X d_X13_acts_165 (by decide) ?_
          refine LW.sub [] rfl ?_
          exact T_X13_acts_230 hl X hr hex   _ h
        · replace h := h.2 c142
          exact L_vret (pc := 145) X hr d_X13_acts_145 (by decide) (by decide) ⟨_, rfl, rfl, h⟩
    · replace h := h.2 c71
      refine L_aload_n (pc := 74) X d_X13_acts_74 rfl 1 rfl ?_
      refine gf_X13_7 (pc := 75) X d_X13_acts_75 ?_
      refine L_iload_n (pc := 78) X d_X13_acts_78 rfl 0 rfl ?_
      refine L_iconst (pc := 79) (v := 1) X d_X13_acts_79 (by decide) ?_
      refine L_iadd (pc := 80) X d_X13_acts_80 ?_
      obtain ⟨q8, h⟩ := h
      refine L_ialdM (pc := 81) (a := 1) X d_X13_acts_81 kd_704 q8 ?_
      refine L_iload_n (pc := 82) X d_X13_acts_82 rfl 3 rfl ?_
      refine L_icmp_ge (pc := 83) (tgt := 97) X d_X13_acts_83 (by decide) (fun c83 => ?_) (fun c83 => ?_)
      · replace h := h.1 c83
        refine L_iload_n (pc := 97) X d_X13_acts_97 rfl 3 rfl ?_
        refine LW.sub [1, 0] rfl ?_
        exact T_X13_acts_98 hl X hr hex _ _  _ h
      · replace h := h.2 c83
        refine L_aload_n (pc := 86) X d_X13_acts_86 rfl 1 rfl ?_
        refine gf_X13_7 (pc := 87) X d_X13_acts_87 ?_
        refine L_iload_n (pc := 90) X d_X13_acts_90 rfl 0 rfl ?_
        refine L_iconst (pc := 91) (v := 1) X d_X13_acts_91 (by decide) ?_
        refine L_iadd (pc := 92) X d_X13_acts_92 ?_
        obtain ⟨q9, h⟩ := h
        refine L_ialdM (pc := 93) (a := 1) X d_X13_acts_93 kd_704 q9 ?_
        refine L_goto (pc := 94) (tgt := 98) X d_X13_acts_94 (by decide) ?_
        refine LW.sub [1, 0] rfl ?_
        exact T_X13_acts_98 hl X hr hex _ _  _ h
  · replace h := h.2 c11
    refine L_aload_n (pc := 14) X d_X13_acts_14 rfl 1 rfl ?_
    refine gf_X13_7 (pc := 15) X d_X13_acts_15 ?_
    refine L_iload_n (pc := 18) X d_X13_acts_18 rfl 0 rfl ?_
    refine L_iconst (pc := 19) (v := 0) X d_X13_acts_19 (by decide) ?_
    refine L_iadd (pc := 20) X d_X13_acts_20 ?_
    obtain ⟨q10, h⟩ := h
    refine L_ialdM (pc := 21) (a := 1) X d_X13_acts_21 kd_704 q10 ?_
    refine L_iload_n (pc := 22) X d_X13_acts_22 rfl 3 rfl ?_
    refine L_icmp_ge (pc := 23) (tgt := 37) X d_X13_acts_23 (by decide) (fun c23 => ?_) (fun c23 => ?_)
    · replace h := h.1 c23
      refine L_iload_n (pc := 37) X d_X13_acts_37 rfl 3 rfl ?_
      refine LW.sub [1, 0] rfl ?_
      exact T_X13_acts_38 hl X hr hex _ _  _ h
    · replace h := h.2 c23
      refine L_aload_n (pc := 26) X d_X13_acts_26 rfl 1 rfl ?_
      refine gf_X13_7 (pc := 27) X d_X13_acts_27 ?_
      refine L_iload_n (pc := 30) X d_X13_acts_30 rfl 0 rfl ?_
      refine L_iconst (pc := 31) (v := 0) X d_X13_acts_31 (by decide) ?_
      refine L_iadd (pc := 32) X d_X13_acts_32 ?_
      obtain ⟨q11, h⟩ := h
      refine L_ialdM (pc := 33) (a := 1) X d_X13_acts_33 kd_704 q11 ?_
      refine L_goto (pc := 34) (tgt := 38) X d_X13_acts_34 (by decide) ?_
      refine LW.sub [1, 0] rfl ?_
      exact T_X13_acts_38 hl X hr hex _ _  _ h
end G_X13_acts
theorem yk_X13_asks : yX13_asks.cls = RX13 ∧ yX13_asks.cls ≠ "java/lang/invoke/MethodHandle" ∧ yX13_asks.cls ≠ "java/lang/invoke/VarHandle" ∧ (parseMethodDescriptor yX13_asks.desc).map (fun d => d.parameters.length) = some 0 := by decide +kernel
theorem lk_X13_181 : LinkV RX13 181 RX13 yX13_asks (.code yX13_asks cX13_asks 2 none) 0 := ⟨tw_1402, tw_1404, tw_45, tw_83, tw_1405, yk_X13_asks⟩
theorem yk_X13_acts : yX13_acts.cls = RX13 ∧ yX13_acts.cls ≠ "java/lang/invoke/MethodHandle" ∧ yX13_acts.cls ≠ "java/lang/invoke/VarHandle" ∧ (parseMethodDescriptor yX13_acts.desc).map (fun d => d.parameters.length) = some 2 := by decide +kernel
theorem lk_X13_186 : LinkV RX13 186 RX13 yX13_acts (.code yX13_acts cX13_acts 5 none) 2 := ⟨tw_1447, tw_1449, tw_54, tw_83, tw_1450, yk_X13_acts⟩
theorem d_X13_act_0 : decode cX13_act 0 = .ok (.aload_n 0, 1) := by decide +kernel
theorem d_X13_act_1 : decode cX13_act 1 = .ok (.ldc 173, 2) := by decide +kernel
theorem d_X13_act_3 : decode cX13_act 3 = .ok (.invokevirtual 89, 3) := by decide +kernel
theorem d_X13_act_6 : decode cX13_act 6 = .ok (.ifCond .eq 7, 3) := by decide +kernel
theorem d_X13_act_9 : decode cX13_act 9 = .ok (.iconst 0, 1) := by decide +kernel
theorem d_X13_act_10 : decode cX13_act 10 = .ok (.goto 43, 3) := by decide +kernel
theorem d_X13_act_13 : decode cX13_act 13 = .ok (.aload_n 0, 1) := by decide +kernel
theorem d_X13_act_14 : decode cX13_act 14 = .ok (.ldc 175, 2) := by decide +kernel
theorem d_X13_act_16 : decode cX13_act 16 = .ok (.invokevirtual 89, 3) := by decide +kernel
theorem d_X13_act_19 : decode cX13_act 19 = .ok (.ifCond .eq 7, 3) := by decide +kernel
theorem d_X13_act_22 : decode cX13_act 22 = .ok (.iconst 1, 1) := by decide +kernel
theorem d_X13_act_23 : decode cX13_act 23 = .ok (.goto 30, 3) := by decide +kernel
theorem d_X13_act_26 : decode cX13_act 26 = .ok (.aload_n 0, 1) := by decide +kernel
theorem d_X13_act_27 : decode cX13_act 27 = .ok (.ldc 177, 2) := by decide +kernel
theorem d_X13_act_29 : decode cX13_act 29 = .ok (.invokevirtual 89, 3) := by decide +kernel
theorem d_X13_act_32 : decode cX13_act 32 = .ok (.ifCond .eq 7, 3) := by decide +kernel
theorem d_X13_act_35 : decode cX13_act 35 = .ok (.iconst 2, 1) := by decide +kernel
theorem d_X13_act_36 : decode cX13_act 36 = .ok (.goto 17, 3) := by decide +kernel
theorem d_X13_act_39 : decode cX13_act 39 = .ok (.aload_n 0, 1) := by decide +kernel
theorem d_X13_act_40 : decode cX13_act 40 = .ok (.ldc 179, 2) := by decide +kernel
theorem d_X13_act_42 : decode cX13_act 42 = .ok (.invokevirtual 89, 3) := by decide +kernel
theorem d_X13_act_45 : decode cX13_act 45 = .ok (.ifCond .eq 7, 3) := by decide +kernel
theorem d_X13_act_48 : decode cX13_act 48 = .ok (.iconst 3, 1) := by decide +kernel
theorem d_X13_act_49 : decode cX13_act 49 = .ok (.goto 4, 3) := by decide +kernel
theorem d_X13_act_52 : decode cX13_act 52 = .ok (.iconst (-1), 1) := by decide +kernel
theorem d_X13_act_53 : decode cX13_act 53 = .ok (.istore_n 1, 1) := by decide +kernel
theorem d_X13_act_54 : decode cX13_act 54 = .ok (.iload_n 1, 1) := by decide +kernel
theorem d_X13_act_55 : decode cX13_act 55 = .ok (.iconst (-1), 1) := by decide +kernel
theorem d_X13_act_56 : decode cX13_act 56 = .ok (.if_icmp .ne 12, 3) := by decide +kernel
theorem d_X13_act_59 : decode cX13_act 59 = .ok (.aload_n 0, 1) := by decide +kernel
theorem d_X13_act_60 : decode cX13_act 60 = .ok (.aload_n 0, 1) := by decide +kernel
theorem d_X13_act_61 : decode cX13_act 61 = .ok (.getfield 60, 3) := by decide +kernel
theorem d_X13_act_64 : decode cX13_act 64 = .ok (.invokevirtual 83, 3) := by decide +kernel
theorem d_X13_act_67 : decode cX13_act 67 = .ok (.return_, 1) := by decide +kernel
theorem d_X13_act_68 : decode cX13_act 68 = .ok (.iload_n 1, 1) := by decide +kernel
theorem d_X13_act_69 : decode cX13_act 69 = .ok (.iconst 2, 1) := by decide +kernel
theorem d_X13_act_70 : decode cX13_act 70 = .ok (.if_icmp .ge 14, 3) := by decide +kernel
theorem d_X13_act_73 : decode cX13_act 73 = .ok (.aload_n 0, 1) := by decide +kernel
theorem d_X13_act_74 : decode cX13_act 74 = .ok (.iconst 1, 1) := by decide +kernel
theorem d_X13_act_75 : decode cX13_act 75 = .ok (.sipush 999, 3) := by decide +kernel
theorem d_X13_act_78 : decode cX13_act 78 = .ok (.invokevirtual 93, 3) := by decide +kernel
theorem d_X13_act_81 : decode cX13_act 81 = .ok (.goto 19, 3) := by decide +kernel
theorem d_X13_act_84 : decode cX13_act 84 = .ok (.iload_n 1, 1) := by decide +kernel
theorem d_X13_act_85 : decode cX13_act 85 = .ok (.iconst 3, 1) := by decide +kernel
theorem d_X13_act_86 : decode cX13_act 86 = .ok (.if_icmp .ne 13, 3) := by decide +kernel
theorem d_X13_act_89 : decode cX13_act 89 = .ok (.aload_n 0, 1) := by decide +kernel
theorem d_X13_act_90 : decode cX13_act 90 = .ok (.iconst 0, 1) := by decide +kernel
theorem d_X13_act_91 : decode cX13_act 91 = .ok (.bipush 59, 2) := by decide +kernel
theorem d_X13_act_93 : decode cX13_act 93 = .ok (.invokevirtual 93, 3) := by decide +kernel
theorem d_X13_act_96 : decode cX13_act 96 = .ok (.goto 4, 3) := by decide +kernel
theorem d_X13_act_99 : decode cX13_act 99 = .ok (.iconst 0, 1) := by decide +kernel
theorem d_X13_act_100 : decode cX13_act 100 = .ok (.istore_n 2, 1) := by decide +kernel
theorem d_X13_act_101 : decode cX13_act 101 = .ok (.aload_n 0, 1) := by decide +kernel
theorem d_X13_act_102 : decode cX13_act 102 = .ok (.getfield 22, 3) := by decide +kernel
theorem d_X13_act_105 : decode cX13_act 105 = .ok (.iconst (-1), 1) := by decide +kernel
theorem d_X13_act_106 : decode cX13_act 106 = .ok (.if_icmp .eq 4, 3) := by decide +kernel
theorem d_X13_act_109 : decode cX13_act 109 = .ok (.return_, 1) := by decide +kernel
theorem d_X13_act_110 : decode cX13_act 110 = .ok (.aload_n 0, 1) := by decide +kernel
theorem d_X13_act_111 : decode cX13_act 111 = .ok (.invokevirtual 181, 3) := by decide +kernel
theorem d_X13_act_114 : decode cX13_act 114 = .ok (.iload_n 1, 1) := by decide +kernel
theorem d_X13_act_115 : decode cX13_act 115 = .ok (.iconst 3, 1) := by decide +kernel
theorem d_X13_act_116 : decode cX13_act 116 = .ok (.if_icmp .eq 19, 3) := by decide +kernel
theorem d_X13_act_119 : decode cX13_act 119 = .ok (.aload_n 0, 1) := by decide +kernel
theorem d_X13_act_120 : decode cX13_act 120 = .ok (.ldc 184, 2) := by decide +kernel
theorem d_X13_act_122 : decode cX13_act 122 = .ok (.invokevirtual 89, 3) := by decide +kernel
theorem d_X13_act_125 : decode cX13_act 125 = .ok (.ifCond .eq 10, 3) := by decide +kernel
theorem d_X13_act_128 : decode cX13_act 128 = .ok (.aload_n 0, 1) := by decide +kernel
theorem d_X13_act_129 : decode cX13_act 129 = .ok (.invokevirtual 163, 3) := by decide +kernel
theorem d_X13_act_132 : decode cX13_act 132 = .ok (.ifCond .eq 7, 3) := by decide +kernel
theorem d_X13_act_135 : decode cX13_act 135 = .ok (.iconst 1, 1) := by decide +kernel
theorem d_X13_act_136 : decode cX13_act 136 = .ok (.goto 4, 3) := by decide +kernel
theorem d_X13_act_139 : decode cX13_act 139 = .ok (.iconst 0, 1) := by decide +kernel
theorem d_X13_act_140 : decode cX13_act 140 = .ok (.istore_n 3, 1) := by decide +kernel
theorem d_X13_act_141 : decode cX13_act 141 = .ok (.aload_n 0, 1) := by decide +kernel
theorem d_X13_act_142 : decode cX13_act 142 = .ok (.getfield 22, 3) := by decide +kernel
theorem d_X13_act_145 : decode cX13_act 145 = .ok (.iconst (-1), 1) := by decide +kernel
theorem d_X13_act_146 : decode cX13_act 146 = .ok (.if_icmp .ne 20, 3) := by decide +kernel
theorem d_X13_act_149 : decode cX13_act 149 = .ok (.aload_n 0, 1) := by decide +kernel
theorem d_X13_act_150 : decode cX13_act 150 = .ok (.getfield 122, 3) := by decide +kernel
theorem d_X13_act_153 : decode cX13_act 153 = .ok (.ifCond .eq 13, 3) := by decide +kernel
theorem d_X13_act_156 : decode cX13_act 156 = .ok (.iload_n 3, 1) := by decide +kernel
theorem d_X13_act_157 : decode cX13_act 157 = .ok (.ifCond .eq 9, 3) := by decide +kernel
theorem d_X13_act_160 : decode cX13_act 160 = .ok (.aload_n 0, 1) := by decide +kernel
theorem d_X13_act_161 : decode cX13_act 161 = .ok (.iload_n 1, 1) := by decide +kernel
theorem d_X13_act_162 : decode cX13_act 162 = .ok (.iload_n 2, 1) := by decide +kernel
theorem d_X13_act_163 : decode cX13_act 163 = .ok (.invokevirtual 186, 3) := by decide +kernel
theorem d_X13_act_166 : decode cX13_act 166 = .ok (.return_, 1) := by decide +kernel
abbrev rm_X13_act : Room := { frames := 39, cells := 0, slots := 0, locals := 885 }
def B_X13_act_166 (post : (Nat → Nat → Int32) → Prop) (mm : (Nat → Nat → Int32)) : Prop := post mm
def B_X13_act_140 (post : (Nat → Nat → Int32) → Prop) (v1 : Int32) (v2 : Int32) (s0 : Bool) (mm : (Nat → Nat → Int32)) : Prop := (¬ (mm 0 10) = (-1) → (B_X13_act_166 post mm)) ∧ ((mm 0 10) = (-1) → (((mm 0 13) = 0 → (B_X13_act_166 post mm)) ∧ (¬ (mm 0 13) = 0 → (((s0 = false) → (B_X13_act_166 post mm)) ∧ (¬ (s0 = false) → (w_X13_acts (fun (u22 : (Nat → Nat → Int32)) => B_X13_act_166 post u22) v1 v2 mm))))))
def B_X13_act_135 (post : (Nat → Nat → Int32) → Prop) (v1 : Int32) (v2 : Int32) (mm : (Nat → Nat → Int32)) : Prop := B_X13_act_140 post v1 v2 true mm
def B_X13_act_100 (post : (Nat → Nat → Int32) → Prop) (v1 : Int32) (s0 : Int32) (mm : (Nat → Nat → Int32)) : Prop := ((mm 0 10) = (-1) → (w_X13_asks (fun (u16 : (Nat → Nat → Int32)) => (v1 = 3 → (B_X13_act_135 post v1 s0 u16)) ∧ (¬ v1 = 3 → (w_X13_has (fun (r17 : Bool) (u18 : (Nat → Nat → Int32)) => ((r17 = false) → (B_X13_act_135 post v1 s0 u18)) ∧ (¬ (r17 = false) → (w_X13_some (fun (r19 : Bool) (u20 : (Nat → Nat → Int32)) => ((r19 = false) → (B_X13_act_140 post v1 s0 false u20)) ∧ (¬ (r19 = false) → (B_X13_act_135 post v1 s0 u20)))  u18))) 12 u16)))  mm)) ∧ (¬ (mm 0 10) = (-1) → (post mm))
def B_X13_act_53 (post : (Nat → Nat → Int32) → Prop) (s0 : Int32) (mm : (Nat → Nat → Int32)) : Prop := (¬ s0 = (-1) → ((2 ≤ s0 → ((¬ s0 = 3 → (B_X13_act_100 post s0 0 mm)) ∧ (s0 = 3 → (w_X13_figures (fun (r9 : Int32) (u10 : (Nat → Nat → Int32)) => B_X13_act_100 post s0 r9 u10) 0 59 mm)))) ∧ (¬ 2 ≤ s0 → (w_X13_figures (fun (r11 : Int32) (u12 : (Nat → Nat → Int32)) => B_X13_act_100 post s0 r11 u12) 1 999 mm)))) ∧ (s0 = (-1) → (w_X13_wrong (fun (u14 : (Nat → Nat → Int32)) => post u14) (mm 0 9) mm))
def w_X13_act (post : (Nat → Nat → Int32) → Prop) (mm : (Nat → Nat → Int32)) : Prop := w_X13_has (fun (r1 : Bool) (u2 : (Nat → Nat → Int32)) => ((r1 = false) → (w_X13_has (fun (r3 : Bool) (u4 : (Nat → Nat → Int32)) => ((r3 = false) → (w_X13_has (fun (r5 : Bool) (u6 : (Nat → Nat → Int32)) => ((r5 = false) → (w_X13_has (fun (r7 : Bool) (u8 : (Nat → Nat → Int32)) => ((r7 = false) → (B_X13_act_53 post (-1) u8)) ∧ (¬ (r7 = false) → (B_X13_act_53 post 3 u8))) 11 u6)) ∧ (¬ (r5 = false) → (B_X13_act_53 post 2 u6))) 10 u4)) ∧ (¬ (r3 = false) → (B_X13_act_53 post 1 u4))) 9 u2)) ∧ (¬ (r1 = false) → (B_X13_act_53 post 0 u2))) 8 mm
section G_X13_act
variable {p : Program} {l : Launch} {e : Env} {s : State} {m : MethodId} {args : Array Value} {below : List Frame} {meth : Method} {c : Code} {G : Gd} {ρ : Nat → Nat} {A : Nat → Prop} {cm : CMu} {oo : Nat → Int64}
set_option maxHeartbeats 4000000 in
set_option maxRecDepth 100000 in
theorem T_X13_act_166 {post : (Nat → Nat → Int32) → Prop} (hl : l.stackTraces = false) (X : MC p l s m args meth c cX13_act 4 RX13 G ρ A) (hr : meth.sig.returnType = none) (hex : ∀ z ∈ c.exceptionTable.toList, False) : ∀ (mm : (Nat → Nat → Int32)), B_X13_act_166 post mm → LW p l e rm_X13_act s m args below meth c (Qm below G ρ A (PV (fun u => (cm, u, oo)) post) noX args s 0 0) G ρ A 4 0 0 166 [] [] (cm, mm, oo) := by
  intro mm h
  unfold B_X13_act_166 at h
  exact L_vret (pc := 166) X hr d_X13_act_166 (by decide) (by decide) ⟨_, rfl, rfl, h⟩
set_option maxHeartbeats 4000000 in
set_option maxRecDepth 100000 in
theorem T_X13_act_140 {post : (Nat → Nat → Int32) → Prop} (hl : l.stackTraces = false) (X : MC p l s m args meth c cX13_act 4 RX13 G ρ A) (hr : meth.sig.returnType = none) (hex : ∀ z ∈ c.exceptionTable.toList, False) : ∀ (v1 : Int32) (v2 : Int32) (s0 : Bool) (mm : (Nat → Nat → Int32)), B_X13_act_140 post v1 v2 s0 mm → LW p l e rm_X13_act s m args below meth c (Qm below G ρ A (PV (fun u => (cm, u, oo)) post) noX args s 0 0) G ρ A 4 0 0 140 [(0, .ref 703), (1, .int v1), (2, .int v2)] [.int (b2 s0)] (cm, mm, oo) := by
  intro v1 v2 s0 mm h
  unfold B_X13_act_140 at h
  refine L_istore_n (pc := 140) (lv2 := [(3, .int (b2 s0)), (0, .ref 703), (1, .int v1), (2, .int v2)]) X d_X13_act_140 rfl (by decide) rfl ?_
  refine L_aload_n (pc := 141) X d_X13_act_141 rfl 1 rfl ?_
  refine gf_X13_22 (pc := 142) X d_X13_act_142 ?_
  refine L_iconst (pc := 145) (v := (-1)) X d_X13_act_145 (by decide) ?_
  refine L_icmp_ne (pc := 146) (tgt := 166) X d_X13_act_146 (by decide) (fun c146 => ?_) (fun c146 => ?_)
  · replace h := h.1 c146
    refine LW.sub [] rfl ?_
    exact T_X13_act_166 hl X hr hex   _ h
  · replace h := h.2 c146
    refine L_aload_n (pc := 149) X d_X13_act_149 rfl 1 rfl ?_
    refine gf_X13_122 (pc := 150) X d_X13_act_150 ?_
    refine L_if_eq (pc := 153) (tgt := 166) X d_X13_act_153 (by decide) (fun c153 => ?_) (fun c153 => ?_)
    · replace h := h.1 c153
      refine LW.sub [] rfl ?_
      exact T_X13_act_166 hl X hr hex   _ h
    · replace h := h.2 c153
      refine L_iload_n (pc := 156) X d_X13_act_156 rfl 0 rfl ?_
      refine L_if_eq (pc := 157) (tgt := 166) X d_X13_act_157 (by decide) (fun c157 => ?_) (fun c157 => ?_)
      · replace h := h.1 ((b2_0 _).mp c157)
        refine LW.sub [] rfl ?_
        exact T_X13_act_166 hl X hr hex   _ h
      · replace h := h.2 (fun z => c157 ((b2_0 _).mpr z))
        refine L_aload_n (pc := 160) X d_X13_act_160 rfl 1 rfl ?_
        refine L_iload_n (pc := 161) X d_X13_act_161 rfl 2 rfl ?_
        refine L_iload_n (pc := 162) X d_X13_act_162 rfl 3 rfl ?_
        refine L_callVV (pc := 163) X lk_X13_186 (c_X13_acts X.hst  h) rfl rfl kd_703 (by decide) rfl rfl ⟨by decide, by decide⟩ ⟨by decide, by decide⟩ (Nat.zero_le _) d_X13_act_163 rfl (fun x κ1 hx => L_nox hx) (fun u22 h => ?_)
        refine LW.sub [] rfl ?_
        exact T_X13_act_166 hl X hr hex   _ h
set_option maxHeartbeats 4000000 in
set_option maxRecDepth 100000 in
theorem T_X13_act_135 {post : (Nat → Nat → Int32) → Prop} (hl : l.stackTraces = false) (X : MC p l s m args meth c cX13_act 4 RX13 G ρ A) (hr : meth.sig.returnType = none) (hex : ∀ z ∈ c.exceptionTable.toList, False) : ∀ (v1 : Int32) (v2 : Int32) (mm : (Nat → Nat → Int32)), B_X13_act_135 post v1 v2 mm → LW p l e rm_X13_act s m args below meth c (Qm below G ρ A (PV (fun u => (cm, u, oo)) post) noX args s 0 0) G ρ A 4 0 0 135 [(0, .ref 703), (1, .int v1), (2, .int v2)] [] (cm, mm, oo) := by
  intro v1 v2 mm h
  unfold B_X13_act_135 at h
  refine L_iconst (pc := 135) (v := 1) X d_X13_act_135 (by decide) ?_
  refine L_goto (pc := 136) (tgt := 140) X d_X13_act_136 (by decide) ?_
  refine LW.sub [0, 1, 2] rfl ?_
  exact T_X13_act_140 hl X hr hex _ _ _  _ h
set_option maxHeartbeats 4000000 in
set_option maxRecDepth 100000 in
theorem T_X13_act_100 {post : (Nat → Nat → Int32) → Prop} (hl : l.stackTraces = false) (X : MC p l s m args meth c cX13_act 4 RX13 G ρ A) (hr : meth.sig.returnType = none) (hex : ∀ z ∈ c.exceptionTable.toList, False) : ∀ (v1 : Int32) (s0 : Int32) (mm : (Nat → Nat → Int32)), B_X13_act_100 post v1 s0 mm → LW p l e rm_X13_act s m args below meth c (Qm below G ρ A (PV (fun u => (cm, u, oo)) post) noX args s 0 0) G ρ A 4 0 0 100 [(0, .ref 703), (1, .int v1)] [.int s0] (cm, mm, oo) := by
  intro v1 s0 mm h
  unfold B_X13_act_100 at h
  refine L_istore_n (pc := 100) (lv2 := [(2, .int s0), (0, .ref 703), (1, .int v1)]) X d_X13_act_100 rfl (by decide) rfl ?_
  refine L_aload_n (pc := 101) X d_X13_act_101 rfl 1 rfl ?_
  refine gf_X13_22 (pc := 102) X d_X13_act_102 ?_
  refine L_iconst (pc := 105) (v := (-1)) X d_X13_act_105 (by decide) ?_
  refine L_icmp_eq (pc := 106) (tgt := 110) X d_X13_act_106 (by decide) (fun c106 => ?_) (fun c106 => ?_)
  · replace h := h.1 c106
    refine L_aload_n (pc := 110) X d_X13_act_110 rfl 1 rfl ?_
    refine L_callVV (pc := 111) X lk_X13_181 (c_X13_asks X.hst  h) rfl rfl kd_703 (by decide) rfl rfl ⟨by decide, by decide⟩ ⟨by decide, by decide⟩ (Nat.zero_le _) d_X13_act_111 rfl (fun x κ1 hx => L_nox hx) (fun u16 h => ?_)
    refine L_iload_n (pc := 114) X d_X13_act_114 rfl 2 rfl ?_
    refine L_iconst (pc := 115) (v := 3) X d_X13_act_115 (by decide) ?_
    refine L_icmp_eq (pc := 116) (tgt := 135) X d_X13_act_116 (by decide) (fun c116 => ?_) (fun c116 => ?_)
    · replace h := h.1 c116
      refine LW.sub [1, 2, 0] rfl ?_
      exact T_X13_act_135 hl X hr hex _ _  _ h
    · replace h := h.2 c116
      refine L_aload_n (pc := 119) X d_X13_act_119 rfl 1 rfl ?_
      refine L_ldcS (pc := 120) (i := 12) X (by decide) d_X13_act_120 ?_
      refine L_callVZ (pc := 122) X lk_X13_89 (c_X13_has X.hst (by decide) h) rfl rfl kd_703 (by decide) rfl rfl ⟨by decide, by decide⟩ ⟨by decide, by decide⟩ (Nat.zero_le _) d_X13_act_122 rfl (fun x κ1 hx => L_nox hx) (fun r17 u18 h => ?_)
      refine L_if_eq (pc := 125) (tgt := 135) X d_X13_act_125 (by decide) (fun c125 => ?_) (fun c125 => ?_)
      · replace h := h.1 ((b2_0 _).mp c125)
        refine LW.sub [1, 2, 0] rfl ?_
        exact T_X13_act_135 hl X hr hex _ _  _ h
      · replace h := h.2 (fun z => c125 ((b2_0 _).mpr z))
        refine L_aload_n (pc := 128) X d_X13_act_128 rfl 1 rfl ?_
        refine L_callVZ (pc := 129) X lk_X13_163 (c_X13_some X.hst  h) rfl rfl kd_703 (by decide) rfl rfl ⟨by decide, by decide⟩ ⟨by decide, by decide⟩ (Nat.zero_le _) d_X13_act_129 rfl (fun x κ1 hx => L_nox hx) (fun r19 u20 h => ?_)
        refine L_if_eq (pc := 132) (tgt := 139) X d_X13_act_132 (by decide) (fun c132 => ?_) (fun c132 => ?_)
        · replace h := h.1 ((b2_0 _).mp c132)
          refine L_iconst (pc := 139) (v := 0) X d_X13_act_139 (by decide) ?_
          refine LW.sub [1, 2, 0] rfl ?_
          exact T_X13_act_140 hl X hr hex _ _ _  _ h
        · replace h := h.2 (fun z => c132 ((b2_0 _).mpr z))
          refine LW.sub [1, 2, 0] rfl ?_
          exact T_X13_act_135 hl X hr hex _ _  _ h
  · replace h := h.2 c106
    exact L_vret (pc := 109) X hr d_X13_act_109 (by decide) (by decide) ⟨_, rfl, rfl, h⟩
set_option maxHeartbeats 4000000 in
set_option maxRecDepth 100000 in
theorem T_X13_act_53 {post : (Nat → Nat → Int32) → Prop} (hl : l.stackTraces = false) (X : MC p l s m args meth c cX13_act 4 RX13 G ρ A) (hr : meth.sig.returnType = none) (hex : ∀ z ∈ c.exceptionTable.toList, False) : ∀ (s0 : Int32) (mm : (Nat → Nat → Int32)), B_X13_act_53 post s0 mm → LW p l e rm_X13_act s m args below meth c (Qm below G ρ A (PV (fun u => (cm, u, oo)) post) noX args s 0 0) G ρ A 4 0 0 53 [(0, .ref 703)] [.int s0] (cm, mm, oo) := by
  intro s0 mm h
  unfold B_X13_act_53 at h
  refine L_istore_n (pc := 53) (lv2 := [(1, .int s0), (0, .ref 703)]) X d_X13_act_53 rfl (by decide) rfl ?_
  refine L_iload_n (pc := 54) X d_X13_act_54 rfl 0 rfl ?_
  refine L_iconst (pc := 55) (v := (-1)) X d_X13_act_55 (by decide) ?_
  refine L_icmp_ne (pc := 56) (tgt := 68) X d_X13_act_56 (by decide) (fun c56 => ?_) (fun c56 => ?_)
  · replace h := h.1 c56
    refine L_iload_n (pc := 68) X d_X13_act_68 rfl 0 rfl ?_
    refine L_iconst (pc := 69) (v := 2) X d_X13_act_69 (by decide) ?_
    refine L_icmp_ge (pc := 70) (tgt := 84) X d_X13_act_70 (by decide) (fun c70 => ?_) (fun c70 => ?_)
    · replace h := h.1 c70
      refine L_iload_n (pc := 84) X d_X13_act_84 rfl 0 rfl ?_
      refine L_iconst (pc := 85) (v := 3) X d_X13_act_85 (by decide) ?_
      refine L_icmp_ne (pc := 86) (tgt := 99) X d_X13_act_86 (by decide) (fun c86 => ?_) (fun c86 => ?_)
      · replace h := h.1 c86
        refine L_iconst (pc := 99) (v := 0) X d_X13_act_99 (by decide) ?_
        refine LW.sub [1, 0] rfl ?_
        exact T_X13_act_100 hl X hr hex _ _  _ h
      · replace h := h.2 c86
        refine L_aload_n (pc := 89) X d_X13_act_89 rfl 1 rfl ?_
        refine L_iconst (pc := 90) (v := 0) X d_X13_act_90 (by decide) ?_
        refine L_bipush (pc := 91) (v := 59) X d_X13_act_91 (by decide) ?_
        refine L_callVI (pc := 93) X lk_X13_93 (c_X13_figures X.hst  h) rfl rfl kd_703 (by decide) rfl rfl ⟨by decide, by decide⟩ ⟨by decide, by decide⟩ (Nat.zero_le _) d_X13_act_93 rfl (fun x κ1 hx => L_nox hx) (fun r9 u10 h => ?_)
        refine L_goto (pc := 96) (tgt := 100) X d_X13_act_96 (by decide) ?_
        refine LW.sub [1, 0] rfl ?_
        exact T_X13_act_100 hl X hr hex _ _  _ h
    · replace h := h.2 c70
      refine L_aload_n (pc := 73) X d_X13_act_73 rfl 1 rfl ?_
      refine L_iconst (pc := 74) (v := 1) X d_X13_act_74 (by decide) ?_
      refine L_sipush (pc := 75) (v := 999) X d_X13_act_75 (by decide) ?_
      refine L_callVI (pc := 78) X lk_X13_93 (c_X13_figures X.hst  h) rfl rfl kd_703 (by decide) rfl rfl ⟨by decide, by decide⟩ ⟨by decide, by decide⟩ (Nat.zero_le _) d_X13_act_78 rfl (fun x κ1 hx => L_nox hx) (fun r11 u12 h => ?_)
      refine L_goto (pc := 81) (tgt := 100) X d_X13_act_81 (by decide) ?_
      refine LW.sub [1, 0] rfl ?_
      exact T_X13_act_100 hl X hr hex _ _  _ h
  · replace h := h.2 c56
    refine L_aload_n (pc := 59) X d_X13_act_59 rfl 1 rfl ?_
    refine L_aload_n (pc := 60) X d_X13_act_60 rfl 1 rfl ?_
    refine gf_X13_60 (pc := 61) X d_X13_act_61 ?_
    refine L_callVV (pc := 64) X lk_X13_83 (c_X13_wrong X.hst  h) rfl rfl kd_703 (by decide) rfl rfl ⟨by decide, by decide⟩ ⟨by decide, by decide⟩ (Nat.zero_le _) d_X13_act_64 rfl (fun x κ1 hx => L_nox hx) (fun u14 h => ?_)
    exact L_vret (pc := 67) X hr d_X13_act_67 (by decide) (by decide) ⟨_, rfl, rfl, h⟩
set_option maxHeartbeats 4000000 in
set_option maxRecDepth 100000 in
theorem c_X13_act (hl : l.stackTraces = false) {mm : (Nat → Nat → Int32)} {post : (Nat → Nat → Int32) → Prop} (h : w_X13_act post mm) : CT l yX13_act (.code yX13_act cX13_act 4 none) rm_X13_act 0 0 G ρ [.ref 703] (cm, mm, oo) (PV (fun u => (cm, u, oo)) post) noX := by
  refine CT_of hl (by decide +kernel) rfl (Nat.le_of_ble_eq_true rfl) (lv0 := [(0, .ref 703)]) rfl (fun p e s m args below meth c A X hr hex hnm => ?_)
  unfold w_X13_act at h
  refine L_aload_n (pc := 0) X d_X13_act_0 rfl 0 rfl ?_
  refine L_ldcS (pc := 1) (i := 8) X (by decide) d_X13_act_1 ?_
  refine L_callVZ (pc := 3) X lk_X13_89 (c_X13_has X.hst (by decide) h) rfl rfl kd_703 (by decide) rfl rfl ⟨by decide, by decide⟩ ⟨by decide, by decide⟩ (Nat.zero_le _) d_X13_act_3 rfl (fun x κ1 hx => L_nox hx) (fun r1 u2 h => ?_)
  refine L_if_eq (pc := 6) (tgt := 13) X d_X13_act_6 (by decide) (fun c6 => ?_) (fun c6 => ?_)
  · replace h := h.1 ((b2_0 _).mp c6)
    refine L_aload_n (pc := 13) X d_X13_act_13 rfl 0 rfl ?_
    refine L_ldcS (pc := 14) (i := 9) X (by decide) d_X13_act_14 ?_
    refine L_callVZ (pc := 16) X lk_X13_89 (c_X13_has X.hst (by decide) h) rfl rfl kd_703 (by decide) rfl rfl ⟨by decide, by decide⟩ ⟨by decide, by decide⟩ (Nat.zero_le _) d_X13_act_16 rfl (fun x κ1 hx => L_nox hx) (fun r3 u4 h => ?_)
    refine L_if_eq (pc := 19) (tgt := 26) X d_X13_act_19 (by decide) (fun c19 => ?_) (fun c19 => ?_)
    · replace h := h.1 ((b2_0 _).mp c19)
      refine L_aload_n (pc := 26) X d_X13_act_26 rfl 0 rfl ?_
      refine L_ldcS (pc := 27) (i := 10) X (by decide) d_X13_act_27 ?_
      refine L_callVZ (pc := 29) X lk_X13_89 (c_X13_has X.hst (by decide) h) rfl rfl kd_703 (by decide) rfl rfl ⟨by decide, by decide⟩ ⟨by decide, by decide⟩ (Nat.zero_le _) d_X13_act_29 rfl (fun x κ1 hx => L_nox hx) (fun r5 u6 h => ?_)
      refine L_if_eq (pc := 32) (tgt := 39) X d_X13_act_32 (by decide) (fun c32 => ?_) (fun c32 => ?_)
      · replace h := h.1 ((b2_0 _).mp c32)
        refine L_aload_n (pc := 39) X d_X13_act_39 rfl 0 rfl ?_
        refine L_ldcS (pc := 40) (i := 11) X (by decide) d_X13_act_40 ?_
        refine L_callVZ (pc := 42) X lk_X13_89 (c_X13_has X.hst (by decide) h) rfl rfl kd_703 (by decide) rfl rfl ⟨by decide, by decide⟩ ⟨by decide, by decide⟩ (Nat.zero_le _) d_X13_act_42 rfl (fun x κ1 hx => L_nox hx) (fun r7 u8 h => ?_)
        refine L_if_eq (pc := 45) (tgt := 52) X d_X13_act_45 (by decide) (fun c45 => ?_) (fun c45 => ?_)
        · replace h := h.1 ((b2_0 _).mp c45)
          refine L_iconst (pc := 52) (v := (-1)) X d_X13_act_52 (by decide) ?_
          refine LW.sub [0] rfl ?_
          exact T_X13_act_53 hl X hr hex _  _ h
        · replace h := h.2 (fun z => c45 ((b2_0 _).mpr z))
          refine L_iconst (pc := 48) (v := 3) X d_X13_act_48 (by decide) ?_
          refine L_goto (pc := 49) (tgt := 53) X d_X13_act_49 (by decide) ?_
          refine LW.sub [0] rfl ?_
          exact T_X13_act_53 hl X hr hex _  _ h
      · replace h := h.2 (fun z => c32 ((b2_0 _).mpr z))
        refine L_iconst (pc := 35) (v := 2) X d_X13_act_35 (by decide) ?_
        refine L_goto (pc := 36) (tgt := 53) X d_X13_act_36 (by decide) ?_
        refine LW.sub [0] rfl ?_
        exact T_X13_act_53 hl X hr hex _  _ h
    · replace h := h.2 (fun z => c19 ((b2_0 _).mpr z))
      refine L_iconst (pc := 22) (v := 1) X d_X13_act_22 (by decide) ?_
      refine L_goto (pc := 23) (tgt := 53) X d_X13_act_23 (by decide) ?_
      refine LW.sub [0] rfl ?_
      exact T_X13_act_53 hl X hr hex _  _ h
  · replace h := h.2 (fun z => c6 ((b2_0 _).mpr z))
    refine L_iconst (pc := 9) (v := 0) X d_X13_act_9 (by decide) ?_
    refine L_goto (pc := 10) (tgt := 53) X d_X13_act_10 (by decide) ?_
    refine LW.sub [0] rfl ?_
    exact T_X13_act_53 hl X hr hex _  _ h
end G_X13_act
theorem yk_X13_act : yX13_act.cls = RX13 ∧ yX13_act.cls ≠ "java/lang/invoke/MethodHandle" ∧ yX13_act.cls ≠ "java/lang/invoke/VarHandle" ∧ (parseMethodDescriptor yX13_act.desc).map (fun d => d.parameters.length) = some 0 := by decide +kernel
theorem lk_X13_199 : LinkV RX13 199 RX13 yX13_act (.code yX13_act cX13_act 4 none) 0 := ⟨tw_1394, tw_1396, tw_44, tw_83, tw_1397, yk_X13_act⟩
theorem d_X13_notches_0 : decode cX13_notches 0 = .ok (.aload_n 0, 1) := by decide +kernel
theorem d_X13_notches_1 : decode cX13_notches 1 = .ok (.iconst 0, 1) := by decide +kernel
theorem d_X13_notches_2 : decode cX13_notches 2 = .ok (.putfield 60, 3) := by decide +kernel
theorem d_X13_notches_5 : decode cX13_notches 5 = .ok (.aload_n 0, 1) := by decide +kernel
theorem d_X13_notches_6 : decode cX13_notches 6 = .ok (.iconst 0, 1) := by decide +kernel
theorem d_X13_notches_7 : decode cX13_notches 7 = .ok (.putfield 109, 3) := by decide +kernel
theorem d_X13_notches_10 : decode cX13_notches 10 = .ok (.aload_n 0, 1) := by decide +kernel
theorem d_X13_notches_11 : decode cX13_notches 11 = .ok (.invokevirtual 70, 3) := by decide +kernel
theorem d_X13_notches_14 : decode cX13_notches 14 = .ok (.aload_n 0, 1) := by decide +kernel
theorem d_X13_notches_15 : decode cX13_notches 15 = .ok (.ldc 190, 2) := by decide +kernel
theorem d_X13_notches_17 : decode cX13_notches 17 = .ok (.invokevirtual 89, 3) := by decide +kernel
theorem d_X13_notches_20 : decode cX13_notches 20 = .ok (.ifCond .eq 17, 3) := by decide +kernel
theorem d_X13_notches_23 : decode cX13_notches 23 = .ok (.aload_n 0, 1) := by decide +kernel
theorem d_X13_notches_24 : decode cX13_notches 24 = .ok (.aload_n 0, 1) := by decide +kernel
theorem d_X13_notches_25 : decode cX13_notches 25 = .ok (.iconst 1, 1) := by decide +kernel
theorem d_X13_notches_26 : decode cX13_notches 26 = .ok (.bipush 11, 2) := by decide +kernel
theorem d_X13_notches_28 : decode cX13_notches 28 = .ok (.invokevirtual 93, 3) := by decide +kernel
theorem d_X13_notches_31 : decode cX13_notches 31 = .ok (.putfield 192, 3) := by decide +kernel
theorem d_X13_notches_34 : decode cX13_notches 34 = .ok (.goto 45, 3) := by decide +kernel
theorem d_X13_notches_37 : decode cX13_notches 37 = .ok (.aload_n 0, 1) := by decide +kernel
theorem d_X13_notches_38 : decode cX13_notches 38 = .ok (.ldc 195, 2) := by decide +kernel
theorem d_X13_notches_40 : decode cX13_notches 40 = .ok (.invokevirtual 89, 3) := by decide +kernel
theorem d_X13_notches_43 : decode cX13_notches 43 = .ok (.ifCond .eq 11, 3) := by decide +kernel
theorem d_X13_notches_46 : decode cX13_notches 46 = .ok (.aload_n 0, 1) := by decide +kernel
theorem d_X13_notches_47 : decode cX13_notches 47 = .ok (.iconst 0, 1) := by decide +kernel
theorem d_X13_notches_48 : decode cX13_notches 48 = .ok (.putfield 192, 3) := by decide +kernel
theorem d_X13_notches_51 : decode cX13_notches 51 = .ok (.goto 28, 3) := by decide +kernel
theorem d_X13_notches_54 : decode cX13_notches 54 = .ok (.aload_n 0, 1) := by decide +kernel
theorem d_X13_notches_55 : decode cX13_notches 55 = .ok (.ldc 197, 2) := by decide +kernel
theorem d_X13_notches_57 : decode cX13_notches 57 = .ok (.invokevirtual 89, 3) := by decide +kernel
theorem d_X13_notches_60 : decode cX13_notches 60 = .ok (.ifCond .eq 11, 3) := by decide +kernel
theorem d_X13_notches_63 : decode cX13_notches 63 = .ok (.aload_n 0, 1) := by decide +kernel
theorem d_X13_notches_64 : decode cX13_notches 64 = .ok (.iconst (-1), 1) := by decide +kernel
theorem d_X13_notches_65 : decode cX13_notches 65 = .ok (.putfield 192, 3) := by decide +kernel
theorem d_X13_notches_68 : decode cX13_notches 68 = .ok (.goto 11, 3) := by decide +kernel
theorem d_X13_notches_71 : decode cX13_notches 71 = .ok (.aload_n 0, 1) := by decide +kernel
theorem d_X13_notches_72 : decode cX13_notches 72 = .ok (.aload_n 0, 1) := by decide +kernel
theorem d_X13_notches_73 : decode cX13_notches 73 = .ok (.getfield 60, 3) := by decide +kernel
theorem d_X13_notches_76 : decode cX13_notches 76 = .ok (.invokevirtual 83, 3) := by decide +kernel
theorem d_X13_notches_79 : decode cX13_notches 79 = .ok (.iconst 0, 1) := by decide +kernel
theorem d_X13_notches_80 : decode cX13_notches 80 = .ok (.istore_n 1, 1) := by decide +kernel
theorem d_X13_notches_81 : decode cX13_notches 81 = .ok (.aload_n 0, 1) := by decide +kernel
theorem d_X13_notches_82 : decode cX13_notches 82 = .ok (.getfield 22, 3) := by decide +kernel
theorem d_X13_notches_85 : decode cX13_notches 85 = .ok (.iconst (-1), 1) := by decide +kernel
theorem d_X13_notches_86 : decode cX13_notches 86 = .ok (.if_icmp .ne 53, 3) := by decide +kernel
theorem d_X13_notches_89 : decode cX13_notches 89 = .ok (.aload_n 0, 1) := by decide +kernel
theorem d_X13_notches_90 : decode cX13_notches 90 = .ok (.bipush 59, 2) := by decide +kernel
theorem d_X13_notches_92 : decode cX13_notches 92 = .ok (.invokevirtual 118, 3) := by decide +kernel
theorem d_X13_notches_95 : decode cX13_notches 95 = .ok (.ifCond .eq 44, 3) := by decide +kernel
theorem d_X13_notches_98 : decode cX13_notches 98 = .ok (.aload_n 0, 1) := by decide +kernel
theorem d_X13_notches_99 : decode cX13_notches 99 = .ok (.dup, 1) := by decide +kernel
theorem d_X13_notches_100 : decode cX13_notches 100 = .ok (.getfield 60, 3) := by decide +kernel
theorem d_X13_notches_103 : decode cX13_notches 103 = .ok (.iconst 1, 1) := by decide +kernel
theorem d_X13_notches_104 : decode cX13_notches 104 = .ok (.iadd, 1) := by decide +kernel
theorem d_X13_notches_105 : decode cX13_notches 105 = .ok (.putfield 60, 3) := by decide +kernel
theorem d_X13_notches_108 : decode cX13_notches 108 = .ok (.aload_n 0, 1) := by decide +kernel
theorem d_X13_notches_109 : decode cX13_notches 109 = .ok (.invokevirtual 70, 3) := by decide +kernel
theorem d_X13_notches_112 : decode cX13_notches 112 = .ok (.iload_n 1, 1) := by decide +kernel
theorem d_X13_notches_113 : decode cX13_notches 113 = .ok (.bipush 8, 2) := by decide +kernel
theorem d_X13_notches_115 : decode cX13_notches 115 = .ok (.if_icmp .ne 14, 3) := by decide +kernel
theorem d_X13_notches_118 : decode cX13_notches 118 = .ok (.aload_n 0, 1) := by decide +kernel
theorem d_X13_notches_119 : decode cX13_notches 119 = .ok (.aload_n 0, 1) := by decide +kernel
theorem d_X13_notches_120 : decode cX13_notches 120 = .ok (.getfield 60, 3) := by decide +kernel
theorem d_X13_notches_123 : decode cX13_notches 123 = .ok (.invokevirtual 83, 3) := by decide +kernel
theorem d_X13_notches_126 : decode cX13_notches 126 = .ok (.goto 7, 3) := by decide +kernel
theorem d_X13_notches_129 : decode cX13_notches 129 = .ok (.aload_n 0, 1) := by decide +kernel
theorem d_X13_notches_130 : decode cX13_notches 130 = .ok (.invokevirtual 199, 3) := by decide +kernel
theorem d_X13_notches_133 : decode cX13_notches 133 = .ok (.iinc 1 1, 3) := by decide +kernel
theorem d_X13_notches_136 : decode cX13_notches 136 = .ok (.goto (-55), 3) := by decide +kernel
theorem d_X13_notches_139 : decode cX13_notches 139 = .ok (.aload_n 0, 1) := by decide +kernel
theorem d_X13_notches_140 : decode cX13_notches 140 = .ok (.invokevirtual 70, 3) := by decide +kernel
theorem d_X13_notches_143 : decode cX13_notches 143 = .ok (.aload_n 0, 1) := by decide +kernel
theorem d_X13_notches_144 : decode cX13_notches 144 = .ok (.getfield 60, 3) := by decide +kernel
theorem d_X13_notches_147 : decode cX13_notches 147 = .ok (.aload_n 0, 1) := by decide +kernel
theorem d_X13_notches_148 : decode cX13_notches 148 = .ok (.getfield 63, 3) := by decide +kernel
theorem d_X13_notches_151 : decode cX13_notches 151 = .ok (.if_icmp .ge 11, 3) := by decide +kernel
theorem d_X13_notches_154 : decode cX13_notches 154 = .ok (.aload_n 0, 1) := by decide +kernel
theorem d_X13_notches_155 : decode cX13_notches 155 = .ok (.aload_n 0, 1) := by decide +kernel
theorem d_X13_notches_156 : decode cX13_notches 156 = .ok (.getfield 60, 3) := by decide +kernel
theorem d_X13_notches_159 : decode cX13_notches 159 = .ok (.invokevirtual 83, 3) := by decide +kernel
theorem d_X13_notches_162 : decode cX13_notches 162 = .ok (.return_, 1) := by decide +kernel
abbrev rm_X13_notches : Room := { frames := 40, cells := 0, slots := 0, locals := 908 }
def B_X13_notches_162 (post : (Nat → Nat → Int32) → Prop) (mm : (Nat → Nat → Int32)) : Prop := post mm
def B_X13_notches_139 (post : (Nat → Nat → Int32) → Prop) (mm : (Nat → Nat → Int32)) : Prop := w_X13_skip (fun (u22 : (Nat → Nat → Int32)) => ((u22 0 8) ≤ (u22 0 9) → (B_X13_notches_162 post u22)) ∧ (¬ (u22 0 8) ≤ (u22 0 9) → (w_X13_wrong (fun (u24 : (Nat → Nat → Int32)) => B_X13_notches_162 post u24) (u22 0 9) u22)))  mm
def B_X13_notches_133 (post : (Nat → Nat → Int32) → Prop) (k81 : Int32 → (Nat → Nat → Int32) → Prop) (v1 : Int32) (mm : (Nat → Nat → Int32)) : Prop := k81 (v1 + 1) mm
def B_X13_notches_81 (post : (Nat → Nat → Int32) → Prop) : Nat → Int32 → (Nat → Nat → Int32) → Prop
  | 0 => fun _ _ => False
  | n + 1 => fun v1 mm => (¬ (mm 0 10) = (-1) → (B_X13_notches_139 post mm)) ∧ ((mm 0 10) = (-1) → (w_X13_isSign (fun (r13 : Bool) (u14 : (Nat → Nat → Int32)) => ((r13 = false) → (B_X13_notches_139 post u14)) ∧ (¬ (r13 = false) → (w_X13_skip (fun (u16 : (Nat → Nat → Int32)) => (¬ v1 = 8 → (w_X13_act (fun (u18 : (Nat → Nat → Int32)) => B_X13_notches_133 post (B_X13_notches_81 post n) v1 u18)  u16)) ∧ (v1 = 8 → (w_X13_wrong (fun (u20 : (Nat → Nat → Int32)) => B_X13_notches_133 post (B_X13_notches_81 post n) v1 u20) (u16 0 9) u16)))  (up2 u14 0 9 ((u14 0 9) + 1))))) 59 mm))
def B_X13_notches_79 (post : (Nat → Nat → Int32) → Prop) (mm : (Nat → Nat → Int32)) : Prop := ∃ n81, B_X13_notches_81 post n81 0 mm
def w_X13_notches (post : (Nat → Nat → Int32) → Prop) (mm : (Nat → Nat → Int32)) : Prop := w_X13_skip (fun (u2 : (Nat → Nat → Int32)) => w_X13_has (fun (r3 : Bool) (u4 : (Nat → Nat → Int32)) => ((r3 = false) → (w_X13_has (fun (r5 : Bool) (u6 : (Nat → Nat → Int32)) => ((r5 = false) → (w_X13_has (fun (r7 : Bool) (u8 : (Nat → Nat → Int32)) => ((r7 = false) → (w_X13_wrong (fun (u10 : (Nat → Nat → Int32)) => B_X13_notches_79 post u10) (u8 0 9) u8)) ∧ (¬ (r7 = false) → (B_X13_notches_79 post (up2 u8 0 12 (-1))))) 7 u6)) ∧ (¬ (r5 = false) → (B_X13_notches_79 post (up2 u6 0 12 0)))) 6 u4)) ∧ (¬ (r3 = false) → (w_X13_figures (fun (r11 : Int32) (u12 : (Nat → Nat → Int32)) => B_X13_notches_79 post (up2 u12 0 12 r11)) 1 11 u4))) 5 u2)  (up2 (up2 mm 0 9 0) 0 11 0)
section G_X13_notches
variable {p : Program} {l : Launch} {e : Env} {s : State} {m : MethodId} {args : Array Value} {below : List Frame} {meth : Method} {c : Code} {G : Gd} {ρ : Nat → Nat} {A : Nat → Prop} {cm : CMu} {oo : Nat → Int64}
set_option maxHeartbeats 4000000 in
set_option maxRecDepth 100000 in
theorem T_X13_notches_162 {post : (Nat → Nat → Int32) → Prop} (hl : l.stackTraces = false) (X : MC p l s m args meth c cX13_notches 2 RX13 G ρ A) (hr : meth.sig.returnType = none) (hex : ∀ z ∈ c.exceptionTable.toList, False) : ∀ (mm : (Nat → Nat → Int32)), B_X13_notches_162 post mm → LW p l e rm_X13_notches s m args below meth c (Qm below G ρ A (PV (fun u => (cm, u, oo)) post) noX args s 0 0) G ρ A 2 0 0 162 [] [] (cm, mm, oo) := by
  intro mm h
  unfold B_X13_notches_162 at h
  exact L_vret (pc := 162) X hr d_X13_notches_162 (by decide) (by decide) ⟨_, rfl, rfl, h⟩
set_option maxHeartbeats 4000000 in
set_option maxRecDepth 100000 in
theorem T_X13_notches_139 {post : (Nat → Nat → Int32) → Prop} (hl : l.stackTraces = false) (X : MC p l s m args meth c cX13_notches 2 RX13 G ρ A) (hr : meth.sig.returnType = none) (hex : ∀ z ∈ c.exceptionTable.toList, False) : ∀ (mm : (Nat → Nat → Int32)), B_X13_notches_139 post mm → LW p l e rm_X13_notches s m args below meth c (Qm below G ρ A (PV (fun u => (cm, u, oo)) post) noX args s 0 0) G ρ A 2 0 0 139 [(0, .ref 703)] [] (cm, mm, oo) := by
  intro mm h
  unfold B_X13_notches_139 at h
  refine L_aload_n (pc := 139) X d_X13_notches_139 rfl 0 rfl ?_
  refine L_callVV (pc := 140) X lk_X13_70 (c_X13_skip X.hst  h) rfl rfl kd_703 (by decide) rfl rfl ⟨by decide, by decide⟩ ⟨by decide, by decide⟩ (Nat.zero_le _) d_X13_notches_140 rfl (fun x κ1 hx => L_nox hx) (fun u22 h => ?_)
  refine L_aload_n (pc := 143) X d_X13_notches_143 rfl 0 rfl ?_
  refine gf_X13_60 (pc := 144) X d_X13_notches_144 ?_
  refine L_aload_n (pc := 147) X d_X13_notches_147 rfl 0 rfl ?_
  refine gf_X13_63 (pc := 148) X d_X13_notches_148 ?_
  refine L_icmp_ge (pc := 151) (tgt := 162) X d_X13_notches_151 (by decide) (fun c151 => ?_) (fun c151 => ?_)
  · replace h := h.1 c151
    refine LW.sub [] rfl ?_
    exact T_X13_notches_162 hl X hr hex   _ h
  · replace h := h.2 c151
    refine L_aload_n (pc := 154) X d_X13_notches_154 rfl 0 rfl ?_
    refine L_aload_n (pc := 155) X d_X13_notches_155 rfl 0 rfl ?_
    refine gf_X13_60 (pc := 156) X d_X13_notches_156 ?_
    refine L_callVV (pc := 159) X lk_X13_83 (c_X13_wrong X.hst  h) rfl rfl kd_703 (by decide) rfl rfl ⟨by decide, by decide⟩ ⟨by decide, by decide⟩ (Nat.zero_le _) d_X13_notches_159 rfl (fun x κ1 hx => L_nox hx) (fun u24 h => ?_)
    refine LW.sub [] rfl ?_
    exact T_X13_notches_162 hl X hr hex   _ h
set_option maxHeartbeats 4000000 in
set_option maxRecDepth 100000 in
theorem T_X13_notches_133 {post : (Nat → Nat → Int32) → Prop} {k81 : Int32 → (Nat → Nat → Int32) → Prop} (hl : l.stackTraces = false) (X : MC p l s m args meth c cX13_notches 2 RX13 G ρ A) (hr : meth.sig.returnType = none) (hex : ∀ z ∈ c.exceptionTable.toList, False)
    (hk81 : ∀ (v1 : Int32) (mm : (Nat → Nat → Int32)), k81 v1 mm → LW p l e rm_X13_notches s m args below meth c (Qm below G ρ A (PV (fun u => (cm, u, oo)) post) noX args s 0 0) G ρ A 2 0 0 81 [(0, .ref 703), (1, .int v1)] [] (cm, mm, oo)) : ∀ (v1 : Int32) (mm : (Nat → Nat → Int32)), B_X13_notches_133 post k81 v1 mm → LW p l e rm_X13_notches s m args below meth c (Qm below G ρ A (PV (fun u => (cm, u, oo)) post) noX args s 0 0) G ρ A 2 0 0 133 [(0, .ref 703), (1, .int v1)] [] (cm, mm, oo) := by
  intro v1 mm h
  unfold B_X13_notches_133 at h
  refine L_iinc (pc := 133) (v := v1 + 1) (lv2 := [(1, .int (v1 + 1)), (0, .ref 703)]) X d_X13_notches_133 1 rfl rfl (by decide) rfl ?_
  refine L_goto (pc := 136) (tgt := 81) X d_X13_notches_136 (by decide) ?_
  refine LW.sub [1, 0] rfl ?_
  exact hk81 _  _ h
set_option maxHeartbeats 4000000 in
set_option maxRecDepth 100000 in
theorem T_X13_notches_81 {post : (Nat → Nat → Int32) → Prop} (hl : l.stackTraces = false) (X : MC p l s m args meth c cX13_notches 2 RX13 G ρ A) (hr : meth.sig.returnType = none) (hex : ∀ z ∈ c.exceptionTable.toList, False) (n : Nat) : ∀ (v1 : Int32) (mm : (Nat → Nat → Int32)), B_X13_notches_81 post n v1 mm → LW p l e rm_X13_notches s m args below meth c (Qm below G ρ A (PV (fun u => (cm, u, oo)) post) noX args s 0 0) G ρ A 2 0 0 81 [(0, .ref 703), (1, .int v1)] [] (cm, mm, oo) := by
  induction n with
  | zero =>
    intro v1 mm h
    exact False.elim h
  | succ n ih =>
    intro v1 mm h
    unfold B_X13_notches_81 at h
    refine L_aload_n (pc := 81) X d_X13_notches_81 rfl 0 rfl ?_
    refine gf_X13_22 (pc := 82) X d_X13_notches_82 ?_
    refine L_iconst (pc := 85) (v := (-1)) X d_X13_notches_85 (by decide) ?_
    refine L_icmp_ne (pc := 86) (tgt := 139) X d_X13_notches_86 (by decide) (fun c86 => ?_) (fun c86 => ?_)
    · replace h := h.1 c86
      refine LW.sub [0] rfl ?_
      exact T_X13_notches_139 hl X hr hex   _ h
    · replace h := h.2 c86
      refine L_aload_n (pc := 89) X d_X13_notches_89 rfl 0 rfl ?_
      refine L_bipush (pc := 90) (v := 59) X d_X13_notches_90 (by decide) ?_
      refine L_callVZ (pc := 92) X lk_X13_118 (c_X13_isSign X.hst  h) rfl rfl kd_703 (by decide) rfl rfl ⟨by decide, by decide⟩ ⟨by decide, by decide⟩ (Nat.zero_le _) d_X13_notches_92 rfl (fun x κ1 hx => L_nox hx) (fun r13 u14 h => ?_)
      refine L_if_eq (pc := 95) (tgt := 139) X d_X13_notches_95 (by decide) (fun c95 => ?_) (fun c95 => ?_)
      · replace h := h.1 ((b2_0 _).mp c95)
        refine LW.sub [0] rfl ?_
        exact T_X13_notches_139 hl X hr hex   _ h
      · replace h := h.2 (fun z => c95 ((b2_0 _).mpr z))
        refine L_aload_n (pc := 98) X d_X13_notches_98 rfl 0 rfl ?_
        refine L_dup (pc := 99) X d_X13_notches_99 rfl ?_
        refine gf_X13_60 (pc := 100) X d_X13_notches_100 ?_
        refine L_iconst (pc := 103) (v := 1) X d_X13_notches_103 (by decide) ?_
        refine L_iadd (pc := 104) X d_X13_notches_104 ?_
        refine pf_X13_60 (pc := 105) X d_X13_notches_105 ?_
        refine L_aload_n (pc := 108) X d_X13_notches_108 rfl 0 rfl ?_
        refine L_callVV (pc := 109) X lk_X13_70 (c_X13_skip X.hst  h) rfl rfl kd_703 (by decide) rfl rfl ⟨by decide, by decide⟩ ⟨by decide, by decide⟩ (Nat.zero_le _) d_X13_notches_109 rfl (fun x κ1 hx => L_nox hx) (fun u16 h => ?_)
        refine L_iload_n (pc := 112) X d_X13_notches_112 rfl 1 rfl ?_
        refine L_bipush (pc := 113) (v := 8) X d_X13_notches_113 (by decide) ?_
        refine L_icmp_ne (pc := 115) (tgt := 129) X d_X13_notches_115 (by decide) (fun c115 => ?_) (fun c115 => ?_)
        · replace h := h.1 c115
          refine L_aload_n (pc := 129) X d_X13_notches_129 rfl 0 rfl ?_
          refine L_callVV (pc := 130) X lk_X13_199 (c_X13_act X.hst  h) rfl rfl kd_703 (by decide) rfl rfl ⟨by decide, by decide⟩ ⟨by decide, by decide⟩ (Nat.zero_le _) d_X13_notches_130 rfl (fun x κ1 hx => L_nox hx) (fun u18 h => ?_)
          refine LW.sub [0, 1] rfl ?_
          exact T_X13_notches_133 hl X hr hex ih _  _ h
        · replace h := h.2 c115
          refine L_aload_n (pc := 118) X d_X13_notches_118 rfl 0 rfl ?_
          refine L_aload_n (pc := 119) X d_X13_notches_119 rfl 0 rfl ?_
          refine gf_X13_60 (pc := 120) X d_X13_notches_120 ?_
          refine L_callVV (pc := 123) X lk_X13_83 (c_X13_wrong X.hst  h) rfl rfl kd_703 (by decide) rfl rfl ⟨by decide, by decide⟩ ⟨by decide, by decide⟩ (Nat.zero_le _) d_X13_notches_123 rfl (fun x κ1 hx => L_nox hx) (fun u20 h => ?_)
          refine L_goto (pc := 126) (tgt := 133) X d_X13_notches_126 (by decide) ?_
          refine LW.sub [0, 1] rfl ?_
          exact T_X13_notches_133 hl X hr hex ih _  _ h
set_option maxHeartbeats 4000000 in
set_option maxRecDepth 100000 in
theorem T_X13_notches_79 {post : (Nat → Nat → Int32) → Prop} (hl : l.stackTraces = false) (X : MC p l s m args meth c cX13_notches 2 RX13 G ρ A) (hr : meth.sig.returnType = none) (hex : ∀ z ∈ c.exceptionTable.toList, False) : ∀ (mm : (Nat → Nat → Int32)), B_X13_notches_79 post mm → LW p l e rm_X13_notches s m args below meth c (Qm below G ρ A (PV (fun u => (cm, u, oo)) post) noX args s 0 0) G ρ A 2 0 0 79 [(0, .ref 703)] [] (cm, mm, oo) := by
  intro mm h
  unfold B_X13_notches_79 at h
  refine L_iconst (pc := 79) (v := 0) X d_X13_notches_79 (by decide) ?_
  refine L_istore_n (pc := 80) (lv2 := [(1, .int 0), (0, .ref 703)]) X d_X13_notches_80 rfl (by decide) rfl ?_
  obtain ⟨n81, h⟩ := h
  refine LW.sub [1, 0] rfl ?_
  exact T_X13_notches_81 hl X hr hex n81 _  _ h
set_option maxHeartbeats 4000000 in
set_option maxRecDepth 100000 in
theorem c_X13_notches (hl : l.stackTraces = false) {mm : (Nat → Nat → Int32)} {post : (Nat → Nat → Int32) → Prop} (h : w_X13_notches post mm) : CT l yX13_notches (.code yX13_notches cX13_notches 2 none) rm_X13_notches 0 0 G ρ [.ref 703] (cm, mm, oo) (PV (fun u => (cm, u, oo)) post) noX := by
  refine CT_of hl (by decide +kernel) rfl (Nat.le_of_ble_eq_true rfl) (lv0 := [(0, .ref 703)]) rfl (fun p e s m args below meth c A X hr hex hnm => ?_)
  unfold w_X13_notches at h
  refine L_aload_n (pc := 0) X d_X13_notches_0 rfl 0 rfl ?_
  refine L_iconst (pc := 1) (v := 0) X d_X13_notches_1 (by decide) ?_
  refine pf_X13_60 (pc := 2) X d_X13_notches_2 ?_
  refine L_aload_n (pc := 5) X d_X13_notches_5 rfl 0 rfl ?_
  refine L_iconst (pc := 6) (v := 0) X d_X13_notches_6 (by decide) ?_
  refine pf_X13_109 (pc := 7) X d_X13_notches_7 ?_
  refine L_aload_n (pc := 10) X d_X13_notches_10 rfl 0 rfl ?_
  refine L_callVV (pc := 11) X lk_X13_70 (c_X13_skip X.hst  h) rfl rfl kd_703 (by decide) rfl rfl ⟨by decide, by decide⟩ ⟨by decide, by decide⟩ (Nat.zero_le _) d_X13_notches_11 rfl (fun x κ1 hx => L_nox hx) (fun u2 h => ?_)
  refine L_aload_n (pc := 14) X d_X13_notches_14 rfl 0 rfl ?_
  refine L_ldcS (pc := 15) (i := 5) X (by decide) d_X13_notches_15 ?_
  refine L_callVZ (pc := 17) X lk_X13_89 (c_X13_has X.hst (by decide) h) rfl rfl kd_703 (by decide) rfl rfl ⟨by decide, by decide⟩ ⟨by decide, by decide⟩ (Nat.zero_le _) d_X13_notches_17 rfl (fun x κ1 hx => L_nox hx) (fun r3 u4 h => ?_)
  refine L_if_eq (pc := 20) (tgt := 37) X d_X13_notches_20 (by decide) (fun c20 => ?_) (fun c20 => ?_)
  · replace h := h.1 ((b2_0 _).mp c20)
    refine L_aload_n (pc := 37) X d_X13_notches_37 rfl 0 rfl ?_
    refine L_ldcS (pc := 38) (i := 6) X (by decide) d_X13_notches_38 ?_
    refine L_callVZ (pc := 40) X lk_X13_89 (c_X13_has X.hst (by decide) h) rfl rfl kd_703 (by decide) rfl rfl ⟨by decide, by decide⟩ ⟨by decide, by decide⟩ (Nat.zero_le _) d_X13_notches_40 rfl (fun x κ1 hx => L_nox hx) (fun r5 u6 h => ?_)
    refine L_if_eq (pc := 43) (tgt := 54) X d_X13_notches_43 (by decide) (fun c43 => ?_) (fun c43 => ?_)
    · replace h := h.1 ((b2_0 _).mp c43)
      refine L_aload_n (pc := 54) X d_X13_notches_54 rfl 0 rfl ?_
      refine L_ldcS (pc := 55) (i := 7) X (by decide) d_X13_notches_55 ?_
      refine L_callVZ (pc := 57) X lk_X13_89 (c_X13_has X.hst (by decide) h) rfl rfl kd_703 (by decide) rfl rfl ⟨by decide, by decide⟩ ⟨by decide, by decide⟩ (Nat.zero_le _) d_X13_notches_57 rfl (fun x κ1 hx => L_nox hx) (fun r7 u8 h => ?_)
      refine L_if_eq (pc := 60) (tgt := 71) X d_X13_notches_60 (by decide) (fun c60 => ?_) (fun c60 => ?_)
      · replace h := h.1 ((b2_0 _).mp c60)
        refine L_aload_n (pc := 71) X d_X13_notches_71 rfl 0 rfl ?_
        refine L_aload_n (pc := 72) X d_X13_notches_72 rfl 0 rfl ?_
        refine gf_X13_60 (pc := 73) X d_X13_notches_73 ?_
        refine L_callVV (pc := 76) X lk_X13_83 (c_X13_wrong X.hst  h) rfl rfl kd_703 (by decide) rfl rfl ⟨by decide, by decide⟩ ⟨by decide, by decide⟩ (Nat.zero_le _) d_X13_notches_76 rfl (fun x κ1 hx => L_nox hx) (fun u10 h => ?_)
        refine LW.sub [0] rfl ?_
        exact T_X13_notches_79 hl X hr hex   _ h
      · replace h := h.2 (fun z => c60 ((b2_0 _).mpr z))
        refine L_aload_n (pc := 63) X d_X13_notches_63 rfl 0 rfl ?_
        refine L_iconst (pc := 64) (v := (-1)) X d_X13_notches_64 (by decide) ?_
        refine pf_X13_192 (pc := 65) X d_X13_notches_65 ?_
        refine L_goto (pc := 68) (tgt := 79) X d_X13_notches_68 (by decide) ?_
        refine LW.sub [0] rfl ?_
        exact T_X13_notches_79 hl X hr hex   _ h
    · replace h := h.2 (fun z => c43 ((b2_0 _).mpr z))
      refine L_aload_n (pc := 46) X d_X13_notches_46 rfl 0 rfl ?_
      refine L_iconst (pc := 47) (v := 0) X d_X13_notches_47 (by decide) ?_
      refine pf_X13_192 (pc := 48) X d_X13_notches_48 ?_
      refine L_goto (pc := 51) (tgt := 79) X d_X13_notches_51 (by decide) ?_
      refine LW.sub [0] rfl ?_
      exact T_X13_notches_79 hl X hr hex   _ h
  · replace h := h.2 (fun z => c20 ((b2_0 _).mpr z))
    refine L_aload_n (pc := 23) X d_X13_notches_23 rfl 0 rfl ?_
    refine L_aload_n (pc := 24) X d_X13_notches_24 rfl 0 rfl ?_
    refine L_iconst (pc := 25) (v := 1) X d_X13_notches_25 (by decide) ?_
    refine L_bipush (pc := 26) (v := 11) X d_X13_notches_26 (by decide) ?_
    refine L_callVI (pc := 28) X lk_X13_93 (c_X13_figures X.hst  h) rfl rfl kd_703 (by decide) rfl rfl ⟨by decide, by decide⟩ ⟨by decide, by decide⟩ (Nat.le_of_ble_eq_true rfl) d_X13_notches_28 rfl (fun x κ1 hx => L_nox hx) (fun r11 u12 h => ?_)
    refine pf_X13_192 (pc := 31) X d_X13_notches_31 ?_
    refine L_goto (pc := 34) (tgt := 79) X d_X13_notches_34 (by decide) ?_
    refine LW.sub [0] rfl ?_
    exact T_X13_notches_79 hl X hr hex   _ h
end G_X13_notches
theorem yk_X13_notches : yX13_notches.cls = RX13 ∧ yX13_notches.cls ≠ "java/lang/invoke/MethodHandle" ∧ yX13_notches.cls ≠ "java/lang/invoke/VarHandle" ∧ (parseMethodDescriptor yX13_notches.desc).map (fun d => d.parameters.length) = some 0 := by decide +kernel
theorem lk_X13_210 : LinkV RX13 210 RX13 yX13_notches (.code yX13_notches cX13_notches 2 none) 0 := ⟨tw_1387, tw_1389, tw_43, tw_83, tw_1390, yk_X13_notches⟩
theorem d_X13_chip_0 : decode cX13_chip 0 = .ok (.aload_n 0, 1) := by decide +kernel
theorem d_X13_chip_1 : decode cX13_chip 1 = .ok (.iload_n 1, 1) := by decide +kernel
theorem d_X13_chip_2 : decode cX13_chip 2 = .ok (.aload_n 0, 1) := by decide +kernel
theorem d_X13_chip_3 : decode cX13_chip 3 = .ok (.getfield 7, 3) := by decide +kernel
theorem d_X13_chip_6 : decode cX13_chip 6 = .ok (.iconst 1, 1) := by decide +kernel
theorem d_X13_chip_7 : decode cX13_chip 7 = .ok (.iaload, 1) := by decide +kernel
theorem d_X13_chip_8 : decode cX13_chip 8 = .ok (.invokevirtual 206, 3) := by decide +kernel
theorem d_X13_chip_11 : decode cX13_chip 11 = .ok (.ifCond .ne 15, 3) := by decide +kernel
theorem d_X13_chip_14 : decode cX13_chip 14 = .ok (.aload_n 0, 1) := by decide +kernel
theorem d_X13_chip_15 : decode cX13_chip 15 = .ok (.iconst 0, 1) := by decide +kernel
theorem d_X13_chip_16 : decode cX13_chip 16 = .ok (.putfield 54, 3) := by decide +kernel
theorem d_X13_chip_19 : decode cX13_chip 19 = .ok (.aload_n 0, 1) := by decide +kernel
theorem d_X13_chip_20 : decode cX13_chip 20 = .ok (.iconst 1, 1) := by decide +kernel
theorem d_X13_chip_21 : decode cX13_chip 21 = .ok (.putfield 47, 3) := by decide +kernel
theorem d_X13_chip_24 : decode cX13_chip 24 = .ok (.iconst 0, 1) := by decide +kernel
theorem d_X13_chip_25 : decode cX13_chip 25 = .ok (.ireturn, 1) := by decide +kernel
theorem d_X13_chip_26 : decode cX13_chip 26 = .ok (.iload_n 2, 1) := by decide +kernel
theorem d_X13_chip_27 : decode cX13_chip 27 = .ok (.iconst 1, 1) := by decide +kernel
theorem d_X13_chip_28 : decode cX13_chip 28 = .ok (.bipush 9, 2) := by decide +kernel
theorem d_X13_chip_30 : decode cX13_chip 30 = .ok (.invokestatic 50, 3) := by decide +kernel
theorem d_X13_chip_33 : decode cX13_chip 33 = .ok (.ifCond .ne 15, 3) := by decide +kernel
theorem d_X13_chip_36 : decode cX13_chip 36 = .ok (.aload_n 0, 1) := by decide +kernel
theorem d_X13_chip_37 : decode cX13_chip 37 = .ok (.iconst 0, 1) := by decide +kernel
theorem d_X13_chip_38 : decode cX13_chip 38 = .ok (.putfield 54, 3) := by decide +kernel
theorem d_X13_chip_41 : decode cX13_chip 41 = .ok (.aload_n 0, 1) := by decide +kernel
theorem d_X13_chip_42 : decode cX13_chip 42 = .ok (.iconst 2, 1) := by decide +kernel
theorem d_X13_chip_43 : decode cX13_chip 43 = .ok (.putfield 47, 3) := by decide +kernel
theorem d_X13_chip_46 : decode cX13_chip 46 = .ok (.iconst 0, 1) := by decide +kernel
theorem d_X13_chip_47 : decode cX13_chip 47 = .ok (.ireturn, 1) := by decide +kernel
theorem d_X13_chip_48 : decode cX13_chip 48 = .ok (.aload_n 0, 1) := by decide +kernel
theorem d_X13_chip_49 : decode cX13_chip 49 = .ok (.invokevirtual 112, 3) := by decide +kernel
theorem d_X13_chip_52 : decode cX13_chip 52 = .ok (.aload_n 0, 1) := by decide +kernel
theorem d_X13_chip_53 : decode cX13_chip 53 = .ok (.iconst 0, 1) := by decide +kernel
theorem d_X13_chip_54 : decode cX13_chip 54 = .ok (.putfield 122, 3) := by decide +kernel
theorem d_X13_chip_57 : decode cX13_chip 57 = .ok (.aload_n 0, 1) := by decide +kernel
theorem d_X13_chip_58 : decode cX13_chip 58 = .ok (.invokevirtual 210, 3) := by decide +kernel
theorem d_X13_chip_61 : decode cX13_chip 61 = .ok (.aload_n 0, 1) := by decide +kernel
theorem d_X13_chip_62 : decode cX13_chip 62 = .ok (.aload_n 0, 1) := by decide +kernel
theorem d_X13_chip_63 : decode cX13_chip 63 = .ok (.getfield 22, 3) := by decide +kernel
theorem d_X13_chip_66 : decode cX13_chip 66 = .ok (.iconst (-1), 1) := by decide +kernel
theorem d_X13_chip_67 : decode cX13_chip 67 = .ok (.if_icmp .eq 7, 3) := by decide +kernel
theorem d_X13_chip_70 : decode cX13_chip 70 = .ok (.iconst 2, 1) := by decide +kernel
theorem d_X13_chip_71 : decode cX13_chip 71 = .ok (.goto 19, 3) := by decide +kernel
theorem d_X13_chip_74 : decode cX13_chip 74 = .ok (.aload_n 0, 1) := by decide +kernel
theorem d_X13_chip_75 : decode cX13_chip 75 = .ok (.getfield 7, 3) := by decide +kernel
theorem d_X13_chip_78 : decode cX13_chip 78 = .ok (.iconst 2, 1) := by decide +kernel
theorem d_X13_chip_79 : decode cX13_chip 79 = .ok (.iaload, 1) := by decide +kernel
theorem d_X13_chip_80 : decode cX13_chip 80 = .ok (.bipush 60, 2) := by decide +kernel
theorem d_X13_chip_82 : decode cX13_chip 82 = .ok (.if_icmp .ne 7, 3) := by decide +kernel
theorem d_X13_chip_85 : decode cX13_chip 85 = .ok (.iconst 3, 1) := by decide +kernel
theorem d_X13_chip_86 : decode cX13_chip 86 = .ok (.goto 4, 3) := by decide +kernel
theorem d_X13_chip_89 : decode cX13_chip 89 = .ok (.iconst 0, 1) := by decide +kernel
theorem d_X13_chip_90 : decode cX13_chip 90 = .ok (.putfield 47, 3) := by decide +kernel
theorem d_X13_chip_93 : decode cX13_chip 93 = .ok (.aload_n 0, 1) := by decide +kernel
theorem d_X13_chip_94 : decode cX13_chip 94 = .ok (.getfield 47, 3) := by decide +kernel
theorem d_X13_chip_97 : decode cX13_chip 97 = .ok (.ifCond .le 5, 3) := by decide +kernel
theorem d_X13_chip_100 : decode cX13_chip 100 = .ok (.iconst 0, 1) := by decide +kernel
theorem d_X13_chip_101 : decode cX13_chip 101 = .ok (.ireturn, 1) := by decide +kernel
theorem d_X13_chip_102 : decode cX13_chip 102 = .ok (.aload_n 0, 1) := by decide +kernel
theorem d_X13_chip_103 : decode cX13_chip 103 = .ok (.iload_n 1, 1) := by decide +kernel
theorem d_X13_chip_104 : decode cX13_chip 104 = .ok (.iload_n 2, 1) := by decide +kernel
theorem d_X13_chip_105 : decode cX13_chip 105 = .ok (.iconst (-1), 1) := by decide +kernel
theorem d_X13_chip_106 : decode cX13_chip 106 = .ok (.aload_n 0, 1) := by decide +kernel
theorem d_X13_chip_107 : decode cX13_chip 107 = .ok (.getfield 63, 3) := by decide +kernel
theorem d_X13_chip_110 : decode cX13_chip 110 = .ok (.invokevirtual 213, 3) := by decide +kernel
theorem d_X13_chip_113 : decode cX13_chip 113 = .ok (.istore_n 3, 1) := by decide +kernel
theorem d_X13_chip_114 : decode cX13_chip 114 = .ok (.iconst 0, 1) := by decide +kernel
theorem d_X13_chip_115 : decode cX13_chip 115 = .ok (.istore 4, 2) := by decide +kernel
theorem d_X13_chip_117 : decode cX13_chip 117 = .ok (.iload 4, 2) := by decide +kernel
theorem d_X13_chip_119 : decode cX13_chip 119 = .ok (.aload_n 0, 1) := by decide +kernel
theorem d_X13_chip_120 : decode cX13_chip 120 = .ok (.getfield 63, 3) := by decide +kernel
theorem d_X13_chip_123 : decode cX13_chip 123 = .ok (.if_icmp .ge 33, 3) := by decide +kernel
theorem d_X13_chip_126 : decode cX13_chip 126 = .ok (.aload_n 0, 1) := by decide +kernel
theorem d_X13_chip_127 : decode cX13_chip 127 = .ok (.getfield 7, 3) := by decide +kernel
theorem d_X13_chip_130 : decode cX13_chip 130 = .ok (.sipush 1530, 3) := by decide +kernel
theorem d_X13_chip_133 : decode cX13_chip 133 = .ok (.sipush 400, 3) := by decide +kernel
theorem d_X13_chip_136 : decode cX13_chip 136 = .ok (.iload_n 3, 1) := by decide +kernel
theorem d_X13_chip_137 : decode cX13_chip 137 = .ok (.imul, 1) := by decide +kernel
theorem d_X13_chip_138 : decode cX13_chip 138 = .ok (.iadd, 1) := by decide +kernel
theorem d_X13_chip_139 : decode cX13_chip 139 = .ok (.iload 4, 2) := by decide +kernel
theorem d_X13_chip_141 : decode cX13_chip 141 = .ok (.iadd, 1) := by decide +kernel
theorem d_X13_chip_142 : decode cX13_chip 142 = .ok (.aload_n 0, 1) := by decide +kernel
theorem d_X13_chip_143 : decode cX13_chip 143 = .ok (.getfield 19, 3) := by decide +kernel
theorem d_X13_chip_146 : decode cX13_chip 146 = .ok (.iload 4, 2) := by decide +kernel
theorem d_X13_chip_148 : decode cX13_chip 148 = .ok (.iaload, 1) := by decide +kernel
theorem d_X13_chip_149 : decode cX13_chip 149 = .ok (.iastore, 1) := by decide +kernel
theorem d_X13_chip_150 : decode cX13_chip 150 = .ok (.iinc 4 1, 3) := by decide +kernel
theorem d_X13_chip_153 : decode cX13_chip 153 = .ok (.goto (-36), 3) := by decide +kernel
theorem d_X13_chip_156 : decode cX13_chip 156 = .ok (.iload_n 3, 1) := by decide +kernel
theorem d_X13_chip_157 : decode cX13_chip 157 = .ok (.ireturn, 1) := by decide +kernel
abbrev rm_X13_chip : Room := { frames := 41, cells := 0, slots := 0, locals := 929 }
def B_X13_chip_117 (post : Int32 → (Nat → Nat → Int32) → Prop) : Nat → Int32 → Int32 → (Nat → Nat → Int32) → Prop
  | 0 => fun _ _ _ => False
  | n + 1 => fun v3 v4 mm => ((mm 0 8) ≤ v4 → (post v3 mm)) ∧ (¬ (mm 0 8) ≤ v4 → ((vp_in v4 400) ∧ (vp_in ((1530 + (400 * v3)) + v4) 25530) ∧ B_X13_chip_117 post n v3 (v4 + 1) (up2 mm 1 (Int32.toNatClampNeg ((1530 + (400 * v3)) + v4)) (mm 4 (Int32.toNatClampNeg v4)))))
def B_X13_chip_90 (post : Int32 → (Nat → Nat → Int32) → Prop) (v1 : Int32) (v2 : Int32) (s0 : Int32) (mm : (Nat → Nat → Int32)) : Prop := (((up2 mm 0 0 s0) 0 0) ≤ 0 → (w_X13_adds (fun (r9 : Int32) (u10 : (Nat → Nat → Int32)) => ∃ n117, B_X13_chip_117 post n117 r9 0 u10) v1 v2 (-1) ((up2 mm 0 0 s0) 0 8) (up2 mm 0 0 s0))) ∧ (¬ ((up2 mm 0 0 s0) 0 0) ≤ 0 → (post 0 (up2 mm 0 0 s0)))
def w_X13_chip (post : Int32 → (Nat → Nat → Int32) → Prop) (x1 : Int32) (x2 : Int32) (mm : (Nat → Nat → Int32)) : Prop := w_X13_isStation (fun (r1 : Bool) (u2 : (Nat → Nat → Int32)) => (¬ (r1 = false) → (w_X13_isIn (fun (r3 : Bool) (u4 : (Nat → Nat → Int32)) => (¬ (r3 = false) → (w_X13_begins (fun (u6 : (Nat → Nat → Int32)) => w_X13_notches (fun (u8 : (Nat → Nat → Int32)) => ((u8 0 10) = (-1) → ((¬ (u8 1 (Int32.toNatClampNeg (2 : Int32))) = 60 → (B_X13_chip_90 post x1 x2 0 u8)) ∧ ((u8 1 (Int32.toNatClampNeg (2 : Int32))) = 60 → (B_X13_chip_90 post x1 x2 3 u8)))) ∧ (¬ (u8 0 10) = (-1) → (B_X13_chip_90 post x1 x2 2 u8)))  (up2 u6 0 13 0))  u4)) ∧ ((r3 = false) → (post 0 (up2 (up2 u4 0 6 0) 0 0 2)))) x2 1 9 u2)) ∧ ((r1 = false) → (post 0 (up2 (up2 u2 0 6 0) 0 0 1)))) x1 (mm 1 (Int32.toNatClampNeg (1 : Int32))) mm
section G_X13_chip
variable {p : Program} {l : Launch} {e : Env} {s : State} {m : MethodId} {args : Array Value} {below : List Frame} {meth : Method} {c : Code} {G : Gd} {ρ : Nat → Nat} {A : Nat → Prop} {cm : CMu} {oo : Nat → Int64}
set_option maxHeartbeats 4000000 in
set_option maxRecDepth 100000 in
theorem T_X13_chip_117 {post : Int32 → (Nat → Nat → Int32) → Prop} (hl : l.stackTraces = false) (X : MC p l s m args meth c cX13_chip 5 RX13 G ρ A) (hr : meth.sig.returnType = (some .int)) (hex : ∀ z ∈ c.exceptionTable.toList, False) (n : Nat) : ∀ (v3 : Int32) (v4 : Int32) (mm : (Nat → Nat → Int32)), B_X13_chip_117 post n v3 v4 mm → LW p l e rm_X13_chip s m args below meth c (Qm below G ρ A (PI (fun u => (cm, u, oo)) post) noX args s 0 0) G ρ A 5 0 0 117 [(0, .ref 703), (3, .int v3), (4, .int v4)] [] (cm, mm, oo) := by
  induction n with
  | zero =>
    intro v3 v4 mm h
    exact False.elim h
  | succ n ih =>
    intro v3 v4 mm h
    unfold B_X13_chip_117 at h
    refine L_iload (pc := 117) X d_X13_chip_117 2 rfl ?_
    refine L_aload_n (pc := 119) X d_X13_chip_119 rfl 0 rfl ?_
    refine gf_X13_63 (pc := 120) X d_X13_chip_120 ?_
    refine L_icmp_ge (pc := 123) (tgt := 156) X d_X13_chip_123 (by decide) (fun c123 => ?_) (fun c123 => ?_)
    · replace h := h.1 c123
      refine L_iload_n (pc := 156) X d_X13_chip_156 rfl 1 rfl ?_
      exact L_iret (pc := 157) X hr d_X13_chip_157 (by decide) (by decide) ⟨_, _, rfl, rfl, h⟩
    · replace h := h.2 c123
      refine L_aload_n (pc := 126) X d_X13_chip_126 rfl 0 rfl ?_
      refine gf_X13_7 (pc := 127) X d_X13_chip_127 ?_
      refine L_sipush (pc := 130) (v := 1530) X d_X13_chip_130 (by decide) ?_
      refine L_sipush (pc := 133) (v := 400) X d_X13_chip_133 (by decide) ?_
      refine L_iload_n (pc := 136) X d_X13_chip_136 rfl 1 rfl ?_
      refine L_imul (pc := 137) X d_X13_chip_137 ?_
      refine L_iadd (pc := 138) X d_X13_chip_138 ?_
      refine L_iload (pc := 139) X d_X13_chip_139 2 rfl ?_
      refine L_iadd (pc := 141) X d_X13_chip_141 ?_
      refine L_aload_n (pc := 142) X d_X13_chip_142 rfl 0 rfl ?_
      refine gf_X13_19 (pc := 143) X d_X13_chip_143 ?_
      refine L_iload (pc := 146) X d_X13_chip_146 2 rfl ?_
      obtain ⟨q11, h⟩ := h
      refine L_ialdM (pc := 148) (a := 4) X d_X13_chip_148 kd_707 q11 ?_
      obtain ⟨q12, h⟩ := h
      refine L_iastM (pc := 149) (a := 1) X d_X13_chip_149 kd_704 q12 ?_
      refine L_iinc (pc := 150) (v := v4 + 1) (lv2 := [(4, .int (v4 + 1)), (0, .ref 703), (3, .int v3)]) X d_X13_chip_150 2 rfl rfl (by decide) rfl ?_
      refine L_goto (pc := 153) (tgt := 117) X d_X13_chip_153 (by decide) ?_
      refine LW.sub [1, 2, 0] rfl ?_
      exact ih _ _  _ h
set_option maxHeartbeats 4000000 in
set_option maxRecDepth 100000 in
theorem T_X13_chip_90 {post : Int32 → (Nat → Nat → Int32) → Prop} (hl : l.stackTraces = false) (X : MC p l s m args meth c cX13_chip 5 RX13 G ρ A) (hr : meth.sig.returnType = (some .int)) (hex : ∀ z ∈ c.exceptionTable.toList, False) : ∀ (v1 : Int32) (v2 : Int32) (s0 : Int32) (mm : (Nat → Nat → Int32)), B_X13_chip_90 post v1 v2 s0 mm → LW p l e rm_X13_chip s m args below meth c (Qm below G ρ A (PI (fun u => (cm, u, oo)) post) noX args s 0 0) G ρ A 5 0 0 90 [(0, .ref 703), (1, .int v1), (2, .int v2)] [.int s0, .ref 703] (cm, mm, oo) := by
  intro v1 v2 s0 mm h
  unfold B_X13_chip_90 at h
  refine pf_X13_47 (pc := 90) X d_X13_chip_90 ?_
  refine L_aload_n (pc := 93) X d_X13_chip_93 rfl 0 rfl ?_
  refine gf_X13_47 (pc := 94) X d_X13_chip_94 ?_
  refine L_if_le (pc := 97) (tgt := 102) X d_X13_chip_97 (by decide) (fun c97 => ?_) (fun c97 => ?_)
  · replace h := h.1 c97
    refine L_aload_n (pc := 102) X d_X13_chip_102 rfl 0 rfl ?_
    refine L_iload_n (pc := 103) X d_X13_chip_103 rfl 1 rfl ?_
    refine L_iload_n (pc := 104) X d_X13_chip_104 rfl 2 rfl ?_
    refine L_iconst (pc := 105) (v := (-1)) X d_X13_chip_105 (by decide) ?_
    refine L_aload_n (pc := 106) X d_X13_chip_106 rfl 0 rfl ?_
    refine gf_X13_63 (pc := 107) X d_X13_chip_107 ?_
    refine L_callVI (pc := 110) X lk_X13_213 (c_X13_adds X.hst  h) rfl rfl kd_703 (by decide) rfl rfl ⟨by decide, by decide⟩ ⟨by decide, by decide⟩ (Nat.zero_le _) d_X13_chip_110 rfl (fun x κ1 hx => L_nox hx) (fun r9 u10 h => ?_)
    refine L_istore_n (pc := 113) (lv2 := [(3, .int r9), (0, .ref 703), (1, .int v1), (2, .int v2)]) X d_X13_chip_113 rfl (by decide) rfl ?_
    refine L_iconst (pc := 114) (v := 0) X d_X13_chip_114 (by decide) ?_
    refine L_istore (pc := 115) (lv2 := [(4, .int 0), (3, .int r9), (0, .ref 703), (1, .int v1), (2, .int v2)]) X d_X13_chip_115 (by decide) rfl ?_
    obtain ⟨n117, h⟩ := h
    refine LW.sub [2, 1, 0] rfl ?_
    exact T_X13_chip_117 hl X hr hex n117 _ _  _ h
  · replace h := h.2 c97
    refine L_iconst (pc := 100) (v := 0) X d_X13_chip_100 (by decide) ?_
    exact L_iret (pc := 101) X hr d_X13_chip_101 (by decide) (by decide) ⟨_, _, rfl, rfl, h⟩
set_option maxHeartbeats 4000000 in
set_option maxRecDepth 100000 in
theorem c_X13_chip (hl : l.stackTraces = false) {x1 : Int32} {x2 : Int32} {mm : (Nat → Nat → Int32)} {post : Int32 → (Nat → Nat → Int32) → Prop} (h : w_X13_chip post x1 x2 mm) : CT l yX13_chip (.code yX13_chip cX13_chip 5 (some .int)) rm_X13_chip 0 0 G ρ [.ref 703, .int x1, .int x2] (cm, mm, oo) (PI (fun u => (cm, u, oo)) post) noX := by
  refine CT_of hl (by decide +kernel) rfl (Nat.le_of_ble_eq_true rfl) (lv0 := [(0, .ref 703), (1, .int x1), (2, .int x2)]) rfl (fun p e s m args below meth c A X hr hex hnm => ?_)
  unfold w_X13_chip at h
  refine L_aload_n (pc := 0) X d_X13_chip_0 rfl 0 rfl ?_
  refine L_iload_n (pc := 1) X d_X13_chip_1 rfl 1 rfl ?_
  refine L_aload_n (pc := 2) X d_X13_chip_2 rfl 0 rfl ?_
  refine gf_X13_7 (pc := 3) X d_X13_chip_3 ?_
  refine L_iconst (pc := 6) (v := 1) X d_X13_chip_6 (by decide) ?_
  refine L_ialdM (pc := 7) (a := 1) X d_X13_chip_7 kd_704 (by unfold vp_in; decide) ?_
  refine L_callVZ (pc := 8) X lk_X13_206 (c_X13_isStation X.hst  h) rfl rfl kd_703 (by decide) rfl rfl ⟨by decide, by decide⟩ ⟨by decide, by decide⟩ (Nat.zero_le _) d_X13_chip_8 rfl (fun x κ1 hx => L_nox hx) (fun r1 u2 h => ?_)
  refine L_if_ne (pc := 11) (tgt := 26) X d_X13_chip_11 (by decide) (fun c11 => ?_) (fun c11 => ?_)
  · replace h := h.1 (fun z => c11 ((b2_0 _).mpr z))
    refine L_iload_n (pc := 26) X d_X13_chip_26 rfl 2 rfl ?_
    refine L_iconst (pc := 27) (v := 1) X d_X13_chip_27 (by decide) ?_
    refine L_bipush (pc := 28) (v := 9) X d_X13_chip_28 (by decide) ?_
    refine L_callSZ (pc := 30) X lk_X13_50 (c_X13_isIn X.hst  h) rfl rfl rfl ⟨by decide, by decide⟩ ⟨by decide, by decide⟩ (Nat.zero_le _) d_X13_chip_30 rfl (fun x κ1 hx => L_nox hx) (fun r3 u4 h => ?_)
    refine L_if_ne (pc := 33) (tgt := 48) X d_X13_chip_33 (by decide) (fun c33 => ?_) (fun c33 => ?_)
    · replace h := h.1 (fun z => c33 ((b2_0 _).mpr z))
      refine L_aload_n (pc := 48) X d_X13_chip_48 rfl 0 rfl ?_
      refine L_callVV (pc := 49) X lk_X13_112 (c_X13_begins X.hst  h) rfl rfl kd_703 (by decide) rfl rfl ⟨by decide, by decide⟩ ⟨by decide, by decide⟩ (Nat.zero_le _) d_X13_chip_49 rfl (fun x κ1 hx => L_nox hx) (fun u6 h => ?_)
      refine L_aload_n (pc := 52) X d_X13_chip_52 rfl 0 rfl ?_
      refine L_iconst (pc := 53) (v := 0) X d_X13_chip_53 (by decide) ?_
      refine pf_X13_122 (pc := 54) X d_X13_chip_54 rfl rfl ?_
      refine L_aload_n (pc := 57) X d_X13_chip_57 rfl 0 rfl ?_
      refine L_callVV (pc := 58) X lk_X13_210 (c_X13_notches X.hst  h) rfl rfl kd_703 (by decide) rfl rfl ⟨by decide, by decide⟩ ⟨by decide, by decide⟩ (Nat.zero_le _) d_X13_chip_58 rfl (fun x κ1 hx => L_nox hx) (fun u8 h => ?_)
      refine L_aload_n (pc := 61) X d_X13_chip_61 rfl 0 rfl ?_
      refine L_aload_n (pc := 62) X d_X13_chip_62 rfl 0 rfl ?_
      refine gf_X13_22 (pc := 63) X d_X13_chip_63 ?_
      refine L_iconst (pc := 66) (v := (-1)) X d_X13_chip_66 (by decide) ?_
      refine L_icmp_eq (pc := 67) (tgt := 74) X d_X13_chip_67 (by decide) (fun c67 => ?_) (fun c67 => ?_)
      · replace h := h.1 c67
        refine L_aload_n (pc := 74) X d_X13_chip_74 rfl 0 rfl ?_
        refine gf_X13_7 (pc := 75) X d_X13_chip_75 ?_
        refine L_iconst (pc := 78) (v := 2) X d_X13_chip_78 (by decide) ?_
        refine L_ialdM (pc := 79) (a := 1) X d_X13_chip_79 kd_704 (by unfold vp_in; decide) ?_
        refine L_bipush (pc := 80) (v := 60) X d_X13_chip_80 (by decide) ?_
        refine L_icmp_ne (pc := 82) (tgt := 89) X d_X13_chip_82 (by decide) (fun c82 => ?_) (fun c82 => ?_)
        · replace h := h.1 c82
          refine L_iconst (pc := 89) (v := 0) X d_X13_chip_89 (by decide) ?_
          refine LW.sub [0, 1, 2] rfl ?_
          exact T_X13_chip_90 hl X hr hex _ _ _  _ h
        · replace h := h.2 c82
          refine L_iconst (pc := 85) (v := 3) X d_X13_chip_85 (by decide) ?_
          refine L_goto (pc := 86) (tgt := 90) X d_X13_chip_86 (by decide) ?_
          refine LW.sub [0, 1, 2] rfl ?_
          exact T_X13_chip_90 hl X hr hex _ _ _  _ h
      · replace h := h.2 c67
        refine L_iconst (pc := 70) (v := 2) X d_X13_chip_70 (by decide) ?_
        refine L_goto (pc := 71) (tgt := 90) X d_X13_chip_71 (by decide) ?_
        refine LW.sub [0, 1, 2] rfl ?_
        exact T_X13_chip_90 hl X hr hex _ _ _  _ h
    · replace h := h.2 ((b2_0 _).mp c33)
      refine L_aload_n (pc := 36) X d_X13_chip_36 rfl 0 rfl ?_
      refine L_iconst (pc := 37) (v := 0) X d_X13_chip_37 (by decide) ?_
      refine pf_X13_54 (pc := 38) X d_X13_chip_38 ?_
      refine L_aload_n (pc := 41) X d_X13_chip_41 rfl 0 rfl ?_
      refine L_iconst (pc := 42) (v := 2) X d_X13_chip_42 (by decide) ?_
      refine pf_X13_47 (pc := 43) X d_X13_chip_43 ?_
      refine L_iconst (pc := 46) (v := 0) X d_X13_chip_46 (by decide) ?_
      exact L_iret (pc := 47) X hr d_X13_chip_47 (by decide) (by decide) ⟨_, _, rfl, rfl, h⟩
  · replace h := h.2 ((b2_0 _).mp c11)
    refine L_aload_n (pc := 14) X d_X13_chip_14 rfl 0 rfl ?_
    refine L_iconst (pc := 15) (v := 0) X d_X13_chip_15 (by decide) ?_
    refine pf_X13_54 (pc := 16) X d_X13_chip_16 ?_
    refine L_aload_n (pc := 19) X d_X13_chip_19 rfl 0 rfl ?_
    refine L_iconst (pc := 20) (v := 1) X d_X13_chip_20 (by decide) ?_
    refine pf_X13_47 (pc := 21) X d_X13_chip_21 ?_
    refine L_iconst (pc := 24) (v := 0) X d_X13_chip_24 (by decide) ?_
    exact L_iret (pc := 25) X hr d_X13_chip_25 (by decide) (by decide) ⟨_, _, rfl, rfl, h⟩
end G_X13_chip
theorem d_X13_reads_0 : decode cX13_reads 0 = .ok (.aload_n 0, 1) := by decide +kernel
theorem d_X13_reads_1 : decode cX13_reads 1 = .ok (.iload_n 1, 1) := by decide +kernel
theorem d_X13_reads_2 : decode cX13_reads 2 = .ok (.bipush 7, 2) := by decide +kernel
theorem d_X13_reads_4 : decode cX13_reads 4 = .ok (.invokevirtual 132, 3) := by decide +kernel
theorem d_X13_reads_7 : decode cX13_reads 7 = .ok (.ifCond .ne 9, 3) := by decide +kernel
theorem d_X13_reads_10 : decode cX13_reads 10 = .ok (.aload_n 0, 1) := by decide +kernel
theorem d_X13_reads_11 : decode cX13_reads 11 = .ok (.iconst (-1), 1) := by decide +kernel
theorem d_X13_reads_12 : decode cX13_reads 12 = .ok (.putfield 192, 3) := by decide +kernel
theorem d_X13_reads_15 : decode cX13_reads 15 = .ok (.return_, 1) := by decide +kernel
theorem d_X13_reads_16 : decode cX13_reads 16 = .ok (.aload_n 0, 1) := by decide +kernel
theorem d_X13_reads_17 : decode cX13_reads 17 = .ok (.getfield 22, 3) := by decide +kernel
theorem d_X13_reads_20 : decode cX13_reads 20 = .ok (.istore_n 3, 1) := by decide +kernel
theorem d_X13_reads_21 : decode cX13_reads 21 = .ok (.aload_n 0, 1) := by decide +kernel
theorem d_X13_reads_22 : decode cX13_reads 22 = .ok (.iconst (-1), 1) := by decide +kernel
theorem d_X13_reads_23 : decode cX13_reads 23 = .ok (.putfield 22, 3) := by decide +kernel
theorem d_X13_reads_26 : decode cX13_reads 26 = .ok (.aload_n 0, 1) := by decide +kernel
theorem d_X13_reads_27 : decode cX13_reads 27 = .ok (.sipush 1530, 3) := by decide +kernel
theorem d_X13_reads_30 : decode cX13_reads 30 = .ok (.sipush 400, 3) := by decide +kernel
theorem d_X13_reads_33 : decode cX13_reads 33 = .ok (.iload_n 1, 1) := by decide +kernel
theorem d_X13_reads_34 : decode cX13_reads 34 = .ok (.imul, 1) := by decide +kernel
theorem d_X13_reads_35 : decode cX13_reads 35 = .ok (.iadd, 1) := by decide +kernel
theorem d_X13_reads_36 : decode cX13_reads 36 = .ok (.putfield 57, 3) := by decide +kernel
theorem d_X13_reads_39 : decode cX13_reads 39 = .ok (.aload_n 0, 1) := by decide +kernel
theorem d_X13_reads_40 : decode cX13_reads 40 = .ok (.aload_n 0, 1) := by decide +kernel
theorem d_X13_reads_41 : decode cX13_reads 41 = .ok (.iload_n 1, 1) := by decide +kernel
theorem d_X13_reads_42 : decode cX13_reads 42 = .ok (.bipush 7, 2) := by decide +kernel
theorem d_X13_reads_44 : decode cX13_reads 44 = .ok (.invokevirtual 132, 3) := by decide +kernel
theorem d_X13_reads_47 : decode cX13_reads 47 = .ok (.putfield 63, 3) := by decide +kernel
theorem d_X13_reads_50 : decode cX13_reads 50 = .ok (.aload_n 0, 1) := by decide +kernel
theorem d_X13_reads_51 : decode cX13_reads 51 = .ok (.iload_n 2, 1) := by decide +kernel
theorem d_X13_reads_52 : decode cX13_reads 52 = .ok (.putfield 122, 3) := by decide +kernel
theorem d_X13_reads_55 : decode cX13_reads 55 = .ok (.aload_n 0, 1) := by decide +kernel
theorem d_X13_reads_56 : decode cX13_reads 56 = .ok (.iload_n 1, 1) := by decide +kernel
theorem d_X13_reads_57 : decode cX13_reads 57 = .ok (.putfield 129, 3) := by decide +kernel
theorem d_X13_reads_60 : decode cX13_reads 60 = .ok (.aload_n 0, 1) := by decide +kernel
theorem d_X13_reads_61 : decode cX13_reads 61 = .ok (.invokevirtual 210, 3) := by decide +kernel
theorem d_X13_reads_64 : decode cX13_reads 64 = .ok (.aload_n 0, 1) := by decide +kernel
theorem d_X13_reads_65 : decode cX13_reads 65 = .ok (.iload_n 3, 1) := by decide +kernel
theorem d_X13_reads_66 : decode cX13_reads 66 = .ok (.putfield 22, 3) := by decide +kernel
theorem d_X13_reads_69 : decode cX13_reads 69 = .ok (.aload_n 0, 1) := by decide +kernel
theorem d_X13_reads_70 : decode cX13_reads 70 = .ok (.iconst 0, 1) := by decide +kernel
theorem d_X13_reads_71 : decode cX13_reads 71 = .ok (.putfield 122, 3) := by decide +kernel
theorem d_X13_reads_74 : decode cX13_reads 74 = .ok (.return_, 1) := by decide +kernel
abbrev rm_X13_reads : Room := { frames := 41, cells := 0, slots := 0, locals := 929 }
def w_X13_reads (post : (Nat → Nat → Int32) → Prop) (x1 : Int32) (x2 : Bool) (mm : (Nat → Nat → Int32)) : Prop := w_X13_chipOf (fun (r1 : Int32) (u2 : (Nat → Nat → Int32)) => (¬ r1 = 0 → (w_X13_chipOf (fun (r3 : Int32) (u4 : (Nat → Nat → Int32)) => w_X13_notches (fun (u6 : (Nat → Nat → Int32)) => post (up2 (up2 u6 0 10 (u2 0 10)) 0 13 0))  (up2 (up2 (up2 u4 0 8 r3) 0 13 (b2 x2)) 0 14 x1)) x1 7 (up2 (up2 u2 0 10 (-1)) 0 7 (1530 + (400 * x1))))) ∧ (r1 = 0 → (post (up2 u2 0 12 (-1))))) x1 7 mm
section G_X13_reads
variable {p : Program} {l : Launch} {e : Env} {s : State} {m : MethodId} {args : Array Value} {below : List Frame} {meth : Method} {c : Code} {G : Gd} {ρ : Nat → Nat} {A : Nat → Prop} {cm : CMu} {oo : Nat → Int64}
set_option maxHeartbeats 4000000 in
set_option maxRecDepth 100000 in
theorem c_X13_reads (hl : l.stackTraces = false) {x1 : Int32} {x2 : Bool} {mm : (Nat → Nat → Int32)} {post : (Nat → Nat → Int32) → Prop} (h : w_X13_reads post x1 x2 mm) : CT l yX13_reads (.code yX13_reads cX13_reads 4 none) rm_X13_reads 0 0 G ρ [.ref 703, .int x1, .int (b2 x2)] (cm, mm, oo) (PV (fun u => (cm, u, oo)) post) noX := by
  refine CT_of hl (by decide +kernel) rfl (Nat.le_of_ble_eq_true rfl) (lv0 := [(0, .ref 703), (1, .int x1), (2, .int (b2 x2))]) rfl (fun p e s m args below meth c A X hr hex hnm => ?_)
  unfold w_X13_reads at h
  refine L_aload_n (pc := 0) X d_X13_reads_0 rfl 0 rfl ?_
  refine L_iload_n (pc := 1) X d_X13_reads_1 rfl 1 rfl ?_
  refine L_bipush (pc := 2) (v := 7) X d_X13_reads_2 (by decide) ?_
  refine L_callVI (pc := 4) X lk_X13_132 (c_X13_chipOf X.hst  h) rfl rfl kd_703 (by decide) rfl rfl ⟨by decide, by decide⟩ ⟨by decide, by decide⟩ (Nat.zero_le _) d_X13_reads_4 rfl (fun x κ1 hx => L_nox hx) (fun r1 u2 h => ?_)
  refine L_if_ne (pc := 7) (tgt := 16) X d_X13_reads_7 (by decide) (fun c7 => ?_) (fun c7 => ?_)
  · replace h := h.1 c7
    refine L_aload_n (pc := 16) X d_X13_reads_16 rfl 0 rfl ?_
    refine gf_X13_22 (pc := 17) X d_X13_reads_17 ?_
    refine L_istore_n (pc := 20) (lv2 := [(3, .int (u2 0 10)), (0, .ref 703), (1, .int x1), (2, .int (b2 x2))]) X d_X13_reads_20 rfl (by decide) rfl ?_
    refine L_aload_n (pc := 21) X d_X13_reads_21 rfl 1 rfl ?_
    refine L_iconst (pc := 22) (v := (-1)) X d_X13_reads_22 (by decide) ?_
    refine pf_X13_22 (pc := 23) X d_X13_reads_23 ?_
    refine L_aload_n (pc := 26) X d_X13_reads_26 rfl 1 rfl ?_
    refine L_sipush (pc := 27) (v := 1530) X d_X13_reads_27 (by decide) ?_
    refine L_sipush (pc := 30) (v := 400) X d_X13_reads_30 (by decide) ?_
    refine L_iload_n (pc := 33) X d_X13_reads_33 rfl 2 rfl ?_
    refine L_imul (pc := 34) X d_X13_reads_34 ?_
    refine L_iadd (pc := 35) X d_X13_reads_35 ?_
    refine pf_X13_57 (pc := 36) X d_X13_reads_36 ?_
    refine L_aload_n (pc := 39) X d_X13_reads_39 rfl 1 rfl ?_
    refine L_aload_n (pc := 40) X d_X13_reads_40 rfl 1 rfl ?_
    refine L_iload_n (pc := 41) X d_X13_reads_41 rfl 2 rfl ?_
    refine L_bipush (pc := 42) (v := 7) X d_X13_reads_42 (by decide) ?_
    refine L_callVI (pc := 44) X lk_X13_132 (c_X13_chipOf X.hst  h) rfl rfl kd_703 (by decide) rfl rfl ⟨by decide, by decide⟩ ⟨by decide, by decide⟩ (Nat.le_of_ble_eq_true rfl) d_X13_reads_44 rfl (fun x κ1 hx => L_nox hx) (fun r3 u4 h => ?_)
    refine pf_X13_63 (pc := 47) X d_X13_reads_47 ?_
    refine L_aload_n (pc := 50) X d_X13_reads_50 rfl 1 rfl ?_
    refine L_iload_n (pc := 51) X d_X13_reads_51 rfl 3 rfl ?_
    refine pf_X13_122 (pc := 52) X d_X13_reads_52 (b2_nar _) (b2_fit _) ?_
    refine L_aload_n (pc := 55) X d_X13_reads_55 rfl 1 rfl ?_
    refine L_iload_n (pc := 56) X d_X13_reads_56 rfl 2 rfl ?_
    refine pf_X13_129 (pc := 57) X d_X13_reads_57 ?_
    refine L_aload_n (pc := 60) X d_X13_reads_60 rfl 1 rfl ?_
    refine L_callVV (pc := 61) X lk_X13_210 (c_X13_notches X.hst  h) rfl rfl kd_703 (by decide) rfl rfl ⟨by decide, by decide⟩ ⟨by decide, by decide⟩ (Nat.zero_le _) d_X13_reads_61 rfl (fun x κ1 hx => L_nox hx) (fun u6 h => ?_)
    refine L_aload_n (pc := 64) X d_X13_reads_64 rfl 1 rfl ?_
    refine L_iload_n (pc := 65) X d_X13_reads_65 rfl 0 rfl ?_
    refine pf_X13_22 (pc := 66) X d_X13_reads_66 ?_
    refine L_aload_n (pc := 69) X d_X13_reads_69 rfl 1 rfl ?_
    refine L_iconst (pc := 70) (v := 0) X d_X13_reads_70 (by decide) ?_
    refine pf_X13_122 (pc := 71) X d_X13_reads_71 rfl rfl ?_
    exact L_vret (pc := 74) X hr d_X13_reads_74 (by decide) (by decide) ⟨_, rfl, rfl, h⟩
  · replace h := h.2 c7
    refine L_aload_n (pc := 10) X d_X13_reads_10 rfl 0 rfl ?_
    refine L_iconst (pc := 11) (v := (-1)) X d_X13_reads_11 (by decide) ?_
    refine pf_X13_192 (pc := 12) X d_X13_reads_12 ?_
    exact L_vret (pc := 15) X hr d_X13_reads_15 (by decide) (by decide) ⟨_, rfl, rfl, h⟩
end G_X13_reads
theorem yk_X13_reads : yX13_reads.cls = RX13 ∧ yX13_reads.cls ≠ "java/lang/invoke/MethodHandle" ∧ yX13_reads.cls ≠ "java/lang/invoke/VarHandle" ∧ (parseMethodDescriptor yX13_reads.desc).map (fun d => d.parameters.length) = some 2 := by decide +kernel
theorem lk_X13_217 : LinkV RX13 217 RX13 yX13_reads (.code yX13_reads cX13_reads 4 none) 2 := ⟨tw_1471, tw_1473, tw_59, tw_83, tw_1474, yk_X13_reads⟩
theorem d_X13_comes_0 : decode cX13_comes 0 = .ok (.aload_n 0, 1) := by decide +kernel
theorem d_X13_comes_1 : decode cX13_comes 1 = .ok (.iload_n 1, 1) := by decide +kernel
theorem d_X13_comes_2 : decode cX13_comes 2 = .ok (.iconst 1, 1) := by decide +kernel
theorem d_X13_comes_3 : decode cX13_comes 3 = .ok (.iload_n 2, 1) := by decide +kernel
theorem d_X13_comes_4 : decode cX13_comes 4 = .ok (.invokevirtual 202, 3) := by decide +kernel
theorem d_X13_comes_7 : decode cX13_comes 7 = .ok (.aload_n 0, 1) := by decide +kernel
theorem d_X13_comes_8 : decode cX13_comes 8 = .ok (.iload_n 1, 1) := by decide +kernel
theorem d_X13_comes_9 : decode cX13_comes 9 = .ok (.iconst 4, 1) := by decide +kernel
theorem d_X13_comes_10 : decode cX13_comes 10 = .ok (.aload_n 0, 1) := by decide +kernel
theorem d_X13_comes_11 : decode cX13_comes 11 = .ok (.getfield 7, 3) := by decide +kernel
theorem d_X13_comes_14 : decode cX13_comes 14 = .ok (.iconst 4, 1) := by decide +kernel
theorem d_X13_comes_15 : decode cX13_comes 15 = .ok (.iaload, 1) := by decide +kernel
theorem d_X13_comes_16 : decode cX13_comes 16 = .ok (.invokevirtual 202, 3) := by decide +kernel
theorem d_X13_comes_19 : decode cX13_comes 19 = .ok (.aload_n 0, 1) := by decide +kernel
theorem d_X13_comes_20 : decode cX13_comes 20 = .ok (.iload_n 1, 1) := by decide +kernel
theorem d_X13_comes_21 : decode cX13_comes 21 = .ok (.iconst 2, 1) := by decide +kernel
theorem d_X13_comes_22 : decode cX13_comes 22 = .ok (.iconst 0, 1) := by decide +kernel
theorem d_X13_comes_23 : decode cX13_comes 23 = .ok (.invokevirtual 202, 3) := by decide +kernel
theorem d_X13_comes_26 : decode cX13_comes 26 = .ok (.iload_n 2, 1) := by decide +kernel
theorem d_X13_comes_27 : decode cX13_comes 27 = .ok (.aload_n 0, 1) := by decide +kernel
theorem d_X13_comes_28 : decode cX13_comes 28 = .ok (.getfield 7, 3) := by decide +kernel
theorem d_X13_comes_31 : decode cX13_comes 31 = .ok (.iconst 1, 1) := by decide +kernel
theorem d_X13_comes_32 : decode cX13_comes 32 = .ok (.iaload, 1) := by decide +kernel
theorem d_X13_comes_33 : decode cX13_comes 33 = .ok (.iconst 1, 1) := by decide +kernel
theorem d_X13_comes_34 : decode cX13_comes 34 = .ok (.iadd, 1) := by decide +kernel
theorem d_X13_comes_35 : decode cX13_comes 35 = .ok (.if_icmp .ne 37, 3) := by decide +kernel
theorem d_X13_comes_38 : decode cX13_comes 38 = .ok (.aload_n 0, 1) := by decide +kernel
theorem d_X13_comes_39 : decode cX13_comes 39 = .ok (.iload_n 1, 1) := by decide +kernel
theorem d_X13_comes_40 : decode cX13_comes 40 = .ok (.iconst 0, 1) := by decide +kernel
theorem d_X13_comes_41 : decode cX13_comes 41 = .ok (.iconst 4, 1) := by decide +kernel
theorem d_X13_comes_42 : decode cX13_comes 42 = .ok (.invokevirtual 202, 3) := by decide +kernel
theorem d_X13_comes_45 : decode cX13_comes 45 = .ok (.aload_n 0, 1) := by decide +kernel
theorem d_X13_comes_46 : decode cX13_comes 46 = .ok (.getfield 7, 3) := by decide +kernel
theorem d_X13_comes_49 : decode cX13_comes 49 = .ok (.sipush 262, 3) := by decide +kernel
theorem d_X13_comes_52 : decode cX13_comes 52 = .ok (.aload_n 0, 1) := by decide +kernel
theorem d_X13_comes_53 : decode cX13_comes 53 = .ok (.getfield 7, 3) := by decide +kernel
theorem d_X13_comes_56 : decode cX13_comes 56 = .ok (.iconst 3, 1) := by decide +kernel
theorem d_X13_comes_57 : decode cX13_comes 57 = .ok (.iaload, 1) := by decide +kernel
theorem d_X13_comes_58 : decode cX13_comes 58 = .ok (.iadd, 1) := by decide +kernel
theorem d_X13_comes_59 : decode cX13_comes 59 = .ok (.iload_n 1, 1) := by decide +kernel
theorem d_X13_comes_60 : decode cX13_comes 60 = .ok (.iastore, 1) := by decide +kernel
theorem d_X13_comes_61 : decode cX13_comes 61 = .ok (.aload_n 0, 1) := by decide +kernel
theorem d_X13_comes_62 : decode cX13_comes 62 = .ok (.getfield 7, 3) := by decide +kernel
theorem d_X13_comes_65 : decode cX13_comes 65 = .ok (.iconst 3, 1) := by decide +kernel
theorem d_X13_comes_66 : decode cX13_comes 66 = .ok (.dup2, 1) := by decide +kernel
theorem d_X13_comes_67 : decode cX13_comes 67 = .ok (.iaload, 1) := by decide +kernel
theorem d_X13_comes_68 : decode cX13_comes 68 = .ok (.iconst 1, 1) := by decide +kernel
theorem d_X13_comes_69 : decode cX13_comes 69 = .ok (.iadd, 1) := by decide +kernel
theorem d_X13_comes_70 : decode cX13_comes 70 = .ok (.iastore, 1) := by decide +kernel
theorem d_X13_comes_71 : decode cX13_comes 71 = .ok (.return_, 1) := by decide +kernel
theorem d_X13_comes_72 : decode cX13_comes 72 = .ok (.aload_n 0, 1) := by decide +kernel
theorem d_X13_comes_73 : decode cX13_comes 73 = .ok (.iload_n 1, 1) := by decide +kernel
theorem d_X13_comes_74 : decode cX13_comes 74 = .ok (.iconst 0, 1) := by decide +kernel
theorem d_X13_comes_75 : decode cX13_comes 75 = .ok (.invokevirtual 217, 3) := by decide +kernel
theorem d_X13_comes_78 : decode cX13_comes 78 = .ok (.aload_n 0, 1) := by decide +kernel
theorem d_X13_comes_79 : decode cX13_comes 79 = .ok (.getfield 192, 3) := by decide +kernel
theorem d_X13_comes_82 : decode cX13_comes 82 = .ok (.ifCond .eq 11, 3) := by decide +kernel
theorem d_X13_comes_85 : decode cX13_comes 85 = .ok (.aload_n 0, 1) := by decide +kernel
theorem d_X13_comes_86 : decode cX13_comes 86 = .ok (.getfield 192, 3) := by decide +kernel
theorem d_X13_comes_89 : decode cX13_comes 89 = .ok (.iload_n 2, 1) := by decide +kernel
theorem d_X13_comes_90 : decode cX13_comes 90 = .ok (.if_icmp .ne 7, 3) := by decide +kernel
theorem d_X13_comes_93 : decode cX13_comes 93 = .ok (.iconst 1, 1) := by decide +kernel
theorem d_X13_comes_94 : decode cX13_comes 94 = .ok (.goto 4, 3) := by decide +kernel
theorem d_X13_comes_97 : decode cX13_comes 97 = .ok (.iconst 0, 1) := by decide +kernel
theorem d_X13_comes_98 : decode cX13_comes 98 = .ok (.istore_n 3, 1) := by decide +kernel
theorem d_X13_comes_99 : decode cX13_comes 99 = .ok (.aload_n 0, 1) := by decide +kernel
theorem d_X13_comes_100 : decode cX13_comes 100 = .ok (.getfield 192, 3) := by decide +kernel
theorem d_X13_comes_103 : decode cX13_comes 103 = .ok (.iload_n 2, 1) := by decide +kernel
theorem d_X13_comes_104 : decode cX13_comes 104 = .ok (.if_icmp .ne 7, 3) := by decide +kernel
theorem d_X13_comes_107 : decode cX13_comes 107 = .ok (.iconst 1, 1) := by decide +kernel
theorem d_X13_comes_108 : decode cX13_comes 108 = .ok (.goto 4, 3) := by decide +kernel
theorem d_X13_comes_111 : decode cX13_comes 111 = .ok (.iconst 0, 1) := by decide +kernel
theorem d_X13_comes_112 : decode cX13_comes 112 = .ok (.istore 4, 2) := by decide +kernel
theorem d_X13_comes_114 : decode cX13_comes 114 = .ok (.aload_n 0, 1) := by decide +kernel
theorem d_X13_comes_115 : decode cX13_comes 115 = .ok (.iload_n 1, 1) := by decide +kernel
theorem d_X13_comes_116 : decode cX13_comes 116 = .ok (.iconst 0, 1) := by decide +kernel
theorem d_X13_comes_117 : decode cX13_comes 117 = .ok (.iload 4, 2) := by decide +kernel
theorem d_X13_comes_119 : decode cX13_comes 119 = .ok (.ifCond .eq 7, 3) := by decide +kernel
theorem d_X13_comes_122 : decode cX13_comes 122 = .ok (.iconst 3, 1) := by decide +kernel
theorem d_X13_comes_123 : decode cX13_comes 123 = .ok (.goto 4, 3) := by decide +kernel
theorem d_X13_comes_126 : decode cX13_comes 126 = .ok (.iconst 0, 1) := by decide +kernel
theorem d_X13_comes_127 : decode cX13_comes 127 = .ok (.invokevirtual 202, 3) := by decide +kernel
theorem d_X13_comes_130 : decode cX13_comes 130 = .ok (.iload_n 3, 1) := by decide +kernel
theorem d_X13_comes_131 : decode cX13_comes 131 = .ok (.ifCond .eq 22, 3) := by decide +kernel
theorem d_X13_comes_134 : decode cX13_comes 134 = .ok (.aload_n 0, 1) := by decide +kernel
theorem d_X13_comes_135 : decode cX13_comes 135 = .ok (.getfield 7, 3) := by decide +kernel
theorem d_X13_comes_138 : decode cX13_comes 138 = .ok (.sipush 810, 3) := by decide +kernel
theorem d_X13_comes_141 : decode cX13_comes 141 = .ok (.bipush 60, 2) := by decide +kernel
theorem d_X13_comes_143 : decode cX13_comes 143 = .ok (.iload_n 2, 1) := by decide +kernel
theorem d_X13_comes_144 : decode cX13_comes 144 = .ok (.imul, 1) := by decide +kernel
theorem d_X13_comes_145 : decode cX13_comes 145 = .ok (.iadd, 1) := by decide +kernel
theorem d_X13_comes_146 : decode cX13_comes 146 = .ok (.iload_n 1, 1) := by decide +kernel
theorem d_X13_comes_147 : decode cX13_comes 147 = .ok (.iadd, 1) := by decide +kernel
theorem d_X13_comes_148 : decode cX13_comes 148 = .ok (.iaload, 1) := by decide +kernel
theorem d_X13_comes_149 : decode cX13_comes 149 = .ok (.iconst 1, 1) := by decide +kernel
theorem d_X13_comes_150 : decode cX13_comes 150 = .ok (.if_icmp .ne 4, 3) := by decide +kernel
theorem d_X13_comes_153 : decode cX13_comes 153 = .ok (.return_, 1) := by decide +kernel
theorem d_X13_comes_154 : decode cX13_comes 154 = .ok (.aload_n 0, 1) := by decide +kernel
theorem d_X13_comes_155 : decode cX13_comes 155 = .ok (.iload_n 2, 1) := by decide +kernel
theorem d_X13_comes_156 : decode cX13_comes 156 = .ok (.putfield 126, 3) := by decide +kernel
theorem d_X13_comes_159 : decode cX13_comes 159 = .ok (.aload_n 0, 1) := by decide +kernel
theorem d_X13_comes_160 : decode cX13_comes 160 = .ok (.iload_n 1, 1) := by decide +kernel
theorem d_X13_comes_161 : decode cX13_comes 161 = .ok (.iconst 1, 1) := by decide +kernel
theorem d_X13_comes_162 : decode cX13_comes 162 = .ok (.invokevirtual 217, 3) := by decide +kernel
theorem d_X13_comes_165 : decode cX13_comes 165 = .ok (.aload_n 0, 1) := by decide +kernel
theorem d_X13_comes_166 : decode cX13_comes 166 = .ok (.iload_n 1, 1) := by decide +kernel
theorem d_X13_comes_167 : decode cX13_comes 167 = .ok (.bipush 6, 2) := by decide +kernel
theorem d_X13_comes_169 : decode cX13_comes 169 = .ok (.aload_n 0, 1) := by decide +kernel
theorem d_X13_comes_170 : decode cX13_comes 170 = .ok (.iload_n 1, 1) := by decide +kernel
theorem d_X13_comes_171 : decode cX13_comes 171 = .ok (.bipush 6, 2) := by decide +kernel
theorem d_X13_comes_173 : decode cX13_comes 173 = .ok (.invokevirtual 132, 3) := by decide +kernel
theorem d_X13_comes_176 : decode cX13_comes 176 = .ok (.iconst 1, 1) := by decide +kernel
theorem d_X13_comes_177 : decode cX13_comes 177 = .ok (.iload_n 2, 1) := by decide +kernel
theorem d_X13_comes_178 : decode cX13_comes 178 = .ok (.ishl, 1) := by decide +kernel
theorem d_X13_comes_179 : decode cX13_comes 179 = .ok (.ior, 1) := by decide +kernel
theorem d_X13_comes_180 : decode cX13_comes 180 = .ok (.invokevirtual 202, 3) := by decide +kernel
theorem d_X13_comes_183 : decode cX13_comes 183 = .ok (.return_, 1) := by decide +kernel
abbrev rm_X13_comes : Room := { frames := 42, cells := 0, slots := 0, locals := 952 }
def B_X13_comes_153 (post : (Nat → Nat → Int32) → Prop) (mm : (Nat → Nat → Int32)) : Prop := post mm
def B_X13_comes_127 (post : (Nat → Nat → Int32) → Prop) (v1 : Int32) (v2 : Int32) (v3 : Bool) (s0 : Int32) (s1 : Bool) (s2 : Int32) (mm : (Nat → Nat → Int32)) : Prop := w_X13_sets (fun (u13 : (Nat → Nat → Int32)) => ((v3 = false) → (B_X13_comes_153 post u13)) ∧ (¬ (v3 = false) → ((vp_in ((810 + (60 * v2)) + v1) 25530) ∧ (¬ (u13 1 (Int32.toNatClampNeg ((810 + (60 * v2)) + v1))) = 1 → (w_X13_reads (fun (u16 : (Nat → Nat → Int32)) => w_X13_chipOf (fun (r17 : Int32) (u18 : (Nat → Nat → Int32)) => w_X13_sets (fun (u20 : (Nat → Nat → Int32)) => post u20) v1 6 (r17 ||| (1 <<< (v2 &&& 31))) u18) v1 6 u16) v1 true (up2 u13 0 15 v2))) ∧ ((u13 1 (Int32.toNatClampNeg ((810 + (60 * v2)) + v1))) = 1 → (B_X13_comes_153 post u13))))) s2 (b2 s1) s0 mm
def B_X13_comes_112 (post : (Nat → Nat → Int32) → Prop) (v1 : Int32) (v2 : Int32) (v3 : Bool) (s0 : Bool) (mm : (Nat → Nat → Int32)) : Prop := ((s0 = false) → (B_X13_comes_127 post v1 v2 v3 0 false v1 mm)) ∧ (¬ (s0 = false) → (B_X13_comes_127 post v1 v2 v3 3 false v1 mm))
def B_X13_comes_98 (post : (Nat → Nat → Int32) → Prop) (v1 : Int32) (v2 : Int32) (s0 : Bool) (mm : (Nat → Nat → Int32)) : Prop := (¬ (mm 0 12) = v2 → (B_X13_comes_112 post v1 v2 s0 false mm)) ∧ ((mm 0 12) = v2 → (B_X13_comes_112 post v1 v2 s0 true mm))
def B_X13_comes_93 (post : (Nat → Nat → Int32) → Prop) (v1 : Int32) (v2 : Int32) (mm : (Nat → Nat → Int32)) : Prop := B_X13_comes_98 post v1 v2 true mm
def w_X13_comes (post : (Nat → Nat → Int32) → Prop) (x1 : Int32) (x2 : Int32) (mm : (Nat → Nat → Int32)) : Prop := w_X13_sets (fun (u2 : (Nat → Nat → Int32)) => w_X13_sets (fun (u4 : (Nat → Nat → Int32)) => w_X13_sets (fun (u6 : (Nat → Nat → Int32)) => (¬ x2 = ((u6 1 (Int32.toNatClampNeg (1 : Int32))) + 1) → (w_X13_reads (fun (u8 : (Nat → Nat → Int32)) => ((u8 0 12) = 0 → (B_X13_comes_93 post x1 x2 u8)) ∧ (¬ (u8 0 12) = 0 → ((¬ (u8 0 12) = x2 → (B_X13_comes_98 post x1 x2 false u8)) ∧ ((u8 0 12) = x2 → (B_X13_comes_93 post x1 x2 u8))))) x1 false u6)) ∧ (x2 = ((u6 1 (Int32.toNatClampNeg (1 : Int32))) + 1) → (w_X13_sets (fun (u10 : (Nat → Nat → Int32)) => (vp_in (262 + (u10 1 (Int32.toNatClampNeg (3 : Int32)))) 25530) ∧ post (up2 (up2 u10 1 (Int32.toNatClampNeg (262 + (u10 1 (Int32.toNatClampNeg (3 : Int32))))) x1) 1 (Int32.toNatClampNeg (3 : Int32)) (((up2 u10 1 (Int32.toNatClampNeg (262 + (u10 1 (Int32.toNatClampNeg (3 : Int32))))) x1) 1 (Int32.toNatClampNeg (3 : Int32))) + 1))) x1 0 4 u6))) x1 2 0 u4) x1 4 (u2 1 (Int32.toNatClampNeg (4 : Int32))) u2) x1 1 x2 mm
section G_X13_comes
variable {p : Program} {l : Launch} {e : Env} {s : State} {m : MethodId} {args : Array Value} {below : List Frame} {meth : Method} {c : Code} {G : Gd} {ρ : Nat → Nat} {A : Nat → Prop} {cm : CMu} {oo : Nat → Int64}
set_option maxHeartbeats 4000000 in
set_option maxRecDepth 100000 in
theorem T_X13_comes_153 {post : (Nat → Nat → Int32) → Prop} (hl : l.stackTraces = false) (X : MC p l s m args meth c cX13_comes 5 RX13 G ρ A) (hr : meth.sig.returnType = none) (hex : ∀ z ∈ c.exceptionTable.toList, False) : ∀ (mm : (Nat → Nat → Int32)), B_X13_comes_153 post mm → LW p l e rm_X13_comes s m args below meth c (Qm below G ρ A (PV (fun u => (cm, u, oo)) post) noX args s 0 0) G ρ A 5 0 0 153 [] [] (cm, mm, oo) := by
  intro mm h
  unfold B_X13_comes_153 at h
  exact L_vret (pc := 153) X hr d_X13_comes_153 (by decide) (by decide) ⟨_, rfl, rfl, h⟩
set_option maxHeartbeats 4000000 in
set_option maxRecDepth 100000 in
theorem T_X13_comes_127 {post : (Nat → Nat → Int32) → Prop} (hl : l.stackTraces = false) (X : MC p l s m args meth c cX13_comes 5 RX13 G ρ A) (hr : meth.sig.returnType = none) (hex : ∀ z ∈ c.exceptionTable.toList, False) : ∀ (v1 : Int32) (v2 : Int32) (v3 : Bool) (s0 : Int32) (s1 : Bool) (s2 : Int32) (mm : (Nat → Nat → Int32)), B_X13_comes_127 post v1 v2 v3 s0 s1 s2 mm → LW p l e rm_X13_comes s m args below meth c (Qm below G ρ A (PV (fun u => (cm, u, oo)) post) noX args s 0 0) G ρ A 5 0 0 127 [(0, .ref 703), (1, .int v1), (2, .int v2), (3, .int (b2 v3))] [.int s0, .int (b2 s1), .int s2, .ref 703] (cm, mm, oo) := by
  intro v1 v2 v3 s0 s1 s2 mm h
  unfold B_X13_comes_127 at h
  refine L_callVV (pc := 127) X lk_X13_202 (c_X13_sets X.hst  h) rfl rfl kd_703 (by decide) rfl rfl ⟨by decide, by decide⟩ ⟨by decide, by decide⟩ (Nat.zero_le _) d_X13_comes_127 rfl (fun x κ1 hx => L_nox hx) (fun u13 h => ?_)
  refine L_iload_n (pc := 130) X d_X13_comes_130 rfl 3 rfl ?_
  refine L_if_eq (pc := 131) (tgt := 153) X d_X13_comes_131 (by decide) (fun c131 => ?_) (fun c131 => ?_)
  · replace h := h.1 ((b2_0 _).mp c131)
    refine LW.sub [] rfl ?_
    exact T_X13_comes_153 hl X hr hex   _ h
  · replace h := h.2 (fun z => c131 ((b2_0 _).mpr z))
    refine L_aload_n (pc := 134) X d_X13_comes_134 rfl 0 rfl ?_
    refine gf_X13_7 (pc := 135) X d_X13_comes_135 ?_
    refine L_sipush (pc := 138) (v := 810) X d_X13_comes_138 (by decide) ?_
    refine L_bipush (pc := 141) (v := 60) X d_X13_comes_141 (by decide) ?_
    refine L_iload_n (pc := 143) X d_X13_comes_143 rfl 2 rfl ?_
    refine L_imul (pc := 144) X d_X13_comes_144 ?_
    refine L_iadd (pc := 145) X d_X13_comes_145 ?_
    refine L_iload_n (pc := 146) X d_X13_comes_146 rfl 1 rfl ?_
    refine L_iadd (pc := 147) X d_X13_comes_147 ?_
    obtain ⟨q14, h⟩ := h
    refine L_ialdM (pc := 148) (a := 1) X d_X13_comes_148 kd_704 q14 ?_
    refine L_iconst (pc := 149) (v := 1) X d_X13_comes_149 (by decide) ?_
    refine L_icmp_ne (pc := 150) (tgt := 154) X d_X13_comes_150 (by decide) (fun c150 => ?_) (fun c150 => ?_)
    · replace h := h.1 c150
      refine L_aload_n (pc := 154) X d_X13_comes_154 rfl 0 rfl ?_
      refine L_iload_n (pc := 155) X d_X13_comes_155 rfl 2 rfl ?_
      refine pf_X13_126 (pc := 156) X d_X13_comes_156 ?_
      refine L_aload_n (pc := 159) X d_X13_comes_159 rfl 0 rfl ?_
      refine L_iload_n (pc := 160) X d_X13_comes_160 rfl 1 rfl ?_
      refine L_iconst (pc := 161) (v := 1) X d_X13_comes_161 (by decide) ?_
      refine L_callVV (pc := 162) X lk_X13_217 (c_X13_reads X.hst  h) rfl rfl kd_703 (by decide) rfl rfl ⟨by decide, by decide⟩ ⟨by decide, by decide⟩ (Nat.zero_le _) d_X13_comes_162 rfl (fun x κ1 hx => L_nox hx) (fun u16 h => ?_)
      refine L_aload_n (pc := 165) X d_X13_comes_165 rfl 0 rfl ?_
      refine L_iload_n (pc := 166) X d_X13_comes_166 rfl 1 rfl ?_
      refine L_bipush (pc := 167) (v := 6) X d_X13_comes_167 (by decide) ?_
      refine L_aload_n (pc := 169) X d_X13_comes_169 rfl 0 rfl ?_
      refine L_iload_n (pc := 170) X d_X13_comes_170 rfl 1 rfl ?_
      refine L_bipush (pc := 171) (v := 6) X d_X13_comes_171 (by decide) ?_
      refine L_callVI (pc := 173) X lk_X13_132 (c_X13_chipOf X.hst  h) rfl rfl kd_703 (by decide) rfl rfl ⟨by decide, by decide⟩ ⟨by decide, by decide⟩ (Nat.le_of_ble_eq_true rfl) d_X13_comes_173 rfl (fun x κ1 hx => L_nox hx) (fun r17 u18 h => ?_)
      refine L_iconst (pc := 176) (v := 1) X d_X13_comes_176 (by decide) ?_
      refine L_iload_n (pc := 177) X d_X13_comes_177 rfl 2 rfl ?_
      refine L_ishl (pc := 178) X d_X13_comes_178 ?_
      refine L_ior (pc := 179) X d_X13_comes_179 ?_
      refine L_callVV (pc := 180) X lk_X13_202 (c_X13_sets X.hst  h) rfl rfl kd_703 (by decide) rfl rfl ⟨by decide, by decide⟩ ⟨by decide, by decide⟩ (Nat.zero_le _) d_X13_comes_180 rfl (fun x κ1 hx => L_nox hx) (fun u20 h => ?_)
      exact L_vret (pc := 183) X hr d_X13_comes_183 (by decide) (by decide) ⟨_, rfl, rfl, h⟩
    · replace h := h.2 c150
      refine LW.sub [] rfl ?_
      exact T_X13_comes_153 hl X hr hex   _ h
set_option maxHeartbeats 4000000 in
set_option maxRecDepth 100000 in
theorem T_X13_comes_112 {post : (Nat → Nat → Int32) → Prop} (hl : l.stackTraces = false) (X : MC p l s m args meth c cX13_comes 5 RX13 G ρ A) (hr : meth.sig.returnType = none) (hex : ∀ z ∈ c.exceptionTable.toList, False) : ∀ (v1 : Int32) (v2 : Int32) (v3 : Bool) (s0 : Bool) (mm : (Nat → Nat → Int32)), B_X13_comes_112 post v1 v2 v3 s0 mm → LW p l e rm_X13_comes s m args below meth c (Qm below G ρ A (PV (fun u => (cm, u, oo)) post) noX args s 0 0) G ρ A 5 0 0 112 [(0, .ref 703), (1, .int v1), (2, .int v2), (3, .int (b2 v3))] [.int (b2 s0)] (cm, mm, oo) := by
  intro v1 v2 v3 s0 mm h
  unfold B_X13_comes_112 at h
  refine L_istore (pc := 112) (lv2 := [(4, .int (b2 s0)), (0, .ref 703), (1, .int v1), (2, .int v2), (3, .int (b2 v3))]) X d_X13_comes_112 (by decide) rfl ?_
  refine L_aload_n (pc := 114) X d_X13_comes_114 rfl 1 rfl ?_
  refine L_iload_n (pc := 115) X d_X13_comes_115 rfl 2 rfl ?_
  refine L_iconst (pc := 116) (v := 0) X d_X13_comes_116 (by decide) ?_
  refine L_iload (pc := 117) X d_X13_comes_117 0 rfl ?_
  refine L_if_eq (pc := 119) (tgt := 126) X d_X13_comes_119 (by decide) (fun c119 => ?_) (fun c119 => ?_)
  · replace h := h.1 ((b2_0 _).mp c119)
    refine L_iconst (pc := 126) (v := 0) X d_X13_comes_126 (by decide) ?_
    refine LW.sub [1, 2, 3, 4] rfl ?_
    exact T_X13_comes_127 hl X hr hex _ _ _ _ _ _  _ h
  · replace h := h.2 (fun z => c119 ((b2_0 _).mpr z))
    refine L_iconst (pc := 122) (v := 3) X d_X13_comes_122 (by decide) ?_
    refine L_goto (pc := 123) (tgt := 127) X d_X13_comes_123 (by decide) ?_
    refine LW.sub [1, 2, 3, 4] rfl ?_
    exact T_X13_comes_127 hl X hr hex _ _ _ _ _ _  _ h
set_option maxHeartbeats 4000000 in
set_option maxRecDepth 100000 in
theorem T_X13_comes_98 {post : (Nat → Nat → Int32) → Prop} (hl : l.stackTraces = false) (X : MC p l s m args meth c cX13_comes 5 RX13 G ρ A) (hr : meth.sig.returnType = none) (hex : ∀ z ∈ c.exceptionTable.toList, False) : ∀ (v1 : Int32) (v2 : Int32) (s0 : Bool) (mm : (Nat → Nat → Int32)), B_X13_comes_98 post v1 v2 s0 mm → LW p l e rm_X13_comes s m args below meth c (Qm below G ρ A (PV (fun u => (cm, u, oo)) post) noX args s 0 0) G ρ A 5 0 0 98 [(0, .ref 703), (1, .int v1), (2, .int v2)] [.int (b2 s0)] (cm, mm, oo) := by
  intro v1 v2 s0 mm h
  unfold B_X13_comes_98 at h
  refine L_istore_n (pc := 98) (lv2 := [(3, .int (b2 s0)), (0, .ref 703), (1, .int v1), (2, .int v2)]) X d_X13_comes_98 rfl (by decide) rfl ?_
  refine L_aload_n (pc := 99) X d_X13_comes_99 rfl 1 rfl ?_
  refine gf_X13_192 (pc := 100) X d_X13_comes_100 ?_
  refine L_iload_n (pc := 103) X d_X13_comes_103 rfl 3 rfl ?_
  refine L_icmp_ne (pc := 104) (tgt := 111) X d_X13_comes_104 (by decide) (fun c104 => ?_) (fun c104 => ?_)
  · replace h := h.1 c104
    refine L_iconst (pc := 111) (v := 0) X d_X13_comes_111 (by decide) ?_
    refine LW.sub [1, 2, 3, 0] rfl ?_
    exact T_X13_comes_112 hl X hr hex _ _ _ _  _ h
  · replace h := h.2 c104
    refine L_iconst (pc := 107) (v := 1) X d_X13_comes_107 (by decide) ?_
    refine L_goto (pc := 108) (tgt := 112) X d_X13_comes_108 (by decide) ?_
    refine LW.sub [1, 2, 3, 0] rfl ?_
    exact T_X13_comes_112 hl X hr hex _ _ _ _  _ h
set_option maxHeartbeats 4000000 in
set_option maxRecDepth 100000 in
theorem T_X13_comes_93 {post : (Nat → Nat → Int32) → Prop} (hl : l.stackTraces = false) (X : MC p l s m args meth c cX13_comes 5 RX13 G ρ A) (hr : meth.sig.returnType = none) (hex : ∀ z ∈ c.exceptionTable.toList, False) : ∀ (v1 : Int32) (v2 : Int32) (mm : (Nat → Nat → Int32)), B_X13_comes_93 post v1 v2 mm → LW p l e rm_X13_comes s m args below meth c (Qm below G ρ A (PV (fun u => (cm, u, oo)) post) noX args s 0 0) G ρ A 5 0 0 93 [(0, .ref 703), (1, .int v1), (2, .int v2)] [] (cm, mm, oo) := by
  intro v1 v2 mm h
  unfold B_X13_comes_93 at h
  refine L_iconst (pc := 93) (v := 1) X d_X13_comes_93 (by decide) ?_
  refine L_goto (pc := 94) (tgt := 98) X d_X13_comes_94 (by decide) ?_
  refine LW.sub [0, 1, 2] rfl ?_
  exact T_X13_comes_98 hl X hr hex _ _ _  _ h
set_option maxHeartbeats 4000000 in
set_option maxRecDepth 100000 in
theorem c_X13_comes (hl : l.stackTraces = false) {x1 : Int32} {x2 : Int32} {mm : (Nat → Nat → Int32)} {post : (Nat → Nat → Int32) → Prop} (h : w_X13_comes post x1 x2 mm) : CT l yX13_comes (.code yX13_comes cX13_comes 5 none) rm_X13_comes 0 0 G ρ [.ref 703, .int x1, .int x2] (cm, mm, oo) (PV (fun u => (cm, u, oo)) post) noX := by
  refine CT_of hl (by decide +kernel) rfl (Nat.le_of_ble_eq_true rfl) (lv0 := [(0, .ref 703), (1, .int x1), (2, .int x2)]) rfl (fun p e s m args below meth c A X hr hex hnm => ?_)
  unfold w_X13_comes at h
  refine L_aload_n (pc := 0) X d_X13_comes_0 rfl 0 rfl ?_
  refine L_iload_n (pc := 1) X d_X13_comes_1 rfl 1 rfl ?_
  refine L_iconst (pc := 2) (v := 1) X d_X13_comes_2 (by decide) ?_
  refine L_iload_n (pc := 3) X d_X13_comes_3 rfl 2 rfl ?_
  refine L_callVV (pc := 4) X lk_X13_202 (c_X13_sets X.hst  h) rfl rfl kd_703 (by decide) rfl rfl ⟨by decide, by decide⟩ ⟨by decide, by decide⟩ (Nat.zero_le _) d_X13_comes_4 rfl (fun x κ1 hx => L_nox hx) (fun u2 h => ?_)
  refine L_aload_n (pc := 7) X d_X13_comes_7 rfl 0 rfl ?_
  refine L_iload_n (pc := 8) X d_X13_comes_8 rfl 1 rfl ?_
  refine L_iconst (pc := 9) (v := 4) X d_X13_comes_9 (by decide) ?_
  refine L_aload_n (pc := 10) X d_X13_comes_10 rfl 0 rfl ?_
  refine gf_X13_7 (pc := 11) X d_X13_comes_11 ?_
  refine L_iconst (pc := 14) (v := 4) X d_X13_comes_14 (by decide) ?_
  refine L_ialdM (pc := 15) (a := 1) X d_X13_comes_15 kd_704 (by unfold vp_in; decide) ?_
  refine L_callVV (pc := 16) X lk_X13_202 (c_X13_sets X.hst  h) rfl rfl kd_703 (by decide) rfl rfl ⟨by decide, by decide⟩ ⟨by decide, by decide⟩ (Nat.zero_le _) d_X13_comes_16 rfl (fun x κ1 hx => L_nox hx) (fun u4 h => ?_)
  refine L_aload_n (pc := 19) X d_X13_comes_19 rfl 0 rfl ?_
  refine L_iload_n (pc := 20) X d_X13_comes_20 rfl 1 rfl ?_
  refine L_iconst (pc := 21) (v := 2) X d_X13_comes_21 (by decide) ?_
  refine L_iconst (pc := 22) (v := 0) X d_X13_comes_22 (by decide) ?_
  refine L_callVV (pc := 23) X lk_X13_202 (c_X13_sets X.hst  h) rfl rfl kd_703 (by decide) rfl rfl ⟨by decide, by decide⟩ ⟨by decide, by decide⟩ (Nat.zero_le _) d_X13_comes_23 rfl (fun x κ1 hx => L_nox hx) (fun u6 h => ?_)
  refine L_iload_n (pc := 26) X d_X13_comes_26 rfl 2 rfl ?_
  refine L_aload_n (pc := 27) X d_X13_comes_27 rfl 0 rfl ?_
  refine gf_X13_7 (pc := 28) X d_X13_comes_28 ?_
  refine L_iconst (pc := 31) (v := 1) X d_X13_comes_31 (by decide) ?_
  refine L_ialdM (pc := 32) (a := 1) X d_X13_comes_32 kd_704 (by unfold vp_in; decide) ?_
  refine L_iconst (pc := 33) (v := 1) X d_X13_comes_33 (by decide) ?_
  refine L_iadd (pc := 34) X d_X13_comes_34 ?_
  refine L_icmp_ne (pc := 35) (tgt := 72) X d_X13_comes_35 (by decide) (fun c35 => ?_) (fun c35 => ?_)
  · replace h := h.1 c35
    refine L_aload_n (pc := 72) X d_X13_comes_72 rfl 0 rfl ?_
    refine L_iload_n (pc := 73) X d_X13_comes_73 rfl 1 rfl ?_
    refine L_iconst (pc := 74) (v := 0) X d_X13_comes_74 (by decide) ?_
    refine L_callVV (pc := 75) X lk_X13_217 (c_X13_reads X.hst  h) rfl rfl kd_703 (by decide) rfl rfl ⟨by decide, by decide⟩ ⟨by decide, by decide⟩ (Nat.zero_le _) d_X13_comes_75 rfl (fun x κ1 hx => L_nox hx) (fun u8 h => ?_)
    refine L_aload_n (pc := 78) X d_X13_comes_78 rfl 0 rfl ?_
    refine gf_X13_192 (pc := 79) X d_X13_comes_79 ?_
    refine L_if_eq (pc := 82) (tgt := 93) X d_X13_comes_82 (by decide) (fun c82 => ?_) (fun c82 => ?_)
    · replace h := h.1 c82
      refine LW.sub [0, 1, 2] rfl ?_
      exact T_X13_comes_93 hl X hr hex _ _  _ h
    · replace h := h.2 c82
      refine L_aload_n (pc := 85) X d_X13_comes_85 rfl 0 rfl ?_
      refine gf_X13_192 (pc := 86) X d_X13_comes_86 ?_
      refine L_iload_n (pc := 89) X d_X13_comes_89 rfl 2 rfl ?_
      refine L_icmp_ne (pc := 90) (tgt := 97) X d_X13_comes_90 (by decide) (fun c90 => ?_) (fun c90 => ?_)
      · replace h := h.1 c90
        refine L_iconst (pc := 97) (v := 0) X d_X13_comes_97 (by decide) ?_
        refine LW.sub [0, 1, 2] rfl ?_
        exact T_X13_comes_98 hl X hr hex _ _ _  _ h
      · replace h := h.2 c90
        refine LW.sub [0, 1, 2] rfl ?_
        exact T_X13_comes_93 hl X hr hex _ _  _ h
  · replace h := h.2 c35
    refine L_aload_n (pc := 38) X d_X13_comes_38 rfl 0 rfl ?_
    refine L_iload_n (pc := 39) X d_X13_comes_39 rfl 1 rfl ?_
    refine L_iconst (pc := 40) (v := 0) X d_X13_comes_40 (by decide) ?_
    refine L_iconst (pc := 41) (v := 4) X d_X13_comes_41 (by decide) ?_
    refine L_callVV (pc := 42) X lk_X13_202 (c_X13_sets X.hst  h) rfl rfl kd_703 (by decide) rfl rfl ⟨by decide, by decide⟩ ⟨by decide, by decide⟩ (Nat.zero_le _) d_X13_comes_42 rfl (fun x κ1 hx => L_nox hx) (fun u10 h => ?_)
    refine L_aload_n (pc := 45) X d_X13_comes_45 rfl 0 rfl ?_
    refine gf_X13_7 (pc := 46) X d_X13_comes_46 ?_
    refine L_sipush (pc := 49) (v := 262) X d_X13_comes_49 (by decide) ?_
    refine L_aload_n (pc := 52) X d_X13_comes_52 rfl 0 rfl ?_
    refine gf_X13_7 (pc := 53) X d_X13_comes_53 ?_
    refine L_iconst (pc := 56) (v := 3) X d_X13_comes_56 (by decide) ?_
    refine L_ialdM (pc := 57) (a := 1) X d_X13_comes_57 kd_704 (by unfold vp_in; decide) ?_
    refine L_iadd (pc := 58) X d_X13_comes_58 ?_
    refine L_iload_n (pc := 59) X d_X13_comes_59 rfl 1 rfl ?_
    obtain ⟨q11, h⟩ := h
    refine L_iastM (pc := 60) (a := 1) X d_X13_comes_60 kd_704 q11 ?_
    refine L_aload_n (pc := 61) X d_X13_comes_61 rfl 0 rfl ?_
    refine gf_X13_7 (pc := 62) X d_X13_comes_62 ?_
    refine L_iconst (pc := 65) (v := 3) X d_X13_comes_65 (by decide) ?_
    refine L_dup2 (pc := 66) X d_X13_comes_66 rfl rfl ?_
    refine L_ialdM (pc := 67) (a := 1) X d_X13_comes_67 kd_704 (by unfold vp_in; decide) ?_
    refine L_iconst (pc := 68) (v := 1) X d_X13_comes_68 (by decide) ?_
    refine L_iadd (pc := 69) X d_X13_comes_69 ?_
    refine L_iastM (pc := 70) (a := 1) X d_X13_comes_70 kd_704 (by unfold vp_in; decide) ?_
    exact L_vret (pc := 71) X hr d_X13_comes_71 (by decide) (by decide) ⟨_, rfl, rfl, h⟩
end G_X13_comes
theorem yk_X13_nextAt : yX13_nextAt.cls = RX13 ∧ yX13_nextAt.cls ≠ "java/lang/invoke/MethodHandle" ∧ yX13_nextAt.cls ≠ "java/lang/invoke/VarHandle" ∧ (parseMethodDescriptor yX13_nextAt.desc).map (fun d => d.parameters.length) = some 1 := by decide +kernel
theorem lk_X13_221 : LinkV RX13 221 RX13 yX13_nextAt (.code yX13_nextAt cX13_nextAt 4 (some .int)) 1 := ⟨tw_1479, tw_1481, tw_61, tw_83, tw_1482, yk_X13_nextAt⟩
theorem d_X13_enters_0 : decode cX13_enters 0 = .ok (.aload_n 0, 1) := by decide +kernel
theorem d_X13_enters_1 : decode cX13_enters 1 = .ok (.iload_n 1, 1) := by decide +kernel
theorem d_X13_enters_2 : decode cX13_enters 2 = .ok (.invokevirtual 221, 3) := by decide +kernel
theorem d_X13_enters_5 : decode cX13_enters 5 = .ok (.istore_n 2, 1) := by decide +kernel
theorem d_X13_enters_6 : decode cX13_enters 6 = .ok (.iload_n 2, 1) := by decide +kernel
theorem d_X13_enters_7 : decode cX13_enters 7 = .ok (.iconst (-1), 1) := by decide +kernel
theorem d_X13_enters_8 : decode cX13_enters 8 = .ok (.if_icmp .eq 144, 3) := by decide +kernel
theorem d_X13_enters_11 : decode cX13_enters 11 = .ok (.aload_n 0, 1) := by decide +kernel
theorem d_X13_enters_12 : decode cX13_enters 12 = .ok (.iload_n 1, 1) := by decide +kernel
theorem d_X13_enters_13 : decode cX13_enters 13 = .ok (.iconst 2, 1) := by decide +kernel
theorem d_X13_enters_14 : decode cX13_enters 14 = .ok (.invokevirtual 224, 3) := by decide +kernel
theorem d_X13_enters_17 : decode cX13_enters 17 = .ok (.ifCond .eq 17, 3) := by decide +kernel
theorem d_X13_enters_20 : decode cX13_enters 20 = .ok (.aload_n 0, 1) := by decide +kernel
theorem d_X13_enters_21 : decode cX13_enters 21 = .ok (.iload_n 1, 1) := by decide +kernel
theorem d_X13_enters_22 : decode cX13_enters 22 = .ok (.invokevirtual 227, 3) := by decide +kernel
theorem d_X13_enters_25 : decode cX13_enters 25 = .ok (.aload_n 0, 1) := by decide +kernel
theorem d_X13_enters_26 : decode cX13_enters 26 = .ok (.iload_n 1, 1) := by decide +kernel
theorem d_X13_enters_27 : decode cX13_enters 27 = .ok (.iconst 2, 1) := by decide +kernel
theorem d_X13_enters_28 : decode cX13_enters 28 = .ok (.invokevirtual 224, 3) := by decide +kernel
theorem d_X13_enters_31 : decode cX13_enters 31 = .ok (.if_icmp .ge 121, 3) := by decide +kernel
theorem d_X13_enters_34 : decode cX13_enters 34 = .ok (.aload_n 0, 1) := by decide +kernel
theorem d_X13_enters_35 : decode cX13_enters 35 = .ok (.iload_n 2, 1) := by decide +kernel
theorem d_X13_enters_36 : decode cX13_enters 36 = .ok (.iconst 0, 1) := by decide +kernel
theorem d_X13_enters_37 : decode cX13_enters 37 = .ok (.iconst 1, 1) := by decide +kernel
theorem d_X13_enters_38 : decode cX13_enters 38 = .ok (.invokevirtual 202, 3) := by decide +kernel
theorem d_X13_enters_41 : decode cX13_enters 41 = .ok (.aload_n 0, 1) := by decide +kernel
theorem d_X13_enters_42 : decode cX13_enters 42 = .ok (.iload_n 2, 1) := by decide +kernel
theorem d_X13_enters_43 : decode cX13_enters 43 = .ok (.iconst 4, 1) := by decide +kernel
theorem d_X13_enters_44 : decode cX13_enters 44 = .ok (.aload_n 0, 1) := by decide +kernel
theorem d_X13_enters_45 : decode cX13_enters 45 = .ok (.getfield 7, 3) := by decide +kernel
theorem d_X13_enters_48 : decode cX13_enters 48 = .ok (.iconst 4, 1) := by decide +kernel
theorem d_X13_enters_49 : decode cX13_enters 49 = .ok (.iaload, 1) := by decide +kernel
theorem d_X13_enters_50 : decode cX13_enters 50 = .ok (.invokevirtual 202, 3) := by decide +kernel
theorem d_X13_enters_53 : decode cX13_enters 53 = .ok (.aload_n 0, 1) := by decide +kernel
theorem d_X13_enters_54 : decode cX13_enters 54 = .ok (.iload_n 2, 1) := by decide +kernel
theorem d_X13_enters_55 : decode cX13_enters 55 = .ok (.iconst 2, 1) := by decide +kernel
theorem d_X13_enters_56 : decode cX13_enters 56 = .ok (.aload_n 0, 1) := by decide +kernel
theorem d_X13_enters_57 : decode cX13_enters 57 = .ok (.iload_n 1, 1) := by decide +kernel
theorem d_X13_enters_58 : decode cX13_enters 58 = .ok (.iconst 0, 1) := by decide +kernel
theorem d_X13_enters_59 : decode cX13_enters 59 = .ok (.invokevirtual 224, 3) := by decide +kernel
theorem d_X13_enters_62 : decode cX13_enters 62 = .ok (.aload_n 0, 1) := by decide +kernel
theorem d_X13_enters_63 : decode cX13_enters 63 = .ok (.iload_n 2, 1) := by decide +kernel
theorem d_X13_enters_64 : decode cX13_enters 64 = .ok (.iconst 3, 1) := by decide +kernel
theorem d_X13_enters_65 : decode cX13_enters 65 = .ok (.invokevirtual 132, 3) := by decide +kernel
theorem d_X13_enters_68 : decode cX13_enters 68 = .ok (.aload_n 0, 1) := by decide +kernel
theorem d_X13_enters_69 : decode cX13_enters 69 = .ok (.getfield 7, 3) := by decide +kernel
theorem d_X13_enters_72 : decode cX13_enters 72 = .ok (.iconst 5, 1) := by decide +kernel
theorem d_X13_enters_73 : decode cX13_enters 73 = .ok (.iaload, 1) := by decide +kernel
theorem d_X13_enters_74 : decode cX13_enters 74 = .ok (.invokestatic 230, 3) := by decide +kernel
theorem d_X13_enters_77 : decode cX13_enters 77 = .ok (.invokevirtual 202, 3) := by decide +kernel
theorem d_X13_enters_80 : decode cX13_enters 80 = .ok (.aload_n 0, 1) := by decide +kernel
theorem d_X13_enters_81 : decode cX13_enters 81 = .ok (.iload_n 1, 1) := by decide +kernel
theorem d_X13_enters_82 : decode cX13_enters 82 = .ok (.iconst 1, 1) := by decide +kernel
theorem d_X13_enters_83 : decode cX13_enters 83 = .ok (.invokevirtual 224, 3) := by decide +kernel
theorem d_X13_enters_86 : decode cX13_enters 86 = .ok (.ifCond .le 57, 3) := by decide +kernel
theorem d_X13_enters_89 : decode cX13_enters 89 = .ok (.aload_n 0, 1) := by decide +kernel
theorem d_X13_enters_90 : decode cX13_enters 90 = .ok (.getfield 7, 3) := by decide +kernel
theorem d_X13_enters_93 : decode cX13_enters 93 = .ok (.bipush 8, 2) := by decide +kernel
theorem d_X13_enters_95 : decode cX13_enters 95 = .ok (.ldc 234, 2) := by decide +kernel
theorem d_X13_enters_97 : decode cX13_enters 97 = .ok (.aload_n 0, 1) := by decide +kernel
theorem d_X13_enters_98 : decode cX13_enters 98 = .ok (.getfield 7, 3) := by decide +kernel
theorem d_X13_enters_101 : decode cX13_enters 101 = .ok (.bipush 8, 2) := by decide +kernel
theorem d_X13_enters_103 : decode cX13_enters 103 = .ok (.iaload, 1) := by decide +kernel
theorem d_X13_enters_104 : decode cX13_enters 104 = .ok (.imul, 1) := by decide +kernel
theorem d_X13_enters_105 : decode cX13_enters 105 = .ok (.sipush 12345, 3) := by decide +kernel
theorem d_X13_enters_108 : decode cX13_enters 108 = .ok (.iadd, 1) := by decide +kernel
theorem d_X13_enters_109 : decode cX13_enters 109 = .ok (.iastore, 1) := by decide +kernel
theorem d_X13_enters_110 : decode cX13_enters 110 = .ok (.aload_n 0, 1) := by decide +kernel
theorem d_X13_enters_111 : decode cX13_enters 111 = .ok (.getfield 7, 3) := by decide +kernel
theorem d_X13_enters_114 : decode cX13_enters 114 = .ok (.bipush 8, 2) := by decide +kernel
theorem d_X13_enters_116 : decode cX13_enters 116 = .ok (.iaload, 1) := by decide +kernel
theorem d_X13_enters_117 : decode cX13_enters 117 = .ok (.bipush 16, 2) := by decide +kernel
theorem d_X13_enters_119 : decode cX13_enters 119 = .ok (.iushr, 1) := by decide +kernel
theorem d_X13_enters_120 : decode cX13_enters 120 = .ok (.sipush 32767, 3) := by decide +kernel
theorem d_X13_enters_123 : decode cX13_enters 123 = .ok (.iand, 1) := by decide +kernel
theorem d_X13_enters_124 : decode cX13_enters 124 = .ok (.bipush 100, 2) := by decide +kernel
theorem d_X13_enters_126 : decode cX13_enters 126 = .ok (.irem, 1) := by decide +kernel
theorem d_X13_enters_127 : decode cX13_enters 127 = .ok (.aload_n 0, 1) := by decide +kernel
theorem d_X13_enters_128 : decode cX13_enters 128 = .ok (.iload_n 1, 1) := by decide +kernel
theorem d_X13_enters_129 : decode cX13_enters 129 = .ok (.iconst 1, 1) := by decide +kernel
theorem d_X13_enters_130 : decode cX13_enters 130 = .ok (.invokevirtual 224, 3) := by decide +kernel
theorem d_X13_enters_133 : decode cX13_enters 133 = .ok (.if_icmp .ge 10, 3) := by decide +kernel
theorem d_X13_enters_136 : decode cX13_enters 136 = .ok (.aload_n 0, 1) := by decide +kernel
theorem d_X13_enters_137 : decode cX13_enters 137 = .ok (.iload_n 2, 1) := by decide +kernel
theorem d_X13_enters_138 : decode cX13_enters 138 = .ok (.iconst 0, 1) := by decide +kernel
theorem d_X13_enters_139 : decode cX13_enters 139 = .ok (.iconst 2, 1) := by decide +kernel
theorem d_X13_enters_140 : decode cX13_enters 140 = .ok (.invokevirtual 202, 3) := by decide +kernel
theorem d_X13_enters_143 : decode cX13_enters 143 = .ok (.aload_n 0, 1) := by decide +kernel
theorem d_X13_enters_144 : decode cX13_enters 144 = .ok (.iload_n 1, 1) := by decide +kernel
theorem d_X13_enters_145 : decode cX13_enters 145 = .ok (.invokevirtual 221, 3) := by decide +kernel
theorem d_X13_enters_148 : decode cX13_enters 148 = .ok (.istore_n 2, 1) := by decide +kernel
theorem d_X13_enters_149 : decode cX13_enters 149 = .ok (.goto (-143), 3) := by decide +kernel
theorem d_X13_enters_152 : decode cX13_enters 152 = .ok (.return_, 1) := by decide +kernel
abbrev rm_X13_enters : Room := { frames := 2, cells := 0, slots := 0, locals := 45 }
def B_X13_enters_152 (post : (Nat → Nat → Int32) → Prop) (mm : (Nat → Nat → Int32)) : Prop := post mm
def B_X13_enters_143 (post : (Nat → Nat → Int32) → Prop) (k6 : Int32 → Int32 → (Nat → Nat → Int32) → Prop) (v1 : Int32) (mm : (Nat → Nat → Int32)) : Prop := w_X13_nextAt (fun (r27 : Int32) (u28 : (Nat → Nat → Int32)) => k6 v1 r27 u28) v1 mm
def B_X13_enters_34 (post : (Nat → Nat → Int32) → Prop) (k6 : Int32 → Int32 → (Nat → Nat → Int32) → Prop) (v1 : Int32) (v2 : Int32) (mm : (Nat → Nat → Int32)) : Prop := w_X13_sets (fun (u10 : (Nat → Nat → Int32)) => w_X13_sets (fun (u12 : (Nat → Nat → Int32)) => w_X13_reachOf (fun (r13 : Int32) (u14 : (Nat → Nat → Int32)) => w_X13_chipOf (fun (r15 : Int32) (u16 : (Nat → Nat → Int32)) => w_X13_timeOf (fun (r17 : Int32) (u18 : (Nat → Nat → Int32)) => w_X13_sets (fun (u20 : (Nat → Nat → Int32)) => w_X13_reachOf (fun (r21 : Int32) (u22 : (Nat → Nat → Int32)) => (r21 ≤ 0 → (B_X13_enters_143 post k6 v1 u22)) ∧ (¬ r21 ≤ 0 → (w_X13_reachOf (fun (r23 : Int32) (u24 : (Nat → Nat → Int32)) => (r23 ≤ (((UInt32.toInt32 (Int32.toUInt32 ((up2 u22 1 (Int32.toNatClampNeg (8 : Int32)) ((1103515245 * (u22 1 (Int32.toNatClampNeg (8 : Int32)))) + 12345)) 1 (Int32.toNatClampNeg (8 : Int32))) >>> (Int32.toUInt32 16 &&& Int32.toUInt32 31))) &&& 32767) - ((UInt32.toInt32 (Int32.toUInt32 ((up2 u22 1 (Int32.toNatClampNeg (8 : Int32)) ((1103515245 * (u22 1 (Int32.toNatClampNeg (8 : Int32)))) + 12345)) 1 (Int32.toNatClampNeg (8 : Int32))) >>> (Int32.toUInt32 16 &&& Int32.toUInt32 31))) &&& 32767) / 100 * 100) → (B_X13_enters_143 post k6 v1 u24)) ∧ (¬ r23 ≤ (((UInt32.toInt32 (Int32.toUInt32 ((up2 u22 1 (Int32.toNatClampNeg (8 : Int32)) ((1103515245 * (u22 1 (Int32.toNatClampNeg (8 : Int32)))) + 12345)) 1 (Int32.toNatClampNeg (8 : Int32))) >>> (Int32.toUInt32 16 &&& Int32.toUInt32 31))) &&& 32767) - ((UInt32.toInt32 (Int32.toUInt32 ((up2 u22 1 (Int32.toNatClampNeg (8 : Int32)) ((1103515245 * (u22 1 (Int32.toNatClampNeg (8 : Int32)))) + 12345)) 1 (Int32.toNatClampNeg (8 : Int32))) >>> (Int32.toUInt32 16 &&& Int32.toUInt32 31))) &&& 32767) / 100 * 100) → (w_X13_sets (fun (u26 : (Nat → Nat → Int32)) => B_X13_enters_143 post k6 v1 u26) v2 0 2 u24))) v1 1 (up2 u22 1 (Int32.toNatClampNeg (8 : Int32)) ((1103515245 * (u22 1 (Int32.toNatClampNeg (8 : Int32)))) + 12345))))) v1 1 u20) v2 2 r17 u18) r13 r15 (u16 1 (Int32.toNatClampNeg (5 : Int32))) u16) v2 3 u14) v1 0 u12) v2 4 (u10 1 (Int32.toNatClampNeg (4 : Int32))) u10) v2 0 1 mm
def B_X13_enters_6 (post : (Nat → Nat → Int32) → Prop) : Nat → Int32 → Int32 → (Nat → Nat → Int32) → Prop
  | 0 => fun _ _ _ => False
  | n + 1 => fun v1 v2 mm => (v2 = (-1) → (B_X13_enters_152 post mm)) ∧ (¬ v2 = (-1) → (w_X13_reachOf (fun (r3 : Int32) (u4 : (Nat → Nat → Int32)) => (r3 = 0 → (B_X13_enters_34 post (B_X13_enters_6 post n) v1 v2 u4)) ∧ (¬ r3 = 0 → (w_X13_inReach (fun (r5 : Int32) (u6 : (Nat → Nat → Int32)) => w_X13_reachOf (fun (r7 : Int32) (u8 : (Nat → Nat → Int32)) => (r7 ≤ r5 → (B_X13_enters_152 post u8)) ∧ (¬ r7 ≤ r5 → (B_X13_enters_34 post (B_X13_enters_6 post n) v1 v2 u8))) v1 2 u6) v1 u4))) v1 2 mm))
def w_X13_enters (post : (Nat → Nat → Int32) → Prop) (x1 : Int32) (mm : (Nat → Nat → Int32)) : Prop := w_X13_nextAt (fun (r1 : Int32) (u2 : (Nat → Nat → Int32)) => ∃ n6, B_X13_enters_6 post n6 x1 r1 u2) x1 mm
section G_X13_enters
variable {p : Program} {l : Launch} {e : Env} {s : State} {m : MethodId} {args : Array Value} {below : List Frame} {meth : Method} {c : Code} {G : Gd} {ρ : Nat → Nat} {A : Nat → Prop} {cm : CMu} {oo : Nat → Int64}
set_option maxHeartbeats 4000000 in
set_option maxRecDepth 100000 in
theorem T_X13_enters_152 {post : (Nat → Nat → Int32) → Prop} (hl : l.stackTraces = false) (X : MC p l s m args meth c cX13_enters 3 RX13 G ρ A) (hr : meth.sig.returnType = none) (hex : ∀ z ∈ c.exceptionTable.toList, False) : ∀ (mm : (Nat → Nat → Int32)), B_X13_enters_152 post mm → LW p l e rm_X13_enters s m args below meth c (Qm below G ρ A (PV (fun u => (cm, u, oo)) post) noX args s 0 0) G ρ A 3 0 0 152 [] [] (cm, mm, oo) := by
  intro mm h
  unfold B_X13_enters_152 at h
  exact L_vret (pc := 152) X hr d_X13_enters_152 (by decide) (by decide) ⟨_, rfl, rfl, h⟩
set_option maxHeartbeats 4000000 in
set_option maxRecDepth 100000 in
theorem T_X13_enters_143 {post : (Nat → Nat → Int32) → Prop} {k6 : Int32 → Int32 → (Nat → Nat → Int32) → Prop} (hl : l.stackTraces = false) (X : MC p l s m args meth c cX13_enters 3 RX13 G ρ A) (hr : meth.sig.returnType = none) (hex : ∀ z ∈ c.exceptionTable.toList, False)
    (hk6 : ∀ (v1 : Int32) (v2 : Int32) (mm : (Nat → Nat → Int32)), k6 v1 v2 mm → LW p l e rm_X13_enters s m args below meth c (Qm below G ρ A (PV (fun u => (cm, u, oo)) post) noX args s 0 0) G ρ A 3 0 0 6 [(0, .ref 703), (1, .int v1), (2, .int v2)] [] (cm, mm, oo)) : ∀ (v1 : Int32) (mm : (Nat → Nat → Int32)), B_X13_enters_143 post k6 v1 mm → LW p l e rm_X13_enters s m args below meth c (Qm below G ρ A (PV (fun u => (cm, u, oo)) post) noX args s 0 0) G ρ A 3 0 0 143 [(0, .ref 703), (1, .int v1)] [] (cm, mm, oo) := by
  intro v1 mm h
  unfold B_X13_enters_143 at h
  refine L_aload_n (pc := 143) X d_X13_enters_143 rfl 0 rfl ?_
  refine L_iload_n (pc := 144) X d_X13_enters_144 rfl 1 rfl ?_
  refine L_callVI (pc := 145) X lk_X13_221 (c_X13_nextAt X.hst  h) rfl rfl kd_703 (by decide) rfl rfl ⟨by decide, by decide⟩ ⟨by decide, by decide⟩ (Nat.zero_le _) d_X13_enters_145 rfl (fun x κ1 hx => L_nox hx) (fun r27 u28 h => ?_)
  refine L_istore_n (pc := 148) (lv2 := [(2, .int r27), (0, .ref 703), (1, .int v1)]) X d_X13_enters_148 rfl (by decide) rfl ?_
  refine L_goto (pc := 149) (tgt := 6) X d_X13_enters_149 (by decide) ?_
  refine LW.sub [1, 2, 0] rfl ?_
  exact hk6 _ _  _ h
set_option maxHeartbeats 4000000 in
set_option maxRecDepth 100000 in
theorem T_X13_enters_34 {post : (Nat → Nat → Int32) → Prop} {k6 : Int32 → Int32 → (Nat → Nat → Int32) → Prop} (hl : l.stackTraces = false) (X : MC p l s m args meth c cX13_enters 3 RX13 G ρ A) (hr : meth.sig.returnType = none) (hex : ∀ z ∈ c.exceptionTable.toList, False)
    (hk6 : ∀ (v1 : Int32) (v2 : Int32) (mm : (Nat → Nat → Int32)), k6 v1 v2 mm → LW p l e rm_X13_enters s m args below meth c (Qm below G ρ A (PV (fun u => (cm, u, oo)) post) noX args s 0 0) G ρ A 3 0 0 6 [(0, .ref 703), (1, .int v1), (2, .int v2)] [] (cm, mm, oo)) : ∀ (v1 : Int32) (v2 : Int32) (mm : (Nat → Nat → Int32)), B_X13_enters_34 post k6 v1 v2 mm → LW p l e rm_X13_enters s m args below meth c (Qm below G ρ A (PV (fun u => (cm, u, oo)) post) noX args s 0 0) G ρ A 3 0 0 34 [(0, .ref 703), (1, .int v1), (2, .int v2)] [] (cm, mm, oo) := by
  intro v1 v2 mm h
  unfold B_X13_enters_34 at h
  refine L_aload_n (pc := 34) X d_X13_enters_34 rfl 0 rfl ?_
  refine L_iload_n (pc := 35) X d_X13_enters_35 rfl 2 rfl ?_
  refine L_iconst (pc := 36) (v := 0) X d_X13_enters_36 (by decide) ?_
  refine L_iconst (pc := 37) (v := 1) X d_X13_enters_37 (by decide) ?_
  refine L_callVV (pc := 38) X lk_X13_202 (c_X13_sets X.hst  h) rfl rfl kd_703 (by decide) rfl rfl ⟨by decide, by decide⟩ ⟨by decide, by decide⟩ (Nat.zero_le _) d_X13_enters_38 rfl (fun x κ1 hx => L_nox hx) (fun u10 h => ?_)
  refine L_aload_n (pc := 41) X d_X13_enters_41 rfl 0 rfl ?_
  refine L_iload_n (pc := 42) X d_X13_enters_42 rfl 2 rfl ?_
  refine L_iconst (pc := 43) (v := 4) X d_X13_enters_43 (by decide) ?_
  refine L_aload_n (pc := 44) X d_X13_enters_44 rfl 0 rfl ?_
  refine gf_X13_7 (pc := 45) X d_X13_enters_45 ?_
  refine L_iconst (pc := 48) (v := 4) X d_X13_enters_48 (by decide) ?_
  refine L_ialdM (pc := 49) (a := 1) X d_X13_enters_49 kd_704 (by unfold vp_in; decide) ?_
  refine L_callVV (pc := 50) X lk_X13_202 (c_X13_sets X.hst  h) rfl rfl kd_703 (by decide) rfl rfl ⟨by decide, by decide⟩ ⟨by decide, by decide⟩ (Nat.zero_le _) d_X13_enters_50 rfl (fun x κ1 hx => L_nox hx) (fun u12 h => ?_)
  refine L_aload_n (pc := 53) X d_X13_enters_53 rfl 0 rfl ?_
  refine L_iload_n (pc := 54) X d_X13_enters_54 rfl 2 rfl ?_
  refine L_iconst (pc := 55) (v := 2) X d_X13_enters_55 (by decide) ?_
  refine L_aload_n (pc := 56) X d_X13_enters_56 rfl 0 rfl ?_
  refine L_iload_n (pc := 57) X d_X13_enters_57 rfl 1 rfl ?_
  refine L_iconst (pc := 58) (v := 0) X d_X13_enters_58 (by decide) ?_
  refine L_callVI (pc := 59) X lk_X13_224 (c_X13_reachOf X.hst  h) rfl rfl kd_703 (by decide) rfl rfl ⟨by decide, by decide⟩ ⟨by decide, by decide⟩ (Nat.le_of_ble_eq_true rfl) d_X13_enters_59 rfl (fun x κ1 hx => L_nox hx) (fun r13 u14 h => ?_)
  refine L_aload_n (pc := 62) X d_X13_enters_62 rfl 0 rfl ?_
  refine L_iload_n (pc := 63) X d_X13_enters_63 rfl 2 rfl ?_
  refine L_iconst (pc := 64) (v := 3) X d_X13_enters_64 (by decide) ?_
  refine L_callVI (pc := 65) X lk_X13_132 (c_X13_chipOf X.hst  h) rfl rfl kd_703 (by decide) rfl rfl ⟨by decide, by decide⟩ ⟨by decide, by decide⟩ (Nat.le_of_ble_eq_true rfl) d_X13_enters_65 rfl (fun x κ1 hx => L_nox hx) (fun r15 u16 h => ?_)
  refine L_aload_n (pc := 68) X d_X13_enters_68 rfl 0 rfl ?_
  refine gf_X13_7 (pc := 69) X d_X13_enters_69 ?_
  refine L_iconst (pc := 72) (v := 5) X d_X13_enters_72 (by decide) ?_
  refine L_ialdM (pc := 73) (a := 1) X d_X13_enters_73 kd_704 (by unfold vp_in; decide) ?_
  refine L_callSI (pc := 74) X lk_X13_230 (c_X13_timeOf X.hst  h) rfl rfl rfl ⟨by decide, by decide⟩ ⟨by decide, by decide⟩ (Nat.le_of_ble_eq_true rfl) d_X13_enters_74 rfl (fun x κ1 hx => L_nox hx) (fun r17 u18 h => ?_)
  refine L_callVV (pc := 77) X lk_X13_202 (c_X13_sets X.hst  h) rfl rfl kd_703 (by decide) rfl rfl ⟨by decide, by decide⟩ ⟨by decide, by decide⟩ (Nat.zero_le _) d_X13_enters_77 rfl (fun x κ1 hx => L_nox hx) (fun u20 h => ?_)
  refine L_aload_n (pc := 80) X d_X13_enters_80 rfl 0 rfl ?_
  refine L_iload_n (pc := 81) X d_X13_enters_81 rfl 1 rfl ?_
  refine L_iconst (pc := 82) (v := 1) X d_X13_enters_82 (by decide) ?_
  refine L_callVI (pc := 83) X lk_X13_224 (c_X13_reachOf X.hst  h) rfl rfl kd_703 (by decide) rfl rfl ⟨by decide, by decide⟩ ⟨by decide, by decide⟩ (Nat.zero_le _) d_X13_enters_83 rfl (fun x κ1 hx => L_nox hx) (fun r21 u22 h => ?_)
  refine L_if_le (pc := 86) (tgt := 143) X d_X13_enters_86 (by decide) (fun c86 => ?_) (fun c86 => ?_)
  · replace h := h.1 c86
    refine LW.sub [0, 1] rfl ?_
    exact T_X13_enters_143 hl X hr hex hk6 _  _ h
  · replace h := h.2 c86
    refine L_aload_n (pc := 89) X d_X13_enters_89 rfl 0 rfl ?_
    refine gf_X13_7 (pc := 90) X d_X13_enters_90 ?_
    refine L_bipush (pc := 93) (v := 8) X d_X13_enters_93 (by decide) ?_
    refine L_ldc (pc := 95) (v := 1103515245) X d_X13_enters_95 tw_1494 ?_
    refine L_aload_n (pc := 97) X d_X13_enters_97 rfl 0 rfl ?_
    refine gf_X13_7 (pc := 98) X d_X13_enters_98 ?_
    refine L_bipush (pc := 101) (v := 8) X d_X13_enters_101 (by decide) ?_
    refine L_ialdM (pc := 103) (a := 1) X d_X13_enters_103 kd_704 (by unfold vp_in; decide) ?_
    refine L_imul (pc := 104) X d_X13_enters_104 ?_
    refine L_sipush (pc := 105) (v := 12345) X d_X13_enters_105 (by decide) ?_
    refine L_iadd (pc := 108) X d_X13_enters_108 ?_
    refine L_iastM (pc := 109) (a := 1) X d_X13_enters_109 kd_704 (by unfold vp_in; decide) ?_
    refine L_aload_n (pc := 110) X d_X13_enters_110 rfl 0 rfl ?_
    refine gf_X13_7 (pc := 111) X d_X13_enters_111 ?_
    refine L_bipush (pc := 114) (v := 8) X d_X13_enters_114 (by decide) ?_
    refine L_ialdM (pc := 116) (a := 1) X d_X13_enters_116 kd_704 (by unfold vp_in; decide) ?_
    refine L_bipush (pc := 117) (v := 16) X d_X13_enters_117 (by decide) ?_
    refine L_iushr (pc := 119) X d_X13_enters_119 ?_
    refine L_sipush (pc := 120) (v := 32767) X d_X13_enters_120 (by decide) ?_
    refine L_iand (pc := 123) X d_X13_enters_123 ?_
    refine L_bipush (pc := 124) (v := 100) X d_X13_enters_124 (by decide) ?_
    refine L_irem (pc := 126) X d_X13_enters_126 (by decide) ?_
    refine L_aload_n (pc := 127) X d_X13_enters_127 rfl 0 rfl ?_
    refine L_iload_n (pc := 128) X d_X13_enters_128 rfl 1 rfl ?_
    refine L_iconst (pc := 129) (v := 1) X d_X13_enters_129 (by decide) ?_
    refine L_callVI (pc := 130) X lk_X13_224 (c_X13_reachOf X.hst  h) rfl rfl kd_703 (by decide) rfl rfl ⟨by decide, by decide⟩ ⟨by decide, by decide⟩ (Nat.le_of_ble_eq_true rfl) d_X13_enters_130 rfl (fun x κ1 hx => L_nox hx) (fun r23 u24 h => ?_)
    refine L_icmp_ge (pc := 133) (tgt := 143) X d_X13_enters_133 (by decide) (fun c133 => ?_) (fun c133 => ?_)
    · replace h := h.1 c133
      refine LW.sub [0, 1] rfl ?_
      exact T_X13_enters_143 hl X hr hex hk6 _  _ h
    · replace h := h.2 c133
      refine L_aload_n (pc := 136) X d_X13_enters_136 rfl 0 rfl ?_
      refine L_iload_n (pc := 137) X d_X13_enters_137 rfl 2 rfl ?_
      refine L_iconst (pc := 138) (v := 0) X d_X13_enters_138 (by decide) ?_
      refine L_iconst (pc := 139) (v := 2) X d_X13_enters_139 (by decide) ?_
      refine L_callVV (pc := 140) X lk_X13_202 (c_X13_sets X.hst  h) rfl rfl kd_703 (by decide) rfl rfl ⟨by decide, by decide⟩ ⟨by decide, by decide⟩ (Nat.zero_le _) d_X13_enters_140 rfl (fun x κ1 hx => L_nox hx) (fun u26 h => ?_)
      refine LW.sub [0, 1] rfl ?_
      exact T_X13_enters_143 hl X hr hex hk6 _  _ h
set_option maxHeartbeats 4000000 in
set_option maxRecDepth 100000 in
theorem T_X13_enters_6 {post : (Nat → Nat → Int32) → Prop} (hl : l.stackTraces = false) (X : MC p l s m args meth c cX13_enters 3 RX13 G ρ A) (hr : meth.sig.returnType = none) (hex : ∀ z ∈ c.exceptionTable.toList, False) (n : Nat) : ∀ (v1 : Int32) (v2 : Int32) (mm : (Nat → Nat → Int32)), B_X13_enters_6 post n v1 v2 mm → LW p l e rm_X13_enters s m args below meth c (Qm below G ρ A (PV (fun u => (cm, u, oo)) post) noX args s 0 0) G ρ A 3 0 0 6 [(0, .ref 703), (1, .int v1), (2, .int v2)] [] (cm, mm, oo) := by
  induction n with
  | zero =>
    intro v1 v2 mm h
    exact False.elim h
  | succ n ih =>
    intro v1 v2 mm h
    unfold B_X13_enters_6 at h
    refine L_iload_n (pc := 6) X d_X13_enters_6 rfl 2 rfl ?_
    refine L_iconst (pc := 7) (v := (-1)) X d_X13_enters_7 (by decide) ?_
    refine L_icmp_eq (pc := 8) (tgt := 152) X d_X13_enters_8 (by decide) (fun c8 => ?_) (fun c8 => ?_)
    · replace h := h.1 c8
      refine LW.sub [] rfl ?_
      exact T_X13_enters_152 hl X hr hex   _ h
    · replace h := h.2 c8
      refine L_aload_n (pc := 11) X d_X13_enters_11 rfl 0 rfl ?_
      refine L_iload_n (pc := 12) X d_X13_enters_12 rfl 1 rfl ?_
      refine L_iconst (pc := 13) (v := 2) X d_X13_enters_13 (by decide) ?_
      refine L_callVI (pc := 14) X lk_X13_224 (c_X13_reachOf X.hst  h) rfl rfl kd_703 (by decide) rfl rfl ⟨by decide, by decide⟩ ⟨by decide, by decide⟩ (Nat.zero_le _) d_X13_enters_14 rfl (fun x κ1 hx => L_nox hx) (fun r3 u4 h => ?_)
      refine L_if_eq (pc := 17) (tgt := 34) X d_X13_enters_17 (by decide) (fun c17 => ?_) (fun c17 => ?_)
      · replace h := h.1 c17
        refine LW.sub [0, 1, 2] rfl ?_
        exact T_X13_enters_34 hl X hr hex ih _ _  _ h
      · replace h := h.2 c17
        refine L_aload_n (pc := 20) X d_X13_enters_20 rfl 0 rfl ?_
        refine L_iload_n (pc := 21) X d_X13_enters_21 rfl 1 rfl ?_
        refine L_callVI (pc := 22) X lk_X13_227 (c_X13_inReach X.hst  h) rfl rfl kd_703 (by decide) rfl rfl ⟨by decide, by decide⟩ ⟨by decide, by decide⟩ (Nat.zero_le _) d_X13_enters_22 rfl (fun x κ1 hx => L_nox hx) (fun r5 u6 h => ?_)
        refine L_aload_n (pc := 25) X d_X13_enters_25 rfl 0 rfl ?_
        refine L_iload_n (pc := 26) X d_X13_enters_26 rfl 1 rfl ?_
        refine L_iconst (pc := 27) (v := 2) X d_X13_enters_27 (by decide) ?_
        refine L_callVI (pc := 28) X lk_X13_224 (c_X13_reachOf X.hst  h) rfl rfl kd_703 (by decide) rfl rfl ⟨by decide, by decide⟩ ⟨by decide, by decide⟩ (Nat.le_of_ble_eq_true rfl) d_X13_enters_28 rfl (fun x κ1 hx => L_nox hx) (fun r7 u8 h => ?_)
        refine L_icmp_ge (pc := 31) (tgt := 152) X d_X13_enters_31 (by decide) (fun c31 => ?_) (fun c31 => ?_)
        · replace h := h.1 c31
          refine LW.sub [] rfl ?_
          exact T_X13_enters_152 hl X hr hex   _ h
        · replace h := h.2 c31
          refine LW.sub [0, 1, 2] rfl ?_
          exact T_X13_enters_34 hl X hr hex ih _ _  _ h
set_option maxHeartbeats 4000000 in
set_option maxRecDepth 100000 in
theorem c_X13_enters (hl : l.stackTraces = false) {x1 : Int32} {mm : (Nat → Nat → Int32)} {post : (Nat → Nat → Int32) → Prop} (h : w_X13_enters post x1 mm) : CT l yX13_enters (.code yX13_enters cX13_enters 3 none) rm_X13_enters 0 0 G ρ [.ref 703, .int x1] (cm, mm, oo) (PV (fun u => (cm, u, oo)) post) noX := by
  refine CT_of hl (by decide +kernel) rfl (Nat.le_of_ble_eq_true rfl) (lv0 := [(0, .ref 703), (1, .int x1)]) rfl (fun p e s m args below meth c A X hr hex hnm => ?_)
  unfold w_X13_enters at h
  refine L_aload_n (pc := 0) X d_X13_enters_0 rfl 0 rfl ?_
  refine L_iload_n (pc := 1) X d_X13_enters_1 rfl 1 rfl ?_
  refine L_callVI (pc := 2) X lk_X13_221 (c_X13_nextAt X.hst  h) rfl rfl kd_703 (by decide) rfl rfl ⟨by decide, by decide⟩ ⟨by decide, by decide⟩ (Nat.zero_le _) d_X13_enters_2 rfl (fun x κ1 hx => L_nox hx) (fun r1 u2 h => ?_)
  refine L_istore_n (pc := 5) (lv2 := [(2, .int r1), (0, .ref 703), (1, .int x1)]) X d_X13_enters_5 rfl (by decide) rfl ?_
  obtain ⟨n6, h⟩ := h
  refine LW.sub [1, 2, 0] rfl ?_
  exact T_X13_enters_6 hl X hr hex n6 _ _  _ h
end G_X13_enters
theorem yk_X13_comes : yX13_comes.cls = RX13 ∧ yX13_comes.cls ≠ "java/lang/invoke/MethodHandle" ∧ yX13_comes.cls ≠ "java/lang/invoke/VarHandle" ∧ (parseMethodDescriptor yX13_comes.desc).map (fun d => d.parameters.length) = some 2 := by decide +kernel
theorem lk_X13_235 : LinkV RX13 235 RX13 yX13_comes (.code yX13_comes cX13_comes 5 none) 2 := ⟨tw_1467, tw_1469, tw_58, tw_83, tw_1470, yk_X13_comes⟩
theorem yk_X13_enters : yX13_enters.cls = RX13 ∧ yX13_enters.cls ≠ "java/lang/invoke/MethodHandle" ∧ yX13_enters.cls ≠ "java/lang/invoke/VarHandle" ∧ (parseMethodDescriptor yX13_enters.desc).map (fun d => d.parameters.length) = some 1 := by decide +kernel
theorem lk_X13_238 : LinkV RX13 238 RX13 yX13_enters (.code yX13_enters cX13_enters 3 none) 1 := ⟨tw_1475, tw_1477, tw_60, tw_83, tw_1478, yk_X13_enters⟩
theorem d_X13_minute_0 : decode cX13_minute 0 = .ok (.aload_n 0, 1) := by decide +kernel
theorem d_X13_minute_1 : decode cX13_minute 1 = .ok (.invokevirtual 148, 3) := by decide +kernel
theorem d_X13_minute_4 : decode cX13_minute 4 = .ok (.ifCond .ne 114, 3) := by decide +kernel
theorem d_X13_minute_7 : decode cX13_minute 7 = .ok (.aload_n 0, 1) := by decide +kernel
theorem d_X13_minute_8 : decode cX13_minute 8 = .ok (.getfield 7, 3) := by decide +kernel
theorem d_X13_minute_11 : decode cX13_minute 11 = .ok (.iconst 2, 1) := by decide +kernel
theorem d_X13_minute_12 : decode cX13_minute 12 = .ok (.iaload, 1) := by decide +kernel
theorem d_X13_minute_13 : decode cX13_minute 13 = .ok (.istore_n 1, 1) := by decide +kernel
theorem d_X13_minute_14 : decode cX13_minute 14 = .ok (.iconst 0, 1) := by decide +kernel
theorem d_X13_minute_15 : decode cX13_minute 15 = .ok (.istore_n 2, 1) := by decide +kernel
theorem d_X13_minute_16 : decode cX13_minute 16 = .ok (.iload_n 2, 1) := by decide +kernel
theorem d_X13_minute_17 : decode cX13_minute 17 = .ok (.iload_n 1, 1) := by decide +kernel
theorem d_X13_minute_18 : decode cX13_minute 18 = .ok (.if_icmp .ge 33, 3) := by decide +kernel
theorem d_X13_minute_21 : decode cX13_minute 21 = .ok (.aload_n 0, 1) := by decide +kernel
theorem d_X13_minute_22 : decode cX13_minute 22 = .ok (.iload_n 2, 1) := by decide +kernel
theorem d_X13_minute_23 : decode cX13_minute 23 = .ok (.iconst 0, 1) := by decide +kernel
theorem d_X13_minute_24 : decode cX13_minute 24 = .ok (.invokevirtual 132, 3) := by decide +kernel
theorem d_X13_minute_27 : decode cX13_minute 27 = .ok (.iconst 1, 1) := by decide +kernel
theorem d_X13_minute_28 : decode cX13_minute 28 = .ok (.if_icmp .ne 17, 3) := by decide +kernel
theorem d_X13_minute_31 : decode cX13_minute 31 = .ok (.aload_n 0, 1) := by decide +kernel
theorem d_X13_minute_32 : decode cX13_minute 32 = .ok (.iload_n 2, 1) := by decide +kernel
theorem d_X13_minute_33 : decode cX13_minute 33 = .ok (.iconst 2, 1) := by decide +kernel
theorem d_X13_minute_34 : decode cX13_minute 34 = .ok (.aload_n 0, 1) := by decide +kernel
theorem d_X13_minute_35 : decode cX13_minute 35 = .ok (.iload_n 2, 1) := by decide +kernel
theorem d_X13_minute_36 : decode cX13_minute 36 = .ok (.iconst 2, 1) := by decide +kernel
theorem d_X13_minute_37 : decode cX13_minute 37 = .ok (.invokevirtual 132, 3) := by decide +kernel
theorem d_X13_minute_40 : decode cX13_minute 40 = .ok (.iconst 1, 1) := by decide +kernel
theorem d_X13_minute_41 : decode cX13_minute 41 = .ok (.isub, 1) := by decide +kernel
theorem d_X13_minute_42 : decode cX13_minute 42 = .ok (.invokevirtual 202, 3) := by decide +kernel
theorem d_X13_minute_45 : decode cX13_minute 45 = .ok (.iinc 2 1, 3) := by decide +kernel
theorem d_X13_minute_48 : decode cX13_minute 48 = .ok (.goto (-32), 3) := by decide +kernel
theorem d_X13_minute_51 : decode cX13_minute 51 = .ok (.iconst 0, 1) := by decide +kernel
theorem d_X13_minute_52 : decode cX13_minute 52 = .ok (.istore_n 2, 1) := by decide +kernel
theorem d_X13_minute_53 : decode cX13_minute 53 = .ok (.iload_n 2, 1) := by decide +kernel
theorem d_X13_minute_54 : decode cX13_minute 54 = .ok (.iload_n 1, 1) := by decide +kernel
theorem d_X13_minute_55 : decode cX13_minute 55 = .ok (.if_icmp .ge 41, 3) := by decide +kernel
theorem d_X13_minute_58 : decode cX13_minute 58 = .ok (.aload_n 0, 1) := by decide +kernel
theorem d_X13_minute_59 : decode cX13_minute 59 = .ok (.iload_n 2, 1) := by decide +kernel
theorem d_X13_minute_60 : decode cX13_minute 60 = .ok (.iconst 0, 1) := by decide +kernel
theorem d_X13_minute_61 : decode cX13_minute 61 = .ok (.invokevirtual 132, 3) := by decide +kernel
theorem d_X13_minute_64 : decode cX13_minute 64 = .ok (.iconst 1, 1) := by decide +kernel
theorem d_X13_minute_65 : decode cX13_minute 65 = .ok (.if_icmp .ne 25, 3) := by decide +kernel
theorem d_X13_minute_68 : decode cX13_minute 68 = .ok (.aload_n 0, 1) := by decide +kernel
theorem d_X13_minute_69 : decode cX13_minute 69 = .ok (.iload_n 2, 1) := by decide +kernel
theorem d_X13_minute_70 : decode cX13_minute 70 = .ok (.iconst 2, 1) := by decide +kernel
theorem d_X13_minute_71 : decode cX13_minute 71 = .ok (.invokevirtual 132, 3) := by decide +kernel
theorem d_X13_minute_74 : decode cX13_minute 74 = .ok (.ifCond .ne 16, 3) := by decide +kernel
theorem d_X13_minute_77 : decode cX13_minute 77 = .ok (.aload_n 0, 1) := by decide +kernel
theorem d_X13_minute_78 : decode cX13_minute 78 = .ok (.iload_n 2, 1) := by decide +kernel
theorem d_X13_minute_79 : decode cX13_minute 79 = .ok (.aload_n 0, 1) := by decide +kernel
theorem d_X13_minute_80 : decode cX13_minute 80 = .ok (.iload_n 2, 1) := by decide +kernel
theorem d_X13_minute_81 : decode cX13_minute 81 = .ok (.iconst 1, 1) := by decide +kernel
theorem d_X13_minute_82 : decode cX13_minute 82 = .ok (.invokevirtual 132, 3) := by decide +kernel
theorem d_X13_minute_85 : decode cX13_minute 85 = .ok (.iconst 1, 1) := by decide +kernel
theorem d_X13_minute_86 : decode cX13_minute 86 = .ok (.iadd, 1) := by decide +kernel
theorem d_X13_minute_87 : decode cX13_minute 87 = .ok (.invokevirtual 235, 3) := by decide +kernel
theorem d_X13_minute_90 : decode cX13_minute 90 = .ok (.iinc 2 1, 3) := by decide +kernel
theorem d_X13_minute_93 : decode cX13_minute 93 = .ok (.goto (-40), 3) := by decide +kernel
theorem d_X13_minute_96 : decode cX13_minute 96 = .ok (.aload_n 0, 1) := by decide +kernel
theorem d_X13_minute_97 : decode cX13_minute 97 = .ok (.getfield 7, 3) := by decide +kernel
theorem d_X13_minute_100 : decode cX13_minute 100 = .ok (.iconst 1, 1) := by decide +kernel
theorem d_X13_minute_101 : decode cX13_minute 101 = .ok (.iaload, 1) := by decide +kernel
theorem d_X13_minute_102 : decode cX13_minute 102 = .ok (.istore_n 2, 1) := by decide +kernel
theorem d_X13_minute_103 : decode cX13_minute 103 = .ok (.iload_n 2, 1) := by decide +kernel
theorem d_X13_minute_104 : decode cX13_minute 104 = .ok (.ifCond .lt 14, 3) := by decide +kernel
theorem d_X13_minute_107 : decode cX13_minute 107 = .ok (.aload_n 0, 1) := by decide +kernel
theorem d_X13_minute_108 : decode cX13_minute 108 = .ok (.iload_n 2, 1) := by decide +kernel
theorem d_X13_minute_109 : decode cX13_minute 109 = .ok (.invokevirtual 238, 3) := by decide +kernel
theorem d_X13_minute_112 : decode cX13_minute 112 = .ok (.iinc 2 (-1), 3) := by decide +kernel
theorem d_X13_minute_115 : decode cX13_minute 115 = .ok (.goto (-12), 3) := by decide +kernel
theorem d_X13_minute_118 : decode cX13_minute 118 = .ok (.aload_n 0, 1) := by decide +kernel
theorem d_X13_minute_119 : decode cX13_minute 119 = .ok (.getfield 7, 3) := by decide +kernel
theorem d_X13_minute_122 : decode cX13_minute 122 = .ok (.iconst 4, 1) := by decide +kernel
theorem d_X13_minute_123 : decode cX13_minute 123 = .ok (.dup2, 1) := by decide +kernel
theorem d_X13_minute_124 : decode cX13_minute 124 = .ok (.iaload, 1) := by decide +kernel
theorem d_X13_minute_125 : decode cX13_minute 125 = .ok (.iconst 1, 1) := by decide +kernel
theorem d_X13_minute_126 : decode cX13_minute 126 = .ok (.iadd, 1) := by decide +kernel
theorem d_X13_minute_127 : decode cX13_minute 127 = .ok (.iastore, 1) := by decide +kernel
theorem d_X13_minute_128 : decode cX13_minute 128 = .ok (.return_, 1) := by decide +kernel
abbrev rm_X13_minute : Room := { frames := 43, cells := 0, slots := 0, locals := 976 }
def B_X13_minute_118 (post : (Nat → Nat → Int32) → Prop) (mm : (Nat → Nat → Int32)) : Prop := post (up2 mm 1 (Int32.toNatClampNeg (4 : Int32)) ((mm 1 (Int32.toNatClampNeg (4 : Int32))) + 1))
def B_X13_minute_103 (post : (Nat → Nat → Int32) → Prop) : Nat → Int32 → (Nat → Nat → Int32) → Prop
  | 0 => fun _ _ => False
  | n + 1 => fun v2 mm => (v2 < 0 → (B_X13_minute_118 post mm)) ∧ (¬ v2 < 0 → (w_X13_enters (fun (u18 : (Nat → Nat → Int32)) => B_X13_minute_103 post n (v2 + (-1)) u18) v2 mm))
def B_X13_minute_90 (post : (Nat → Nat → Int32) → Prop) (k53 : Int32 → Int32 → (Nat → Nat → Int32) → Prop) (v1 : Int32) (v2 : Int32) (mm : (Nat → Nat → Int32)) : Prop := k53 v1 (v2 + 1) mm
def B_X13_minute_53 (post : (Nat → Nat → Int32) → Prop) : Nat → Int32 → Int32 → (Nat → Nat → Int32) → Prop
  | 0 => fun _ _ _ => False
  | n + 1 => fun v1 v2 mm => (v1 ≤ v2 → (∃ n103, B_X13_minute_103 post n103 (mm 1 (Int32.toNatClampNeg (1 : Int32))) mm)) ∧ (¬ v1 ≤ v2 → (w_X13_chipOf (fun (r9 : Int32) (u10 : (Nat → Nat → Int32)) => (¬ r9 = 1 → (B_X13_minute_90 post (B_X13_minute_53 post n) v1 v2 u10)) ∧ (r9 = 1 → (w_X13_chipOf (fun (r11 : Int32) (u12 : (Nat → Nat → Int32)) => (¬ r11 = 0 → (B_X13_minute_90 post (B_X13_minute_53 post n) v1 v2 u12)) ∧ (r11 = 0 → (w_X13_chipOf (fun (r13 : Int32) (u14 : (Nat → Nat → Int32)) => w_X13_comes (fun (u16 : (Nat → Nat → Int32)) => B_X13_minute_90 post (B_X13_minute_53 post n) v1 v2 u16) v2 (r13 + 1) u14) v2 1 u12))) v2 2 u10))) v2 0 mm))
def B_X13_minute_45 (post : (Nat → Nat → Int32) → Prop) (k16 : Int32 → Int32 → (Nat → Nat → Int32) → Prop) (v1 : Int32) (v2 : Int32) (mm : (Nat → Nat → Int32)) : Prop := k16 v1 (v2 + 1) mm
def B_X13_minute_16 (post : (Nat → Nat → Int32) → Prop) : Nat → Int32 → Int32 → (Nat → Nat → Int32) → Prop
  | 0 => fun _ _ _ => False
  | n + 1 => fun v1 v2 mm => (v1 ≤ v2 → (∃ n53, B_X13_minute_53 post n53 v1 0 mm)) ∧ (¬ v1 ≤ v2 → (w_X13_chipOf (fun (r3 : Int32) (u4 : (Nat → Nat → Int32)) => (¬ r3 = 1 → (B_X13_minute_45 post (B_X13_minute_16 post n) v1 v2 u4)) ∧ (r3 = 1 → (w_X13_chipOf (fun (r5 : Int32) (u6 : (Nat → Nat → Int32)) => w_X13_sets (fun (u8 : (Nat → Nat → Int32)) => B_X13_minute_45 post (B_X13_minute_16 post n) v1 v2 u8) v2 2 (r5 - 1) u6) v2 2 u4))) v2 0 mm))
def w_X13_minute (post : (Nat → Nat → Int32) → Prop) (mm : (Nat → Nat → Int32)) : Prop := w_X13_isFrost (fun (r1 : Bool) (u2 : (Nat → Nat → Int32)) => (¬ (r1 = false) → (B_X13_minute_118 post u2)) ∧ ((r1 = false) → (∃ n16, B_X13_minute_16 post n16 (u2 1 (Int32.toNatClampNeg (2 : Int32))) 0 u2)))  mm
section G_X13_minute
variable {p : Program} {l : Launch} {e : Env} {s : State} {m : MethodId} {args : Array Value} {below : List Frame} {meth : Method} {c : Code} {G : Gd} {ρ : Nat → Nat} {A : Nat → Prop} {cm : CMu} {oo : Nat → Int64}
set_option maxHeartbeats 4000000 in
set_option maxRecDepth 100000 in
theorem T_X13_minute_118 {post : (Nat → Nat → Int32) → Prop} (hl : l.stackTraces = false) (X : MC p l s m args meth c cX13_minute 3 RX13 G ρ A) (hr : meth.sig.returnType = none) (hex : ∀ z ∈ c.exceptionTable.toList, False) : ∀ (mm : (Nat → Nat → Int32)), B_X13_minute_118 post mm → LW p l e rm_X13_minute s m args below meth c (Qm below G ρ A (PV (fun u => (cm, u, oo)) post) noX args s 0 0) G ρ A 3 0 0 118 [(0, .ref 703)] [] (cm, mm, oo) := by
  intro mm h
  unfold B_X13_minute_118 at h
  refine L_aload_n (pc := 118) X d_X13_minute_118 rfl 0 rfl ?_
  refine gf_X13_7 (pc := 119) X d_X13_minute_119 ?_
  refine L_iconst (pc := 122) (v := 4) X d_X13_minute_122 (by decide) ?_
  refine L_dup2 (pc := 123) X d_X13_minute_123 rfl rfl ?_
  refine L_ialdM (pc := 124) (a := 1) X d_X13_minute_124 kd_704 (by unfold vp_in; decide) ?_
  refine L_iconst (pc := 125) (v := 1) X d_X13_minute_125 (by decide) ?_
  refine L_iadd (pc := 126) X d_X13_minute_126 ?_
  refine L_iastM (pc := 127) (a := 1) X d_X13_minute_127 kd_704 (by unfold vp_in; decide) ?_
  exact L_vret (pc := 128) X hr d_X13_minute_128 (by decide) (by decide) ⟨_, rfl, rfl, h⟩
set_option maxHeartbeats 4000000 in
set_option maxRecDepth 100000 in
theorem T_X13_minute_103 {post : (Nat → Nat → Int32) → Prop} (hl : l.stackTraces = false) (X : MC p l s m args meth c cX13_minute 3 RX13 G ρ A) (hr : meth.sig.returnType = none) (hex : ∀ z ∈ c.exceptionTable.toList, False) (n : Nat) : ∀ (v2 : Int32) (mm : (Nat → Nat → Int32)), B_X13_minute_103 post n v2 mm → LW p l e rm_X13_minute s m args below meth c (Qm below G ρ A (PV (fun u => (cm, u, oo)) post) noX args s 0 0) G ρ A 3 0 0 103 [(0, .ref 703), (2, .int v2)] [] (cm, mm, oo) := by
  induction n with
  | zero =>
    intro v2 mm h
    exact False.elim h
  | succ n ih =>
    intro v2 mm h
    unfold B_X13_minute_103 at h
    refine L_iload_n (pc := 103) X d_X13_minute_103 rfl 1 rfl ?_
    refine L_if_lt (pc := 104) (tgt := 118) X d_X13_minute_104 (by decide) (fun c104 => ?_) (fun c104 => ?_)
    · replace h := h.1 c104
      refine LW.sub [0] rfl ?_
      exact T_X13_minute_118 hl X hr hex   _ h
    · replace h := h.2 c104
      refine L_aload_n (pc := 107) X d_X13_minute_107 rfl 0 rfl ?_
      refine L_iload_n (pc := 108) X d_X13_minute_108 rfl 1 rfl ?_
      refine L_callVV (pc := 109) X lk_X13_238 (c_X13_enters X.hst  h) rfl rfl kd_703 (by decide) rfl rfl ⟨by decide, by decide⟩ ⟨by decide, by decide⟩ (Nat.zero_le _) d_X13_minute_109 rfl (fun x κ1 hx => L_nox hx) (fun u18 h => ?_)
      refine L_iinc (pc := 112) (v := v2 + (-1)) (lv2 := [(2, .int (v2 + (-1))), (0, .ref 703)]) X d_X13_minute_112 1 rfl rfl (by decide) rfl ?_
      refine L_goto (pc := 115) (tgt := 103) X d_X13_minute_115 (by decide) ?_
      refine LW.sub [1, 0] rfl ?_
      exact ih _  _ h
set_option maxHeartbeats 4000000 in
set_option maxRecDepth 100000 in
theorem T_X13_minute_90 {post : (Nat → Nat → Int32) → Prop} {k53 : Int32 → Int32 → (Nat → Nat → Int32) → Prop} (hl : l.stackTraces = false) (X : MC p l s m args meth c cX13_minute 3 RX13 G ρ A) (hr : meth.sig.returnType = none) (hex : ∀ z ∈ c.exceptionTable.toList, False)
    (hk53 : ∀ (v1 : Int32) (v2 : Int32) (mm : (Nat → Nat → Int32)), k53 v1 v2 mm → LW p l e rm_X13_minute s m args below meth c (Qm below G ρ A (PV (fun u => (cm, u, oo)) post) noX args s 0 0) G ρ A 3 0 0 53 [(0, .ref 703), (1, .int v1), (2, .int v2)] [] (cm, mm, oo)) : ∀ (v1 : Int32) (v2 : Int32) (mm : (Nat → Nat → Int32)), B_X13_minute_90 post k53 v1 v2 mm → LW p l e rm_X13_minute s m args below meth c (Qm below G ρ A (PV (fun u => (cm, u, oo)) post) noX args s 0 0) G ρ A 3 0 0 90 [(0, .ref 703), (1, .int v1), (2, .int v2)] [] (cm, mm, oo) := by
  intro v1 v2 mm h
  unfold B_X13_minute_90 at h
  refine L_iinc (pc := 90) (v := v2 + 1) (lv2 := [(2, .int (v2 + 1)), (0, .ref 703), (1, .int v1)]) X d_X13_minute_90 2 rfl rfl (by decide) rfl ?_
  refine L_goto (pc := 93) (tgt := 53) X d_X13_minute_93 (by decide) ?_
  refine LW.sub [1, 2, 0] rfl ?_
  exact hk53 _ _  _ h
set_option maxHeartbeats 4000000 in
set_option maxRecDepth 100000 in
theorem T_X13_minute_53 {post : (Nat → Nat → Int32) → Prop} (hl : l.stackTraces = false) (X : MC p l s m args meth c cX13_minute 3 RX13 G ρ A) (hr : meth.sig.returnType = none) (hex : ∀ z ∈ c.exceptionTable.toList, False) (n : Nat) : ∀ (v1 : Int32) (v2 : Int32) (mm : (Nat → Nat → Int32)), B_X13_minute_53 post n v1 v2 mm → LW p l e rm_X13_minute s m args below meth c (Qm below G ρ A (PV (fun u => (cm, u, oo)) post) noX args s 0 0) G ρ A 3 0 0 53 [(0, .ref 703), (1, .int v1), (2, .int v2)] [] (cm, mm, oo) := by
  induction n with
  | zero =>
    intro v1 v2 mm h
    exact False.elim h
  | succ n ih =>
    intro v1 v2 mm h
    unfold B_X13_minute_53 at h
    refine L_iload_n (pc := 53) X d_X13_minute_53 rfl 2 rfl ?_
    refine L_iload_n (pc := 54) X d_X13_minute_54 rfl 1 rfl ?_
    refine L_icmp_ge (pc := 55) (tgt := 96) X d_X13_minute_55 (by decide) (fun c55 => ?_) (fun c55 => ?_)
    · replace h := h.1 c55
      refine L_aload_n (pc := 96) X d_X13_minute_96 rfl 0 rfl ?_
      refine gf_X13_7 (pc := 97) X d_X13_minute_97 ?_
      refine L_iconst (pc := 100) (v := 1) X d_X13_minute_100 (by decide) ?_
      refine L_ialdM (pc := 101) (a := 1) X d_X13_minute_101 kd_704 (by unfold vp_in; decide) ?_
      refine L_istore_n (pc := 102) (lv2 := [(2, .int (mm 1 (Int32.toNatClampNeg (1 : Int32)))), (0, .ref 703), (1, .int v1)]) X d_X13_minute_102 rfl (by decide) rfl ?_
      obtain ⟨n103, h⟩ := h
      refine LW.sub [1, 0] rfl ?_
      exact T_X13_minute_103 hl X hr hex n103 _  _ h
    · replace h := h.2 c55
      refine L_aload_n (pc := 58) X d_X13_minute_58 rfl 0 rfl ?_
      refine L_iload_n (pc := 59) X d_X13_minute_59 rfl 2 rfl ?_
      refine L_iconst (pc := 60) (v := 0) X d_X13_minute_60 (by decide) ?_
      refine L_callVI (pc := 61) X lk_X13_132 (c_X13_chipOf X.hst  h) rfl rfl kd_703 (by decide) rfl rfl ⟨by decide, by decide⟩ ⟨by decide, by decide⟩ (Nat.zero_le _) d_X13_minute_61 rfl (fun x κ1 hx => L_nox hx) (fun r9 u10 h => ?_)
      refine L_iconst (pc := 64) (v := 1) X d_X13_minute_64 (by decide) ?_
      refine L_icmp_ne (pc := 65) (tgt := 90) X d_X13_minute_65 (by decide) (fun c65 => ?_) (fun c65 => ?_)
      · replace h := h.1 c65
        refine LW.sub [0, 1, 2] rfl ?_
        exact T_X13_minute_90 hl X hr hex ih _ _  _ h
      · replace h := h.2 c65
        refine L_aload_n (pc := 68) X d_X13_minute_68 rfl 0 rfl ?_
        refine L_iload_n (pc := 69) X d_X13_minute_69 rfl 2 rfl ?_
        refine L_iconst (pc := 70) (v := 2) X d_X13_minute_70 (by decide) ?_
        refine L_callVI (pc := 71) X lk_X13_132 (c_X13_chipOf X.hst  h) rfl rfl kd_703 (by decide) rfl rfl ⟨by decide, by decide⟩ ⟨by decide, by decide⟩ (Nat.zero_le _) d_X13_minute_71 rfl (fun x κ1 hx => L_nox hx) (fun r11 u12 h => ?_)
        refine L_if_ne (pc := 74) (tgt := 90) X d_X13_minute_74 (by decide) (fun c74 => ?_) (fun c74 => ?_)
        · replace h := h.1 c74
          refine LW.sub [0, 1, 2] rfl ?_
          exact T_X13_minute_90 hl X hr hex ih _ _  _ h
        · replace h := h.2 c74
          refine L_aload_n (pc := 77) X d_X13_minute_77 rfl 0 rfl ?_
          refine L_iload_n (pc := 78) X d_X13_minute_78 rfl 2 rfl ?_
          refine L_aload_n (pc := 79) X d_X13_minute_79 rfl 0 rfl ?_
          refine L_iload_n (pc := 80) X d_X13_minute_80 rfl 2 rfl ?_
          refine L_iconst (pc := 81) (v := 1) X d_X13_minute_81 (by decide) ?_
          refine L_callVI (pc := 82) X lk_X13_132 (c_X13_chipOf X.hst  h) rfl rfl kd_703 (by decide) rfl rfl ⟨by decide, by decide⟩ ⟨by decide, by decide⟩ (Nat.le_of_ble_eq_true rfl) d_X13_minute_82 rfl (fun x κ1 hx => L_nox hx) (fun r13 u14 h => ?_)
          refine L_iconst (pc := 85) (v := 1) X d_X13_minute_85 (by decide) ?_
          refine L_iadd (pc := 86) X d_X13_minute_86 ?_
          refine L_callVV (pc := 87) X lk_X13_235 (c_X13_comes X.hst  h) rfl rfl kd_703 (by decide) rfl rfl ⟨by decide, by decide⟩ ⟨by decide, by decide⟩ (Nat.zero_le _) d_X13_minute_87 rfl (fun x κ1 hx => L_nox hx) (fun u16 h => ?_)
          refine LW.sub [0, 1, 2] rfl ?_
          exact T_X13_minute_90 hl X hr hex ih _ _  _ h
set_option maxHeartbeats 4000000 in
set_option maxRecDepth 100000 in
theorem T_X13_minute_45 {post : (Nat → Nat → Int32) → Prop} {k16 : Int32 → Int32 → (Nat → Nat → Int32) → Prop} (hl : l.stackTraces = false) (X : MC p l s m args meth c cX13_minute 3 RX13 G ρ A) (hr : meth.sig.returnType = none) (hex : ∀ z ∈ c.exceptionTable.toList, False)
    (hk16 : ∀ (v1 : Int32) (v2 : Int32) (mm : (Nat → Nat → Int32)), k16 v1 v2 mm → LW p l e rm_X13_minute s m args below meth c (Qm below G ρ A (PV (fun u => (cm, u, oo)) post) noX args s 0 0) G ρ A 3 0 0 16 [(0, .ref 703), (1, .int v1), (2, .int v2)] [] (cm, mm, oo)) : ∀ (v1 : Int32) (v2 : Int32) (mm : (Nat → Nat → Int32)), B_X13_minute_45 post k16 v1 v2 mm → LW p l e rm_X13_minute s m args below meth c (Qm below G ρ A (PV (fun u => (cm, u, oo)) post) noX args s 0 0) G ρ A 3 0 0 45 [(0, .ref 703), (1, .int v1), (2, .int v2)] [] (cm, mm, oo) := by
  intro v1 v2 mm h
  unfold B_X13_minute_45 at h
  refine L_iinc (pc := 45) (v := v2 + 1) (lv2 := [(2, .int (v2 + 1)), (0, .ref 703), (1, .int v1)]) X d_X13_minute_45 2 rfl rfl (by decide) rfl ?_
  refine L_goto (pc := 48) (tgt := 16) X d_X13_minute_48 (by decide) ?_
  refine LW.sub [1, 2, 0] rfl ?_
  exact hk16 _ _  _ h
set_option maxHeartbeats 4000000 in
set_option maxRecDepth 100000 in
theorem T_X13_minute_16 {post : (Nat → Nat → Int32) → Prop} (hl : l.stackTraces = false) (X : MC p l s m args meth c cX13_minute 3 RX13 G ρ A) (hr : meth.sig.returnType = none) (hex : ∀ z ∈ c.exceptionTable.toList, False) (n : Nat) : ∀ (v1 : Int32) (v2 : Int32) (mm : (Nat → Nat → Int32)), B_X13_minute_16 post n v1 v2 mm → LW p l e rm_X13_minute s m args below meth c (Qm below G ρ A (PV (fun u => (cm, u, oo)) post) noX args s 0 0) G ρ A 3 0 0 16 [(0, .ref 703), (1, .int v1), (2, .int v2)] [] (cm, mm, oo) := by
  induction n with
  | zero =>
    intro v1 v2 mm h
    exact False.elim h
  | succ n ih =>
    intro v1 v2 mm h
    unfold B_X13_minute_16 at h
    refine L_iload_n (pc := 16) X d_X13_minute_16 rfl 2 rfl ?_
    refine L_iload_n (pc := 17) X d_X13_minute_17 rfl 1 rfl ?_
    refine L_icmp_ge (pc := 18) (tgt := 51) X d_X13_minute_18 (by decide) (fun c18 => ?_) (fun c18 => ?_)
    · replace h := h.1 c18
      refine L_iconst (pc := 51) (v := 0) X d_X13_minute_51 (by decide) ?_
      refine L_istore_n (pc := 52) (lv2 := [(2, .int 0), (0, .ref 703), (1, .int v1)]) X d_X13_minute_52 rfl (by decide) rfl ?_
      obtain ⟨n53, h⟩ := h
      refine LW.sub [1, 2, 0] rfl ?_
      exact T_X13_minute_53 hl X hr hex n53 _ _  _ h
    · replace h := h.2 c18
      refine L_aload_n (pc := 21) X d_X13_minute_21 rfl 0 rfl ?_
      refine L_iload_n (pc := 22) X d_X13_minute_22 rfl 2 rfl ?_
      refine L_iconst (pc := 23) (v := 0) X d_X13_minute_23 (by decide) ?_
      refine L_callVI (pc := 24) X lk_X13_132 (c_X13_chipOf X.hst  h) rfl rfl kd_703 (by decide) rfl rfl ⟨by decide, by decide⟩ ⟨by decide, by decide⟩ (Nat.zero_le _) d_X13_minute_24 rfl (fun x κ1 hx => L_nox hx) (fun r3 u4 h => ?_)
      refine L_iconst (pc := 27) (v := 1) X d_X13_minute_27 (by decide) ?_
      refine L_icmp_ne (pc := 28) (tgt := 45) X d_X13_minute_28 (by decide) (fun c28 => ?_) (fun c28 => ?_)
      · replace h := h.1 c28
        refine LW.sub [0, 1, 2] rfl ?_
        exact T_X13_minute_45 hl X hr hex ih _ _  _ h
      · replace h := h.2 c28
        refine L_aload_n (pc := 31) X d_X13_minute_31 rfl 0 rfl ?_
        refine L_iload_n (pc := 32) X d_X13_minute_32 rfl 2 rfl ?_
        refine L_iconst (pc := 33) (v := 2) X d_X13_minute_33 (by decide) ?_
        refine L_aload_n (pc := 34) X d_X13_minute_34 rfl 0 rfl ?_
        refine L_iload_n (pc := 35) X d_X13_minute_35 rfl 2 rfl ?_
        refine L_iconst (pc := 36) (v := 2) X d_X13_minute_36 (by decide) ?_
        refine L_callVI (pc := 37) X lk_X13_132 (c_X13_chipOf X.hst  h) rfl rfl kd_703 (by decide) rfl rfl ⟨by decide, by decide⟩ ⟨by decide, by decide⟩ (Nat.le_of_ble_eq_true rfl) d_X13_minute_37 rfl (fun x κ1 hx => L_nox hx) (fun r5 u6 h => ?_)
        refine L_iconst (pc := 40) (v := 1) X d_X13_minute_40 (by decide) ?_
        refine L_isub (pc := 41) X d_X13_minute_41 ?_
        refine L_callVV (pc := 42) X lk_X13_202 (c_X13_sets X.hst  h) rfl rfl kd_703 (by decide) rfl rfl ⟨by decide, by decide⟩ ⟨by decide, by decide⟩ (Nat.zero_le _) d_X13_minute_42 rfl (fun x κ1 hx => L_nox hx) (fun u8 h => ?_)
        refine LW.sub [0, 1, 2] rfl ?_
        exact T_X13_minute_45 hl X hr hex ih _ _  _ h
set_option maxHeartbeats 4000000 in
set_option maxRecDepth 100000 in
theorem c_X13_minute (hl : l.stackTraces = false) {mm : (Nat → Nat → Int32)} {post : (Nat → Nat → Int32) → Prop} (h : w_X13_minute post mm) : CT l yX13_minute (.code yX13_minute cX13_minute 3 none) rm_X13_minute 0 0 G ρ [.ref 703] (cm, mm, oo) (PV (fun u => (cm, u, oo)) post) noX := by
  refine CT_of hl (by decide +kernel) rfl (Nat.le_of_ble_eq_true rfl) (lv0 := [(0, .ref 703)]) rfl (fun p e s m args below meth c A X hr hex hnm => ?_)
  unfold w_X13_minute at h
  refine L_aload_n (pc := 0) X d_X13_minute_0 rfl 0 rfl ?_
  refine L_callVZ (pc := 1) X lk_X13_148 (c_X13_isFrost X.hst  h) rfl rfl kd_703 (by decide) rfl rfl ⟨by decide, by decide⟩ ⟨by decide, by decide⟩ (Nat.zero_le _) d_X13_minute_1 rfl (fun x κ1 hx => L_nox hx) (fun r1 u2 h => ?_)
  refine L_if_ne (pc := 4) (tgt := 118) X d_X13_minute_4 (by decide) (fun c4 => ?_) (fun c4 => ?_)
  · replace h := h.1 (fun z => c4 ((b2_0 _).mpr z))
    refine LW.sub [0] rfl ?_
    exact T_X13_minute_118 hl X hr hex   _ h
  · replace h := h.2 ((b2_0 _).mp c4)
    refine L_aload_n (pc := 7) X d_X13_minute_7 rfl 0 rfl ?_
    refine gf_X13_7 (pc := 8) X d_X13_minute_8 ?_
    refine L_iconst (pc := 11) (v := 2) X d_X13_minute_11 (by decide) ?_
    refine L_ialdM (pc := 12) (a := 1) X d_X13_minute_12 kd_704 (by unfold vp_in; decide) ?_
    refine L_istore_n (pc := 13) (lv2 := [(1, .int (u2 1 (Int32.toNatClampNeg (2 : Int32)))), (0, .ref 703)]) X d_X13_minute_13 rfl (by decide) rfl ?_
    refine L_iconst (pc := 14) (v := 0) X d_X13_minute_14 (by decide) ?_
    refine L_istore_n (pc := 15) (lv2 := [(2, .int 0), (1, .int (u2 1 (Int32.toNatClampNeg (2 : Int32)))), (0, .ref 703)]) X d_X13_minute_15 rfl (by decide) rfl ?_
    obtain ⟨n16, h⟩ := h
    refine LW.sub [2, 1, 0] rfl ?_
    exact T_X13_minute_16 hl X hr hex n16 _ _  _ h
end G_X13_minute
theorem yk_X13_minute : yX13_minute.cls = RX13 ∧ yX13_minute.cls ≠ "java/lang/invoke/MethodHandle" ∧ yX13_minute.cls ≠ "java/lang/invoke/VarHandle" ∧ (parseMethodDescriptor yX13_minute.desc).map (fun d => d.parameters.length) = some 0 := by decide +kernel
theorem lk_X13_241 : LinkV RX13 241 RX13 yX13_minute (.code yX13_minute cX13_minute 3 none) 0 := ⟨tw_1463, tw_1465, tw_57, tw_83, tw_1466, yk_X13_minute⟩
theorem d_X13_run_0 : decode cX13_run 0 = .ok (.aload_n 0, 1) := by decide +kernel
theorem d_X13_run_1 : decode cX13_run 1 = .ok (.iload_n 1, 1) := by decide +kernel
theorem d_X13_run_2 : decode cX13_run 2 = .ok (.iconst 1, 1) := by decide +kernel
theorem d_X13_run_3 : decode cX13_run 3 = .ok (.sipush 2000, 3) := by decide +kernel
theorem d_X13_run_6 : decode cX13_run 6 = .ok (.invokestatic 50, 3) := by decide +kernel
theorem d_X13_run_9 : decode cX13_run 9 = .ok (.ifCond .ne 7, 3) := by decide +kernel
theorem d_X13_run_12 : decode cX13_run 12 = .ok (.iconst 1, 1) := by decide +kernel
theorem d_X13_run_13 : decode cX13_run 13 = .ok (.goto 4, 3) := by decide +kernel
theorem d_X13_run_16 : decode cX13_run 16 = .ok (.iconst 0, 1) := by decide +kernel
theorem d_X13_run_17 : decode cX13_run 17 = .ok (.putfield 47, 3) := by decide +kernel
theorem d_X13_run_20 : decode cX13_run 20 = .ok (.aload_n 0, 1) := by decide +kernel
theorem d_X13_run_21 : decode cX13_run 21 = .ok (.getfield 47, 3) := by decide +kernel
theorem d_X13_run_24 : decode cX13_run 24 = .ok (.ifCond .le 5, 3) := by decide +kernel
theorem d_X13_run_27 : decode cX13_run 27 = .ok (.iconst 0, 1) := by decide +kernel
theorem d_X13_run_28 : decode cX13_run 28 = .ok (.ireturn, 1) := by decide +kernel
theorem d_X13_run_29 : decode cX13_run 29 = .ok (.aload_n 0, 1) := by decide +kernel
theorem d_X13_run_30 : decode cX13_run 30 = .ok (.getfield 7, 3) := by decide +kernel
theorem d_X13_run_33 : decode cX13_run 33 = .ok (.iconst 3, 1) := by decide +kernel
theorem d_X13_run_34 : decode cX13_run 34 = .ok (.iaload, 1) := by decide +kernel
theorem d_X13_run_35 : decode cX13_run 35 = .ok (.istore_n 2, 1) := by decide +kernel
theorem d_X13_run_36 : decode cX13_run 36 = .ok (.iconst 0, 1) := by decide +kernel
theorem d_X13_run_37 : decode cX13_run 37 = .ok (.istore_n 3, 1) := by decide +kernel
theorem d_X13_run_38 : decode cX13_run 38 = .ok (.iload_n 3, 1) := by decide +kernel
theorem d_X13_run_39 : decode cX13_run 39 = .ok (.iload_n 1, 1) := by decide +kernel
theorem d_X13_run_40 : decode cX13_run 40 = .ok (.if_icmp .ge 13, 3) := by decide +kernel
theorem d_X13_run_43 : decode cX13_run 43 = .ok (.aload_n 0, 1) := by decide +kernel
theorem d_X13_run_44 : decode cX13_run 44 = .ok (.invokevirtual 241, 3) := by decide +kernel
theorem d_X13_run_47 : decode cX13_run 47 = .ok (.iinc 3 1, 3) := by decide +kernel
theorem d_X13_run_50 : decode cX13_run 50 = .ok (.goto (-12), 3) := by decide +kernel
theorem d_X13_run_53 : decode cX13_run 53 = .ok (.aload_n 0, 1) := by decide +kernel
theorem d_X13_run_54 : decode cX13_run 54 = .ok (.getfield 7, 3) := by decide +kernel
theorem d_X13_run_57 : decode cX13_run 57 = .ok (.iconst 3, 1) := by decide +kernel
theorem d_X13_run_58 : decode cX13_run 58 = .ok (.iaload, 1) := by decide +kernel
theorem d_X13_run_59 : decode cX13_run 59 = .ok (.iload_n 2, 1) := by decide +kernel
theorem d_X13_run_60 : decode cX13_run 60 = .ok (.isub, 1) := by decide +kernel
theorem d_X13_run_61 : decode cX13_run 61 = .ok (.ireturn, 1) := by decide +kernel
abbrev rm_X13_run : Room := { frames := 44, cells := 0, slots := 0, locals := 998 }
def B_X13_run_38 (post : Int32 → (Nat → Nat → Int32) → Prop) : Nat → Int32 → Int32 → Int32 → (Nat → Nat → Int32) → Prop
  | 0 => fun _ _ _ _ => False
  | n + 1 => fun v1 v2 v3 mm => (v1 ≤ v3 → (post ((mm 1 (Int32.toNatClampNeg (3 : Int32))) - v2) mm)) ∧ (¬ v1 ≤ v3 → (w_X13_minute (fun (u4 : (Nat → Nat → Int32)) => B_X13_run_38 post n v1 v2 (v3 + 1) u4)  mm))
def B_X13_run_17 (post : Int32 → (Nat → Nat → Int32) → Prop) (v1 : Int32) (s0 : Bool) (mm : (Nat → Nat → Int32)) : Prop := (((up2 mm 0 0 (b2 s0)) 0 0) ≤ 0 → (∃ n38, B_X13_run_38 post n38 v1 ((up2 mm 0 0 (b2 s0)) 1 (Int32.toNatClampNeg (3 : Int32))) 0 (up2 mm 0 0 (b2 s0)))) ∧ (¬ ((up2 mm 0 0 (b2 s0)) 0 0) ≤ 0 → (post 0 (up2 mm 0 0 (b2 s0))))
def w_X13_run (post : Int32 → (Nat → Nat → Int32) → Prop) (x1 : Int32) (mm : (Nat → Nat → Int32)) : Prop := w_X13_isIn (fun (r1 : Bool) (u2 : (Nat → Nat → Int32)) => (¬ (r1 = false) → (B_X13_run_17 post x1 false u2)) ∧ ((r1 = false) → (B_X13_run_17 post x1 true u2))) x1 1 2000 mm
section G_X13_run
variable {p : Program} {l : Launch} {e : Env} {s : State} {m : MethodId} {args : Array Value} {below : List Frame} {meth : Method} {c : Code} {G : Gd} {ρ : Nat → Nat} {A : Nat → Prop} {cm : CMu} {oo : Nat → Int64}
set_option maxHeartbeats 4000000 in
set_option maxRecDepth 100000 in
theorem T_X13_run_38 {post : Int32 → (Nat → Nat → Int32) → Prop} (hl : l.stackTraces = false) (X : MC p l s m args meth c cX13_run 4 RX13 G ρ A) (hr : meth.sig.returnType = (some .int)) (hex : ∀ z ∈ c.exceptionTable.toList, False) (n : Nat) : ∀ (v1 : Int32) (v2 : Int32) (v3 : Int32) (mm : (Nat → Nat → Int32)), B_X13_run_38 post n v1 v2 v3 mm → LW p l e rm_X13_run s m args below meth c (Qm below G ρ A (PI (fun u => (cm, u, oo)) post) noX args s 0 0) G ρ A 4 0 0 38 [(0, .ref 703), (1, .int v1), (2, .int v2), (3, .int v3)] [] (cm, mm, oo) := by
  induction n with
  | zero =>
    intro v1 v2 v3 mm h
    exact False.elim h
  | succ n ih =>
    intro v1 v2 v3 mm h
    unfold B_X13_run_38 at h
    refine L_iload_n (pc := 38) X d_X13_run_38 rfl 3 rfl ?_
    refine L_iload_n (pc := 39) X d_X13_run_39 rfl 1 rfl ?_
    refine L_icmp_ge (pc := 40) (tgt := 53) X d_X13_run_40 (by decide) (fun c40 => ?_) (fun c40 => ?_)
    · replace h := h.1 c40
      refine L_aload_n (pc := 53) X d_X13_run_53 rfl 0 rfl ?_
      refine gf_X13_7 (pc := 54) X d_X13_run_54 ?_
      refine L_iconst (pc := 57) (v := 3) X d_X13_run_57 (by decide) ?_
      refine L_ialdM (pc := 58) (a := 1) X d_X13_run_58 kd_704 (by unfold vp_in; decide) ?_
      refine L_iload_n (pc := 59) X d_X13_run_59 rfl 2 rfl ?_
      refine L_isub (pc := 60) X d_X13_run_60 ?_
      exact L_iret (pc := 61) X hr d_X13_run_61 (by decide) (by decide) ⟨_, _, rfl, rfl, h⟩
    · replace h := h.2 c40
      refine L_aload_n (pc := 43) X d_X13_run_43 rfl 0 rfl ?_
      refine L_callVV (pc := 44) X lk_X13_241 (c_X13_minute X.hst  h) rfl rfl kd_703 (by decide) rfl rfl ⟨by decide, by decide⟩ ⟨by decide, by decide⟩ (Nat.zero_le _) d_X13_run_44 rfl (fun x κ1 hx => L_nox hx) (fun u4 h => ?_)
      refine L_iinc (pc := 47) (v := v3 + 1) (lv2 := [(3, .int (v3 + 1)), (0, .ref 703), (1, .int v1), (2, .int v2)]) X d_X13_run_47 3 rfl rfl (by decide) rfl ?_
      refine L_goto (pc := 50) (tgt := 38) X d_X13_run_50 (by decide) ?_
      refine LW.sub [1, 2, 3, 0] rfl ?_
      exact ih _ _ _  _ h
set_option maxHeartbeats 4000000 in
set_option maxRecDepth 100000 in
theorem T_X13_run_17 {post : Int32 → (Nat → Nat → Int32) → Prop} (hl : l.stackTraces = false) (X : MC p l s m args meth c cX13_run 4 RX13 G ρ A) (hr : meth.sig.returnType = (some .int)) (hex : ∀ z ∈ c.exceptionTable.toList, False) : ∀ (v1 : Int32) (s0 : Bool) (mm : (Nat → Nat → Int32)), B_X13_run_17 post v1 s0 mm → LW p l e rm_X13_run s m args below meth c (Qm below G ρ A (PI (fun u => (cm, u, oo)) post) noX args s 0 0) G ρ A 4 0 0 17 [(0, .ref 703), (1, .int v1)] [.int (b2 s0), .ref 703] (cm, mm, oo) := by
  intro v1 s0 mm h
  unfold B_X13_run_17 at h
  refine pf_X13_47 (pc := 17) X d_X13_run_17 ?_
  refine L_aload_n (pc := 20) X d_X13_run_20 rfl 0 rfl ?_
  refine gf_X13_47 (pc := 21) X d_X13_run_21 ?_
  refine L_if_le (pc := 24) (tgt := 29) X d_X13_run_24 (by decide) (fun c24 => ?_) (fun c24 => ?_)
  · replace h := h.1 c24
    refine L_aload_n (pc := 29) X d_X13_run_29 rfl 0 rfl ?_
    refine gf_X13_7 (pc := 30) X d_X13_run_30 ?_
    refine L_iconst (pc := 33) (v := 3) X d_X13_run_33 (by decide) ?_
    refine L_ialdM (pc := 34) (a := 1) X d_X13_run_34 kd_704 (by unfold vp_in; decide) ?_
    refine L_istore_n (pc := 35) (lv2 := [(2, .int ((up2 mm 0 0 (b2 s0)) 1 (Int32.toNatClampNeg (3 : Int32)))), (0, .ref 703), (1, .int v1)]) X d_X13_run_35 rfl (by decide) rfl ?_
    refine L_iconst (pc := 36) (v := 0) X d_X13_run_36 (by decide) ?_
    refine L_istore_n (pc := 37) (lv2 := [(3, .int 0), (2, .int ((up2 mm 0 0 (b2 s0)) 1 (Int32.toNatClampNeg (3 : Int32)))), (0, .ref 703), (1, .int v1)]) X d_X13_run_37 rfl (by decide) rfl ?_
    obtain ⟨n38, h⟩ := h
    refine LW.sub [2, 3, 1, 0] rfl ?_
    exact T_X13_run_38 hl X hr hex n38 _ _ _  _ h
  · replace h := h.2 c24
    refine L_iconst (pc := 27) (v := 0) X d_X13_run_27 (by decide) ?_
    exact L_iret (pc := 28) X hr d_X13_run_28 (by decide) (by decide) ⟨_, _, rfl, rfl, h⟩
set_option maxHeartbeats 4000000 in
set_option maxRecDepth 100000 in
theorem c_X13_run (hl : l.stackTraces = false) {x1 : Int32} {mm : (Nat → Nat → Int32)} {post : Int32 → (Nat → Nat → Int32) → Prop} (h : w_X13_run post x1 mm) : CT l yX13_run (.code yX13_run cX13_run 4 (some .int)) rm_X13_run 0 0 G ρ [.ref 703, .int x1] (cm, mm, oo) (PI (fun u => (cm, u, oo)) post) noX := by
  refine CT_of hl (by decide +kernel) rfl (Nat.le_of_ble_eq_true rfl) (lv0 := [(0, .ref 703), (1, .int x1)]) rfl (fun p e s m args below meth c A X hr hex hnm => ?_)
  unfold w_X13_run at h
  refine L_aload_n (pc := 0) X d_X13_run_0 rfl 0 rfl ?_
  refine L_iload_n (pc := 1) X d_X13_run_1 rfl 1 rfl ?_
  refine L_iconst (pc := 2) (v := 1) X d_X13_run_2 (by decide) ?_
  refine L_sipush (pc := 3) (v := 2000) X d_X13_run_3 (by decide) ?_
  refine L_callSZ (pc := 6) X lk_X13_50 (c_X13_isIn X.hst  h) rfl rfl rfl ⟨by decide, by decide⟩ ⟨by decide, by decide⟩ (Nat.le_of_ble_eq_true rfl) d_X13_run_6 rfl (fun x κ1 hx => L_nox hx) (fun r1 u2 h => ?_)
  refine L_if_ne (pc := 9) (tgt := 16) X d_X13_run_9 (by decide) (fun c9 => ?_) (fun c9 => ?_)
  · replace h := h.1 (fun z => c9 ((b2_0 _).mpr z))
    refine L_iconst (pc := 16) (v := 0) X d_X13_run_16 (by decide) ?_
    refine LW.sub [0, 1] rfl ?_
    exact T_X13_run_17 hl X hr hex _ _  _ h
  · replace h := h.2 ((b2_0 _).mp c9)
    refine L_iconst (pc := 12) (v := 1) X d_X13_run_12 (by decide) ?_
    refine L_goto (pc := 13) (tgt := 17) X d_X13_run_13 (by decide) ?_
    refine LW.sub [0, 1] rfl ?_
    exact T_X13_run_17 hl X hr hex _ _  _ h
end G_X13_run
theorem d_X13_later_0 : decode cX13_later 0 = .ok (.aload_n 0, 1) := by decide +kernel
theorem d_X13_later_1 : decode cX13_later 1 = .ok (.iload_n 1, 1) := by decide +kernel
theorem d_X13_later_2 : decode cX13_later 2 = .ok (.iconst 0, 1) := by decide +kernel
theorem d_X13_later_3 : decode cX13_later 3 = .ok (.sipush 2000, 3) := by decide +kernel
theorem d_X13_later_6 : decode cX13_later 6 = .ok (.invokestatic 50, 3) := by decide +kernel
theorem d_X13_later_9 : decode cX13_later 9 = .ok (.ifCond .ne 7, 3) := by decide +kernel
theorem d_X13_later_12 : decode cX13_later 12 = .ok (.iconst 1, 1) := by decide +kernel
theorem d_X13_later_13 : decode cX13_later 13 = .ok (.goto 17, 3) := by decide +kernel
theorem d_X13_later_16 : decode cX13_later 16 = .ok (.iload_n 2, 1) := by decide +kernel
theorem d_X13_later_17 : decode cX13_later 17 = .ok (.iconst 0, 1) := by decide +kernel
theorem d_X13_later_18 : decode cX13_later 18 = .ok (.iconst 5, 1) := by decide +kernel
theorem d_X13_later_19 : decode cX13_later 19 = .ok (.invokestatic 50, 3) := by decide +kernel
theorem d_X13_later_22 : decode cX13_later 22 = .ok (.ifCond .ne 7, 3) := by decide +kernel
theorem d_X13_later_25 : decode cX13_later 25 = .ok (.iconst 2, 1) := by decide +kernel
theorem d_X13_later_26 : decode cX13_later 26 = .ok (.goto 4, 3) := by decide +kernel
theorem d_X13_later_29 : decode cX13_later 29 = .ok (.iconst 0, 1) := by decide +kernel
theorem d_X13_later_30 : decode cX13_later 30 = .ok (.putfield 47, 3) := by decide +kernel
theorem d_X13_later_33 : decode cX13_later 33 = .ok (.aload_n 0, 1) := by decide +kernel
theorem d_X13_later_34 : decode cX13_later 34 = .ok (.getfield 47, 3) := by decide +kernel
theorem d_X13_later_37 : decode cX13_later 37 = .ok (.ifCond .le 5, 3) := by decide +kernel
theorem d_X13_later_40 : decode cX13_later 40 = .ok (.iconst 0, 1) := by decide +kernel
theorem d_X13_later_41 : decode cX13_later 41 = .ok (.ireturn, 1) := by decide +kernel
theorem d_X13_later_42 : decode cX13_later 42 = .ok (.iconst 0, 1) := by decide +kernel
theorem d_X13_later_43 : decode cX13_later 43 = .ok (.istore_n 3, 1) := by decide +kernel
theorem d_X13_later_44 : decode cX13_later 44 = .ok (.iload_n 3, 1) := by decide +kernel
theorem d_X13_later_45 : decode cX13_later 45 = .ok (.sipush 1530, 3) := by decide +kernel
theorem d_X13_later_48 : decode cX13_later 48 = .ok (.if_icmp .ge 21, 3) := by decide +kernel
theorem d_X13_later_51 : decode cX13_later 51 = .ok (.aload_n 0, 1) := by decide +kernel
theorem d_X13_later_52 : decode cX13_later 52 = .ok (.getfield 41, 3) := by decide +kernel
theorem d_X13_later_55 : decode cX13_later 55 = .ok (.iload_n 3, 1) := by decide +kernel
theorem d_X13_later_56 : decode cX13_later 56 = .ok (.aload_n 0, 1) := by decide +kernel
theorem d_X13_later_57 : decode cX13_later 57 = .ok (.getfield 7, 3) := by decide +kernel
theorem d_X13_later_60 : decode cX13_later 60 = .ok (.iload_n 3, 1) := by decide +kernel
theorem d_X13_later_61 : decode cX13_later 61 = .ok (.iaload, 1) := by decide +kernel
theorem d_X13_later_62 : decode cX13_later 62 = .ok (.iastore, 1) := by decide +kernel
theorem d_X13_later_63 : decode cX13_later 63 = .ok (.iinc 3 1, 3) := by decide +kernel
theorem d_X13_later_66 : decode cX13_later 66 = .ok (.goto (-22), 3) := by decide +kernel
theorem d_X13_later_69 : decode cX13_later 69 = .ok (.iconst 0, 1) := by decide +kernel
theorem d_X13_later_70 : decode cX13_later 70 = .ok (.istore_n 3, 1) := by decide +kernel
theorem d_X13_later_71 : decode cX13_later 71 = .ok (.iload_n 3, 1) := by decide +kernel
theorem d_X13_later_72 : decode cX13_later 72 = .ok (.iload_n 1, 1) := by decide +kernel
theorem d_X13_later_73 : decode cX13_later 73 = .ok (.if_icmp .ge 13, 3) := by decide +kernel
theorem d_X13_later_76 : decode cX13_later 76 = .ok (.aload_n 0, 1) := by decide +kernel
theorem d_X13_later_77 : decode cX13_later 77 = .ok (.invokevirtual 241, 3) := by decide +kernel
theorem d_X13_later_80 : decode cX13_later 80 = .ok (.iinc 3 1, 3) := by decide +kernel
theorem d_X13_later_83 : decode cX13_later 83 = .ok (.goto (-12), 3) := by decide +kernel
theorem d_X13_later_86 : decode cX13_later 86 = .ok (.iconst 0, 1) := by decide +kernel
theorem d_X13_later_87 : decode cX13_later 87 = .ok (.istore_n 3, 1) := by decide +kernel
theorem d_X13_later_88 : decode cX13_later 88 = .ok (.iload_n 3, 1) := by decide +kernel
theorem d_X13_later_89 : decode cX13_later 89 = .ok (.iconst 5, 1) := by decide +kernel
theorem d_X13_later_90 : decode cX13_later 90 = .ok (.if_icmp .ge 16, 3) := by decide +kernel
theorem d_X13_later_93 : decode cX13_later 93 = .ok (.aload_n 0, 1) := by decide +kernel
theorem d_X13_later_94 : decode cX13_later 94 = .ok (.getfield 44, 3) := by decide +kernel
theorem d_X13_later_97 : decode cX13_later 97 = .ok (.iload_n 3, 1) := by decide +kernel
theorem d_X13_later_98 : decode cX13_later 98 = .ok (.iconst 0, 1) := by decide +kernel
theorem d_X13_later_99 : decode cX13_later 99 = .ok (.iastore, 1) := by decide +kernel
theorem d_X13_later_100 : decode cX13_later 100 = .ok (.iinc 3 1, 3) := by decide +kernel
theorem d_X13_later_103 : decode cX13_later 103 = .ok (.goto (-15), 3) := by decide +kernel
theorem d_X13_later_106 : decode cX13_later 106 = .ok (.iconst 0, 1) := by decide +kernel
theorem d_X13_later_107 : decode cX13_later 107 = .ok (.istore_n 3, 1) := by decide +kernel
theorem d_X13_later_108 : decode cX13_later 108 = .ok (.iload_n 3, 1) := by decide +kernel
theorem d_X13_later_109 : decode cX13_later 109 = .ok (.aload_n 0, 1) := by decide +kernel
theorem d_X13_later_110 : decode cX13_later 110 = .ok (.getfield 7, 3) := by decide +kernel
theorem d_X13_later_113 : decode cX13_later 113 = .ok (.iconst 2, 1) := by decide +kernel
theorem d_X13_later_114 : decode cX13_later 114 = .ok (.iaload, 1) := by decide +kernel
theorem d_X13_later_115 : decode cX13_later 115 = .ok (.if_icmp .ge 24, 3) := by decide +kernel
theorem d_X13_later_118 : decode cX13_later 118 = .ok (.aload_n 0, 1) := by decide +kernel
theorem d_X13_later_119 : decode cX13_later 119 = .ok (.getfield 44, 3) := by decide +kernel
theorem d_X13_later_122 : decode cX13_later 122 = .ok (.aload_n 0, 1) := by decide +kernel
theorem d_X13_later_123 : decode cX13_later 123 = .ok (.iload_n 3, 1) := by decide +kernel
theorem d_X13_later_124 : decode cX13_later 124 = .ok (.iconst 0, 1) := by decide +kernel
theorem d_X13_later_125 : decode cX13_later 125 = .ok (.invokevirtual 132, 3) := by decide +kernel
theorem d_X13_later_128 : decode cX13_later 128 = .ok (.dup2, 1) := by decide +kernel
theorem d_X13_later_129 : decode cX13_later 129 = .ok (.iaload, 1) := by decide +kernel
theorem d_X13_later_130 : decode cX13_later 130 = .ok (.iconst 1, 1) := by decide +kernel
theorem d_X13_later_131 : decode cX13_later 131 = .ok (.iadd, 1) := by decide +kernel
theorem d_X13_later_132 : decode cX13_later 132 = .ok (.iastore, 1) := by decide +kernel
theorem d_X13_later_133 : decode cX13_later 133 = .ok (.iinc 3 1, 3) := by decide +kernel
theorem d_X13_later_136 : decode cX13_later 136 = .ok (.goto (-28), 3) := by decide +kernel
theorem d_X13_later_139 : decode cX13_later 139 = .ok (.iconst 0, 1) := by decide +kernel
theorem d_X13_later_140 : decode cX13_later 140 = .ok (.istore_n 3, 1) := by decide +kernel
theorem d_X13_later_141 : decode cX13_later 141 = .ok (.iconst 1, 1) := by decide +kernel
theorem d_X13_later_142 : decode cX13_later 142 = .ok (.istore 4, 2) := by decide +kernel
theorem d_X13_later_144 : decode cX13_later 144 = .ok (.iload 4, 2) := by decide +kernel
theorem d_X13_later_146 : decode cX13_later 146 = .ok (.aload_n 0, 1) := by decide +kernel
theorem d_X13_later_147 : decode cX13_later 147 = .ok (.getfield 7, 3) := by decide +kernel
theorem d_X13_later_150 : decode cX13_later 150 = .ok (.iconst 1, 1) := by decide +kernel
theorem d_X13_later_151 : decode cX13_later 151 = .ok (.iaload, 1) := by decide +kernel
theorem d_X13_later_152 : decode cX13_later 152 = .ok (.if_icmp .gt 26, 3) := by decide +kernel
theorem d_X13_later_155 : decode cX13_later 155 = .ok (.iload_n 3, 1) := by decide +kernel
theorem d_X13_later_156 : decode cX13_later 156 = .ok (.aload_n 0, 1) := by decide +kernel
theorem d_X13_later_157 : decode cX13_later 157 = .ok (.getfield 7, 3) := by decide +kernel
theorem d_X13_later_160 : decode cX13_later 160 = .ok (.bipush 46, 2) := by decide +kernel
theorem d_X13_later_162 : decode cX13_later 162 = .ok (.iconst 4, 1) := by decide +kernel
theorem d_X13_later_163 : decode cX13_later 163 = .ok (.iload 4, 2) := by decide +kernel
theorem d_X13_later_165 : decode cX13_later 165 = .ok (.imul, 1) := by decide +kernel
theorem d_X13_later_166 : decode cX13_later 166 = .ok (.iadd, 1) := by decide +kernel
theorem d_X13_later_167 : decode cX13_later 167 = .ok (.iconst 2, 1) := by decide +kernel
theorem d_X13_later_168 : decode cX13_later 168 = .ok (.iadd, 1) := by decide +kernel
theorem d_X13_later_169 : decode cX13_later 169 = .ok (.iaload, 1) := by decide +kernel
theorem d_X13_later_170 : decode cX13_later 170 = .ok (.iadd, 1) := by decide +kernel
theorem d_X13_later_171 : decode cX13_later 171 = .ok (.istore_n 3, 1) := by decide +kernel
theorem d_X13_later_172 : decode cX13_later 172 = .ok (.iinc 4 1, 3) := by decide +kernel
theorem d_X13_later_175 : decode cX13_later 175 = .ok (.goto (-31), 3) := by decide +kernel
theorem d_X13_later_178 : decode cX13_later 178 = .ok (.iconst 0, 1) := by decide +kernel
theorem d_X13_later_179 : decode cX13_later 179 = .ok (.istore 4, 2) := by decide +kernel
theorem d_X13_later_181 : decode cX13_later 181 = .ok (.iload 4, 2) := by decide +kernel
theorem d_X13_later_183 : decode cX13_later 183 = .ok (.sipush 1530, 3) := by decide +kernel
theorem d_X13_later_186 : decode cX13_later 186 = .ok (.if_icmp .ge 23, 3) := by decide +kernel
theorem d_X13_later_189 : decode cX13_later 189 = .ok (.aload_n 0, 1) := by decide +kernel
theorem d_X13_later_190 : decode cX13_later 190 = .ok (.getfield 7, 3) := by decide +kernel
theorem d_X13_later_193 : decode cX13_later 193 = .ok (.iload 4, 2) := by decide +kernel
theorem d_X13_later_195 : decode cX13_later 195 = .ok (.aload_n 0, 1) := by decide +kernel
theorem d_X13_later_196 : decode cX13_later 196 = .ok (.getfield 41, 3) := by decide +kernel
theorem d_X13_later_199 : decode cX13_later 199 = .ok (.iload 4, 2) := by decide +kernel
theorem d_X13_later_201 : decode cX13_later 201 = .ok (.iaload, 1) := by decide +kernel
theorem d_X13_later_202 : decode cX13_later 202 = .ok (.iastore, 1) := by decide +kernel
theorem d_X13_later_203 : decode cX13_later 203 = .ok (.iinc 4 1, 3) := by decide +kernel
theorem d_X13_later_206 : decode cX13_later 206 = .ok (.goto (-25), 3) := by decide +kernel
theorem d_X13_later_209 : decode cX13_later 209 = .ok (.iload_n 2, 1) := by decide +kernel
theorem d_X13_later_210 : decode cX13_later 210 = .ok (.ifCond .ne 12, 3) := by decide +kernel
theorem d_X13_later_213 : decode cX13_later 213 = .ok (.aload_n 0, 1) := by decide +kernel
theorem d_X13_later_214 : decode cX13_later 214 = .ok (.getfield 44, 3) := by decide +kernel
theorem d_X13_later_217 : decode cX13_later 217 = .ok (.iconst 4, 1) := by decide +kernel
theorem d_X13_later_218 : decode cX13_later 218 = .ok (.iaload, 1) := by decide +kernel
theorem d_X13_later_219 : decode cX13_later 219 = .ok (.goto 60, 3) := by decide +kernel
theorem d_X13_later_222 : decode cX13_later 222 = .ok (.iload_n 2, 1) := by decide +kernel
theorem d_X13_later_223 : decode cX13_later 223 = .ok (.iconst 1, 1) := by decide +kernel
theorem d_X13_later_224 : decode cX13_later 224 = .ok (.if_icmp .ne 12, 3) := by decide +kernel
theorem d_X13_later_227 : decode cX13_later 227 = .ok (.aload_n 0, 1) := by decide +kernel
theorem d_X13_later_228 : decode cX13_later 228 = .ok (.getfield 44, 3) := by decide +kernel
theorem d_X13_later_231 : decode cX13_later 231 = .ok (.iconst 3, 1) := by decide +kernel
theorem d_X13_later_232 : decode cX13_later 232 = .ok (.iaload, 1) := by decide +kernel
theorem d_X13_later_233 : decode cX13_later 233 = .ok (.goto 46, 3) := by decide +kernel
theorem d_X13_later_236 : decode cX13_later 236 = .ok (.iload_n 2, 1) := by decide +kernel
theorem d_X13_later_237 : decode cX13_later 237 = .ok (.iconst 2, 1) := by decide +kernel
theorem d_X13_later_238 : decode cX13_later 238 = .ok (.if_icmp .ne 12, 3) := by decide +kernel
theorem d_X13_later_241 : decode cX13_later 241 = .ok (.aload_n 0, 1) := by decide +kernel
theorem d_X13_later_242 : decode cX13_later 242 = .ok (.getfield 44, 3) := by decide +kernel
theorem d_X13_later_245 : decode cX13_later 245 = .ok (.iconst 2, 1) := by decide +kernel
theorem d_X13_later_246 : decode cX13_later 246 = .ok (.iaload, 1) := by decide +kernel
theorem d_X13_later_247 : decode cX13_later 247 = .ok (.goto 32, 3) := by decide +kernel
theorem d_X13_later_250 : decode cX13_later 250 = .ok (.iload_n 2, 1) := by decide +kernel
theorem d_X13_later_251 : decode cX13_later 251 = .ok (.iconst 3, 1) := by decide +kernel
theorem d_X13_later_252 : decode cX13_later 252 = .ok (.if_icmp .ne 7, 3) := by decide +kernel
theorem d_X13_later_255 : decode cX13_later 255 = .ok (.iload_n 3, 1) := by decide +kernel
theorem d_X13_later_256 : decode cX13_later 256 = .ok (.goto 23, 3) := by decide +kernel
theorem d_X13_later_259 : decode cX13_later 259 = .ok (.iload_n 2, 1) := by decide +kernel
theorem d_X13_later_260 : decode cX13_later 260 = .ok (.iconst 4, 1) := by decide +kernel
theorem d_X13_later_261 : decode cX13_later 261 = .ok (.if_icmp .ne 12, 3) := by decide +kernel
theorem d_X13_later_264 : decode cX13_later 264 = .ok (.aload_n 0, 1) := by decide +kernel
theorem d_X13_later_265 : decode cX13_later 265 = .ok (.getfield 44, 3) := by decide +kernel
theorem d_X13_later_268 : decode cX13_later 268 = .ok (.iconst 0, 1) := by decide +kernel
theorem d_X13_later_269 : decode cX13_later 269 = .ok (.iaload, 1) := by decide +kernel
theorem d_X13_later_270 : decode cX13_later 270 = .ok (.goto 9, 3) := by decide +kernel
theorem d_X13_later_273 : decode cX13_later 273 = .ok (.aload_n 0, 1) := by decide +kernel
theorem d_X13_later_274 : decode cX13_later 274 = .ok (.getfield 44, 3) := by decide +kernel
theorem d_X13_later_277 : decode cX13_later 277 = .ok (.iconst 1, 1) := by decide +kernel
theorem d_X13_later_278 : decode cX13_later 278 = .ok (.iaload, 1) := by decide +kernel
theorem d_X13_later_279 : decode cX13_later 279 = .ok (.ireturn, 1) := by decide +kernel
abbrev rm_X13_later : Room := { frames := 44, cells := 0, slots := 0, locals := 998 }
def B_X13_later_279 (post : Int32 → (Nat → Nat → Int32) → Prop) (s0 : Int32) (mm : (Nat → Nat → Int32)) : Prop := post s0 mm
def B_X13_later_181 (post : Int32 → (Nat → Nat → Int32) → Prop) : Nat → Int32 → Int32 → Int32 → (Nat → Nat → Int32) → Prop
  | 0 => fun _ _ _ _ => False
  | n + 1 => fun v2 v3 v4 mm => (1530 ≤ v4 → ((¬ v2 = 0 → ((¬ v2 = 1 → ((¬ v2 = 2 → ((¬ v2 = 3 → ((¬ v2 = 4 → (B_X13_later_279 post (mm 11 (Int32.toNatClampNeg (1 : Int32))) mm)) ∧ (v2 = 4 → (B_X13_later_279 post (mm 11 (Int32.toNatClampNeg (0 : Int32))) mm)))) ∧ (v2 = 3 → (B_X13_later_279 post v3 mm)))) ∧ (v2 = 2 → (B_X13_later_279 post (mm 11 (Int32.toNatClampNeg (2 : Int32))) mm)))) ∧ (v2 = 1 → (B_X13_later_279 post (mm 11 (Int32.toNatClampNeg (3 : Int32))) mm)))) ∧ (v2 = 0 → (B_X13_later_279 post (mm 11 (Int32.toNatClampNeg (4 : Int32))) mm)))) ∧ (¬ 1530 ≤ v4 → ((vp_in v4 1530) ∧ (vp_in v4 25530) ∧ B_X13_later_181 post n v2 v3 (v4 + 1) (up2 mm 1 (Int32.toNatClampNeg v4) (mm 10 (Int32.toNatClampNeg v4)))))
def B_X13_later_144 (post : Int32 → (Nat → Nat → Int32) → Prop) : Nat → Int32 → Int32 → Int32 → (Nat → Nat → Int32) → Prop
  | 0 => fun _ _ _ _ => False
  | n + 1 => fun v2 v3 v4 mm => ((mm 1 (Int32.toNatClampNeg (1 : Int32))) < v4 → (∃ n181, B_X13_later_181 post n181 v2 v3 0 mm)) ∧ (¬ (mm 1 (Int32.toNatClampNeg (1 : Int32))) < v4 → ((vp_in ((46 + (4 * v4)) + 2) 25530) ∧ B_X13_later_144 post n v2 (v3 + (mm 1 (Int32.toNatClampNeg ((46 + (4 * v4)) + 2)))) (v4 + 1) mm))
def B_X13_later_108 (post : Int32 → (Nat → Nat → Int32) → Prop) : Nat → Int32 → Int32 → (Nat → Nat → Int32) → Prop
  | 0 => fun _ _ _ => False
  | n + 1 => fun v2 v3 mm => ((mm 1 (Int32.toNatClampNeg (2 : Int32))) ≤ v3 → (∃ n144, B_X13_later_144 post n144 v2 0 1 mm)) ∧ (¬ (mm 1 (Int32.toNatClampNeg (2 : Int32))) ≤ v3 → (w_X13_chipOf (fun (r10 : Int32) (u11 : (Nat → Nat → Int32)) => (vp_in r10 5) ∧ (vp_in r10 5) ∧ B_X13_later_108 post n v2 (v3 + 1) (up2 u11 11 (Int32.toNatClampNeg r10) ((u11 11 (Int32.toNatClampNeg r10)) + 1))) v3 0 mm))
def B_X13_later_88 (post : Int32 → (Nat → Nat → Int32) → Prop) : Nat → Int32 → Int32 → (Nat → Nat → Int32) → Prop
  | 0 => fun _ _ _ => False
  | n + 1 => fun v2 v3 mm => (5 ≤ v3 → (∃ n108, B_X13_later_108 post n108 v2 0 mm)) ∧ (¬ 5 ≤ v3 → ((vp_in v3 5) ∧ B_X13_later_88 post n v2 (v3 + 1) (up2 mm 11 (Int32.toNatClampNeg v3) 0)))
def B_X13_later_71 (post : Int32 → (Nat → Nat → Int32) → Prop) : Nat → Int32 → Int32 → Int32 → (Nat → Nat → Int32) → Prop
  | 0 => fun _ _ _ _ => False
  | n + 1 => fun v1 v2 v3 mm => (v1 ≤ v3 → (∃ n88, B_X13_later_88 post n88 v2 0 mm)) ∧ (¬ v1 ≤ v3 → (w_X13_minute (fun (u8 : (Nat → Nat → Int32)) => B_X13_later_71 post n v1 v2 (v3 + 1) u8)  mm))
def B_X13_later_44 (post : Int32 → (Nat → Nat → Int32) → Prop) : Nat → Int32 → Int32 → Int32 → (Nat → Nat → Int32) → Prop
  | 0 => fun _ _ _ _ => False
  | n + 1 => fun v1 v2 v3 mm => (1530 ≤ v3 → (∃ n71, B_X13_later_71 post n71 v1 v2 0 mm)) ∧ (¬ 1530 ≤ v3 → ((vp_in v3 25530) ∧ (vp_in v3 1530) ∧ B_X13_later_44 post n v1 v2 (v3 + 1) (up2 mm 10 (Int32.toNatClampNeg v3) (mm 1 (Int32.toNatClampNeg v3)))))
def B_X13_later_30 (post : Int32 → (Nat → Nat → Int32) → Prop) (v1 : Int32) (v2 : Int32) (s0 : Int32) (mm : (Nat → Nat → Int32)) : Prop := (((up2 mm 0 0 s0) 0 0) ≤ 0 → (∃ n44, B_X13_later_44 post n44 v1 v2 0 (up2 mm 0 0 s0))) ∧ (¬ ((up2 mm 0 0 s0) 0 0) ≤ 0 → (post 0 (up2 mm 0 0 s0)))
def w_X13_later (post : Int32 → (Nat → Nat → Int32) → Prop) (x1 : Int32) (x2 : Int32) (mm : (Nat → Nat → Int32)) : Prop := w_X13_isIn (fun (r1 : Bool) (u2 : (Nat → Nat → Int32)) => (¬ (r1 = false) → (w_X13_isIn (fun (r3 : Bool) (u4 : (Nat → Nat → Int32)) => (¬ (r3 = false) → (B_X13_later_30 post x1 x2 0 u4)) ∧ ((r3 = false) → (B_X13_later_30 post x1 x2 2 u4))) x2 0 5 u2)) ∧ ((r1 = false) → (B_X13_later_30 post x1 x2 1 u2))) x1 0 2000 mm
section G_X13_later
variable {p : Program} {l : Launch} {e : Env} {s : State} {m : MethodId} {args : Array Value} {below : List Frame} {meth : Method} {c : Code} {G : Gd} {ρ : Nat → Nat} {A : Nat → Prop} {cm : CMu} {oo : Nat → Int64}
set_option maxHeartbeats 4000000 in
set_option maxRecDepth 100000 in
theorem T_X13_later_279 {post : Int32 → (Nat → Nat → Int32) → Prop} (hl : l.stackTraces = false) (X : MC p l s m args meth c cX13_later 5 RX13 G ρ A) (hr : meth.sig.returnType = (some .int)) (hex : ∀ z ∈ c.exceptionTable.toList, False) : ∀ (s0 : Int32) (mm : (Nat → Nat → Int32)), B_X13_later_279 post s0 mm → LW p l e rm_X13_later s m args below meth c (Qm below G ρ A (PI (fun u => (cm, u, oo)) post) noX args s 0 0) G ρ A 5 0 0 279 [] [.int s0] (cm, mm, oo) := by
  intro s0 mm h
  unfold B_X13_later_279 at h
  exact L_iret (pc := 279) X hr d_X13_later_279 (by decide) (by decide) ⟨_, _, rfl, rfl, h⟩
set_option maxHeartbeats 4000000 in
set_option maxRecDepth 100000 in
theorem T_X13_later_181 {post : Int32 → (Nat → Nat → Int32) → Prop} (hl : l.stackTraces = false) (X : MC p l s m args meth c cX13_later 5 RX13 G ρ A) (hr : meth.sig.returnType = (some .int)) (hex : ∀ z ∈ c.exceptionTable.toList, False) (n : Nat) : ∀ (v2 : Int32) (v3 : Int32) (v4 : Int32) (mm : (Nat → Nat → Int32)), B_X13_later_181 post n v2 v3 v4 mm → LW p l e rm_X13_later s m args below meth c (Qm below G ρ A (PI (fun u => (cm, u, oo)) post) noX args s 0 0) G ρ A 5 0 0 181 [(0, .ref 703), (2, .int v2), (3, .int v3), (4, .int v4)] [] (cm, mm, oo) := by
  induction n with
  | zero =>
    intro v2 v3 v4 mm h
    exact False.elim h
  | succ n ih =>
    intro v2 v3 v4 mm h
    unfold B_X13_later_181 at h
    refine L_iload (pc := 181) X d_X13_later_181 3 rfl ?_
    refine L_sipush (pc := 183) (v := 1530) X d_X13_later_183 (by decide) ?_
    refine L_icmp_ge (pc := 186) (tgt := 209) X d_X13_later_186 (by decide) (fun c186 => ?_) (fun c186 => ?_)
    · replace h := h.1 c186
      refine L_iload_n (pc := 209) X d_X13_later_209 rfl 1 rfl ?_
      refine L_if_ne (pc := 210) (tgt := 222) X d_X13_later_210 (by decide) (fun c210 => ?_) (fun c210 => ?_)
      · replace h := h.1 c210
        refine L_iload_n (pc := 222) X d_X13_later_222 rfl 1 rfl ?_
        refine L_iconst (pc := 223) (v := 1) X d_X13_later_223 (by decide) ?_
        refine L_icmp_ne (pc := 224) (tgt := 236) X d_X13_later_224 (by decide) (fun c224 => ?_) (fun c224 => ?_)
        · replace h := h.1 c224
          refine L_iload_n (pc := 236) X d_X13_later_236 rfl 1 rfl ?_
          refine L_iconst (pc := 237) (v := 2) X d_X13_later_237 (by decide) ?_
          refine L_icmp_ne (pc := 238) (tgt := 250) X d_X13_later_238 (by decide) (fun c238 => ?_) (fun c238 => ?_)
          · replace h := h.1 c238
            refine L_iload_n (pc := 250) X d_X13_later_250 rfl 1 rfl ?_
            refine L_iconst (pc := 251) (v := 3) X d_X13_later_251 (by decide) ?_
            refine L_icmp_ne (pc := 252) (tgt := 259) X d_X13_later_252 (by decide) (fun c252 => ?_) (fun c252 => ?_)
            · replace h := h.1 c252
              refine L_iload_n (pc := 259) X d_X13_later_259 rfl 1 rfl ?_
              refine L_iconst (pc := 260) (v := 4) X d_X13_later_260 (by decide) ?_
              refine L_icmp_ne (pc := 261) (tgt := 273) X d_X13_later_261 (by decide) (fun c261 => ?_) (fun c261 => ?_)
              · replace h := h.1 c261
                refine L_aload_n (pc := 273) X d_X13_later_273 rfl 0 rfl ?_
                refine gf_X13_44 (pc := 274) X d_X13_later_274 ?_
                refine L_iconst (pc := 277) (v := 1) X d_X13_later_277 (by decide) ?_
                refine L_ialdM (pc := 278) (a := 11) X d_X13_later_278 kd_714 (by unfold vp_in; decide) ?_
                refine LW.sub [] rfl ?_
                exact T_X13_later_279 hl X hr hex _  _ h
              · replace h := h.2 c261
                refine L_aload_n (pc := 264) X d_X13_later_264 rfl 0 rfl ?_
                refine gf_X13_44 (pc := 265) X d_X13_later_265 ?_
                refine L_iconst (pc := 268) (v := 0) X d_X13_later_268 (by decide) ?_
                refine L_ialdM (pc := 269) (a := 11) X d_X13_later_269 kd_714 (by unfold vp_in; decide) ?_
                refine L_goto (pc := 270) (tgt := 279) X d_X13_later_270 (by decide) ?_
                refine LW.sub [] rfl ?_
                exact T_X13_later_279 hl X hr hex _  _ h
            · replace h := h.2 c252
              refine L_iload_n (pc := 255) X d_X13_later_255 rfl 2 rfl ?_
              refine L_goto (pc := 256) (tgt := 279) X d_X13_later_256 (by decide) ?_
              refine LW.sub [] rfl ?_
              exact T_X13_later_279 hl X hr hex _  _ h
          · replace h := h.2 c238
            refine L_aload_n (pc := 241) X d_X13_later_241 rfl 0 rfl ?_
            refine gf_X13_44 (pc := 242) X d_X13_later_242 ?_
            refine L_iconst (pc := 245) (v := 2) X d_X13_later_245 (by decide) ?_
            refine L_ialdM (pc := 246) (a := 11) X d_X13_later_246 kd_714 (by unfold vp_in; decide) ?_
            refine L_goto (pc := 247) (tgt := 279) X d_X13_later_247 (by decide) ?_
            refine LW.sub [] rfl ?_
            exact T_X13_later_279 hl X hr hex _  _ h
        · replace h := h.2 c224
          refine L_aload_n (pc := 227) X d_X13_later_227 rfl 0 rfl ?_
          refine gf_X13_44 (pc := 228) X d_X13_later_228 ?_
          refine L_iconst (pc := 231) (v := 3) X d_X13_later_231 (by decide) ?_
          refine L_ialdM (pc := 232) (a := 11) X d_X13_later_232 kd_714 (by unfold vp_in; decide) ?_
          refine L_goto (pc := 233) (tgt := 279) X d_X13_later_233 (by decide) ?_
          refine LW.sub [] rfl ?_
          exact T_X13_later_279 hl X hr hex _  _ h
      · replace h := h.2 c210
        refine L_aload_n (pc := 213) X d_X13_later_213 rfl 0 rfl ?_
        refine gf_X13_44 (pc := 214) X d_X13_later_214 ?_
        refine L_iconst (pc := 217) (v := 4) X d_X13_later_217 (by decide) ?_
        refine L_ialdM (pc := 218) (a := 11) X d_X13_later_218 kd_714 (by unfold vp_in; decide) ?_
        refine L_goto (pc := 219) (tgt := 279) X d_X13_later_219 (by decide) ?_
        refine LW.sub [] rfl ?_
        exact T_X13_later_279 hl X hr hex _  _ h
    · replace h := h.2 c186
      refine L_aload_n (pc := 189) X d_X13_later_189 rfl 0 rfl ?_
      refine gf_X13_7 (pc := 190) X d_X13_later_190 ?_
      refine L_iload (pc := 193) X d_X13_later_193 3 rfl ?_
      refine L_aload_n (pc := 195) X d_X13_later_195 rfl 0 rfl ?_
      refine gf_X13_41 (pc := 196) X d_X13_later_196 ?_
      refine L_iload (pc := 199) X d_X13_later_199 3 rfl ?_
      obtain ⟨q15, h⟩ := h
      refine L_ialdM (pc := 201) (a := 10) X d_X13_later_201 kd_713 q15 ?_
      obtain ⟨q16, h⟩ := h
      refine L_iastM (pc := 202) (a := 1) X d_X13_later_202 kd_704 q16 ?_
      refine L_iinc (pc := 203) (v := v4 + 1) (lv2 := [(4, .int (v4 + 1)), (0, .ref 703), (2, .int v2), (3, .int v3)]) X d_X13_later_203 3 rfl rfl (by decide) rfl ?_
      refine L_goto (pc := 206) (tgt := 181) X d_X13_later_206 (by decide) ?_
      refine LW.sub [1, 2, 3, 0] rfl ?_
      exact ih _ _ _  _ h
set_option maxHeartbeats 4000000 in
set_option maxRecDepth 100000 in
theorem T_X13_later_144 {post : Int32 → (Nat → Nat → Int32) → Prop} (hl : l.stackTraces = false) (X : MC p l s m args meth c cX13_later 5 RX13 G ρ A) (hr : meth.sig.returnType = (some .int)) (hex : ∀ z ∈ c.exceptionTable.toList, False) (n : Nat) : ∀ (v2 : Int32) (v3 : Int32) (v4 : Int32) (mm : (Nat → Nat → Int32)), B_X13_later_144 post n v2 v3 v4 mm → LW p l e rm_X13_later s m args below meth c (Qm below G ρ A (PI (fun u => (cm, u, oo)) post) noX args s 0 0) G ρ A 5 0 0 144 [(0, .ref 703), (2, .int v2), (3, .int v3), (4, .int v4)] [] (cm, mm, oo) := by
  induction n with
  | zero =>
    intro v2 v3 v4 mm h
    exact False.elim h
  | succ n ih =>
    intro v2 v3 v4 mm h
    unfold B_X13_later_144 at h
    refine L_iload (pc := 144) X d_X13_later_144 3 rfl ?_
    refine L_aload_n (pc := 146) X d_X13_later_146 rfl 0 rfl ?_
    refine gf_X13_7 (pc := 147) X d_X13_later_147 ?_
    refine L_iconst (pc := 150) (v := 1) X d_X13_later_150 (by decide) ?_
    refine L_ialdM (pc := 151) (a := 1) X d_X13_later_151 kd_704 (by unfold vp_in; decide) ?_
    refine L_icmp_gt (pc := 152) (tgt := 178) X d_X13_later_152 (by decide) (fun c152 => ?_) (fun c152 => ?_)
    · replace h := h.1 c152
      refine L_iconst (pc := 178) (v := 0) X d_X13_later_178 (by decide) ?_
      refine L_istore (pc := 179) (lv2 := [(4, .int 0), (0, .ref 703), (2, .int v2), (3, .int v3)]) X d_X13_later_179 (by decide) rfl ?_
      obtain ⟨n181, h⟩ := h
      refine LW.sub [1, 2, 3, 0] rfl ?_
      exact T_X13_later_181 hl X hr hex n181 _ _ _  _ h
    · replace h := h.2 c152
      refine L_iload_n (pc := 155) X d_X13_later_155 rfl 2 rfl ?_
      refine L_aload_n (pc := 156) X d_X13_later_156 rfl 0 rfl ?_
      refine gf_X13_7 (pc := 157) X d_X13_later_157 ?_
      refine L_bipush (pc := 160) (v := 46) X d_X13_later_160 (by decide) ?_
      refine L_iconst (pc := 162) (v := 4) X d_X13_later_162 (by decide) ?_
      refine L_iload (pc := 163) X d_X13_later_163 3 rfl ?_
      refine L_imul (pc := 165) X d_X13_later_165 ?_
      refine L_iadd (pc := 166) X d_X13_later_166 ?_
      refine L_iconst (pc := 167) (v := 2) X d_X13_later_167 (by decide) ?_
      refine L_iadd (pc := 168) X d_X13_later_168 ?_
      obtain ⟨q14, h⟩ := h
      refine L_ialdM (pc := 169) (a := 1) X d_X13_later_169 kd_704 q14 ?_
      refine L_iadd (pc := 170) X d_X13_later_170 ?_
      refine L_istore_n (pc := 171) (lv2 := [(3, .int (v3 + (mm 1 (Int32.toNatClampNeg ((46 + (4 * v4)) + 2))))), (0, .ref 703), (2, .int v2), (4, .int v4)]) X d_X13_later_171 rfl (by decide) rfl ?_
      refine L_iinc (pc := 172) (v := v4 + 1) (lv2 := [(4, .int (v4 + 1)), (3, .int (v3 + (mm 1 (Int32.toNatClampNeg ((46 + (4 * v4)) + 2))))), (0, .ref 703), (2, .int v2)]) X d_X13_later_172 3 rfl rfl (by decide) rfl ?_
      refine L_goto (pc := 175) (tgt := 144) X d_X13_later_175 (by decide) ?_
      refine LW.sub [2, 3, 1, 0] rfl ?_
      exact ih _ _ _  _ h
set_option maxHeartbeats 4000000 in
set_option maxRecDepth 100000 in
theorem T_X13_later_108 {post : Int32 → (Nat → Nat → Int32) → Prop} (hl : l.stackTraces = false) (X : MC p l s m args meth c cX13_later 5 RX13 G ρ A) (hr : meth.sig.returnType = (some .int)) (hex : ∀ z ∈ c.exceptionTable.toList, False) (n : Nat) : ∀ (v2 : Int32) (v3 : Int32) (mm : (Nat → Nat → Int32)), B_X13_later_108 post n v2 v3 mm → LW p l e rm_X13_later s m args below meth c (Qm below G ρ A (PI (fun u => (cm, u, oo)) post) noX args s 0 0) G ρ A 5 0 0 108 [(0, .ref 703), (2, .int v2), (3, .int v3)] [] (cm, mm, oo) := by
  induction n with
  | zero =>
    intro v2 v3 mm h
    exact False.elim h
  | succ n ih =>
    intro v2 v3 mm h
    unfold B_X13_later_108 at h
    refine L_iload_n (pc := 108) X d_X13_later_108 rfl 2 rfl ?_
    refine L_aload_n (pc := 109) X d_X13_later_109 rfl 0 rfl ?_
    refine gf_X13_7 (pc := 110) X d_X13_later_110 ?_
    refine L_iconst (pc := 113) (v := 2) X d_X13_later_113 (by decide) ?_
    refine L_ialdM (pc := 114) (a := 1) X d_X13_later_114 kd_704 (by unfold vp_in; decide) ?_
    refine L_icmp_ge (pc := 115) (tgt := 139) X d_X13_later_115 (by decide) (fun c115 => ?_) (fun c115 => ?_)
    · replace h := h.1 c115
      refine L_iconst (pc := 139) (v := 0) X d_X13_later_139 (by decide) ?_
      refine L_istore_n (pc := 140) (lv2 := [(3, .int 0), (0, .ref 703), (2, .int v2)]) X d_X13_later_140 rfl (by decide) rfl ?_
      refine L_iconst (pc := 141) (v := 1) X d_X13_later_141 (by decide) ?_
      refine L_istore (pc := 142) (lv2 := [(4, .int 1), (3, .int 0), (0, .ref 703), (2, .int v2)]) X d_X13_later_142 (by decide) rfl ?_
      obtain ⟨n144, h⟩ := h
      refine LW.sub [2, 3, 1, 0] rfl ?_
      exact T_X13_later_144 hl X hr hex n144 _ _ _  _ h
    · replace h := h.2 c115
      refine L_aload_n (pc := 118) X d_X13_later_118 rfl 0 rfl ?_
      refine gf_X13_44 (pc := 119) X d_X13_later_119 ?_
      refine L_aload_n (pc := 122) X d_X13_later_122 rfl 0 rfl ?_
      refine L_iload_n (pc := 123) X d_X13_later_123 rfl 2 rfl ?_
      refine L_iconst (pc := 124) (v := 0) X d_X13_later_124 (by decide) ?_
      refine L_callVI (pc := 125) X lk_X13_132 (c_X13_chipOf X.hst  h) rfl rfl kd_703 (by decide) rfl rfl ⟨by decide, by decide⟩ ⟨by decide, by decide⟩ (Nat.le_of_ble_eq_true rfl) d_X13_later_125 rfl (fun x κ1 hx => L_nox hx) (fun r10 u11 h => ?_)
      refine L_dup2 (pc := 128) X d_X13_later_128 rfl rfl ?_
      obtain ⟨q12, h⟩ := h
      refine L_ialdM (pc := 129) (a := 11) X d_X13_later_129 kd_714 q12 ?_
      refine L_iconst (pc := 130) (v := 1) X d_X13_later_130 (by decide) ?_
      refine L_iadd (pc := 131) X d_X13_later_131 ?_
      obtain ⟨q13, h⟩ := h
      refine L_iastM (pc := 132) (a := 11) X d_X13_later_132 kd_714 q13 ?_
      refine L_iinc (pc := 133) (v := v3 + 1) (lv2 := [(3, .int (v3 + 1)), (0, .ref 703), (2, .int v2)]) X d_X13_later_133 2 rfl rfl (by decide) rfl ?_
      refine L_goto (pc := 136) (tgt := 108) X d_X13_later_136 (by decide) ?_
      refine LW.sub [1, 2, 0] rfl ?_
      exact ih _ _  _ h
set_option maxHeartbeats 4000000 in
set_option maxRecDepth 100000 in
theorem T_X13_later_88 {post : Int32 → (Nat → Nat → Int32) → Prop} (hl : l.stackTraces = false) (X : MC p l s m args meth c cX13_later 5 RX13 G ρ A) (hr : meth.sig.returnType = (some .int)) (hex : ∀ z ∈ c.exceptionTable.toList, False) (n : Nat) : ∀ (v2 : Int32) (v3 : Int32) (mm : (Nat → Nat → Int32)), B_X13_later_88 post n v2 v3 mm → LW p l e rm_X13_later s m args below meth c (Qm below G ρ A (PI (fun u => (cm, u, oo)) post) noX args s 0 0) G ρ A 5 0 0 88 [(0, .ref 703), (2, .int v2), (3, .int v3)] [] (cm, mm, oo) := by
  induction n with
  | zero =>
    intro v2 v3 mm h
    exact False.elim h
  | succ n ih =>
    intro v2 v3 mm h
    unfold B_X13_later_88 at h
    refine L_iload_n (pc := 88) X d_X13_later_88 rfl 2 rfl ?_
    refine L_iconst (pc := 89) (v := 5) X d_X13_later_89 (by decide) ?_
    refine L_icmp_ge (pc := 90) (tgt := 106) X d_X13_later_90 (by decide) (fun c90 => ?_) (fun c90 => ?_)
    · replace h := h.1 c90
      refine L_iconst (pc := 106) (v := 0) X d_X13_later_106 (by decide) ?_
      refine L_istore_n (pc := 107) (lv2 := [(3, .int 0), (0, .ref 703), (2, .int v2)]) X d_X13_later_107 rfl (by decide) rfl ?_
      obtain ⟨n108, h⟩ := h
      refine LW.sub [1, 2, 0] rfl ?_
      exact T_X13_later_108 hl X hr hex n108 _ _  _ h
    · replace h := h.2 c90
      refine L_aload_n (pc := 93) X d_X13_later_93 rfl 0 rfl ?_
      refine gf_X13_44 (pc := 94) X d_X13_later_94 ?_
      refine L_iload_n (pc := 97) X d_X13_later_97 rfl 2 rfl ?_
      refine L_iconst (pc := 98) (v := 0) X d_X13_later_98 (by decide) ?_
      obtain ⟨q9, h⟩ := h
      refine L_iastM (pc := 99) (a := 11) X d_X13_later_99 kd_714 q9 ?_
      refine L_iinc (pc := 100) (v := v3 + 1) (lv2 := [(3, .int (v3 + 1)), (0, .ref 703), (2, .int v2)]) X d_X13_later_100 2 rfl rfl (by decide) rfl ?_
      refine L_goto (pc := 103) (tgt := 88) X d_X13_later_103 (by decide) ?_
      refine LW.sub [1, 2, 0] rfl ?_
      exact ih _ _  _ h
set_option maxHeartbeats 4000000 in
set_option maxRecDepth 100000 in
theorem T_X13_later_71 {post : Int32 → (Nat → Nat → Int32) → Prop} (hl : l.stackTraces = false) (X : MC p l s m args meth c cX13_later 5 RX13 G ρ A) (hr : meth.sig.returnType = (some .int)) (hex : ∀ z ∈ c.exceptionTable.toList, False) (n : Nat) : ∀ (v1 : Int32) (v2 : Int32) (v3 : Int32) (mm : (Nat → Nat → Int32)), B_X13_later_71 post n v1 v2 v3 mm → LW p l e rm_X13_later s m args below meth c (Qm below G ρ A (PI (fun u => (cm, u, oo)) post) noX args s 0 0) G ρ A 5 0 0 71 [(0, .ref 703), (1, .int v1), (2, .int v2), (3, .int v3)] [] (cm, mm, oo) := by
  induction n with
  | zero =>
    intro v1 v2 v3 mm h
    exact False.elim h
  | succ n ih =>
    intro v1 v2 v3 mm h
    unfold B_X13_later_71 at h
    refine L_iload_n (pc := 71) X d_X13_later_71 rfl 3 rfl ?_
    refine L_iload_n (pc := 72) X d_X13_later_72 rfl 1 rfl ?_
    refine L_icmp_ge (pc := 73) (tgt := 86) X d_X13_later_73 (by decide) (fun c73 => ?_) (fun c73 => ?_)
    · replace h := h.1 c73
      refine L_iconst (pc := 86) (v := 0) X d_X13_later_86 (by decide) ?_
      refine L_istore_n (pc := 87) (lv2 := [(3, .int 0), (0, .ref 703), (1, .int v1), (2, .int v2)]) X d_X13_later_87 rfl (by decide) rfl ?_
      obtain ⟨n88, h⟩ := h
      refine LW.sub [1, 3, 0] rfl ?_
      exact T_X13_later_88 hl X hr hex n88 _ _  _ h
    · replace h := h.2 c73
      refine L_aload_n (pc := 76) X d_X13_later_76 rfl 0 rfl ?_
      refine L_callVV (pc := 77) X lk_X13_241 (c_X13_minute X.hst  h) rfl rfl kd_703 (by decide) rfl rfl ⟨by decide, by decide⟩ ⟨by decide, by decide⟩ (Nat.zero_le _) d_X13_later_77 rfl (fun x κ1 hx => L_nox hx) (fun u8 h => ?_)
      refine L_iinc (pc := 80) (v := v3 + 1) (lv2 := [(3, .int (v3 + 1)), (0, .ref 703), (1, .int v1), (2, .int v2)]) X d_X13_later_80 3 rfl rfl (by decide) rfl ?_
      refine L_goto (pc := 83) (tgt := 71) X d_X13_later_83 (by decide) ?_
      refine LW.sub [1, 2, 3, 0] rfl ?_
      exact ih _ _ _  _ h
set_option maxHeartbeats 4000000 in
set_option maxRecDepth 100000 in
theorem T_X13_later_44 {post : Int32 → (Nat → Nat → Int32) → Prop} (hl : l.stackTraces = false) (X : MC p l s m args meth c cX13_later 5 RX13 G ρ A) (hr : meth.sig.returnType = (some .int)) (hex : ∀ z ∈ c.exceptionTable.toList, False) (n : Nat) : ∀ (v1 : Int32) (v2 : Int32) (v3 : Int32) (mm : (Nat → Nat → Int32)), B_X13_later_44 post n v1 v2 v3 mm → LW p l e rm_X13_later s m args below meth c (Qm below G ρ A (PI (fun u => (cm, u, oo)) post) noX args s 0 0) G ρ A 5 0 0 44 [(0, .ref 703), (1, .int v1), (2, .int v2), (3, .int v3)] [] (cm, mm, oo) := by
  induction n with
  | zero =>
    intro v1 v2 v3 mm h
    exact False.elim h
  | succ n ih =>
    intro v1 v2 v3 mm h
    unfold B_X13_later_44 at h
    refine L_iload_n (pc := 44) X d_X13_later_44 rfl 3 rfl ?_
    refine L_sipush (pc := 45) (v := 1530) X d_X13_later_45 (by decide) ?_
    refine L_icmp_ge (pc := 48) (tgt := 69) X d_X13_later_48 (by decide) (fun c48 => ?_) (fun c48 => ?_)
    · replace h := h.1 c48
      refine L_iconst (pc := 69) (v := 0) X d_X13_later_69 (by decide) ?_
      refine L_istore_n (pc := 70) (lv2 := [(3, .int 0), (0, .ref 703), (1, .int v1), (2, .int v2)]) X d_X13_later_70 rfl (by decide) rfl ?_
      obtain ⟨n71, h⟩ := h
      refine LW.sub [1, 2, 3, 0] rfl ?_
      exact T_X13_later_71 hl X hr hex n71 _ _ _  _ h
    · replace h := h.2 c48
      refine L_aload_n (pc := 51) X d_X13_later_51 rfl 0 rfl ?_
      refine gf_X13_41 (pc := 52) X d_X13_later_52 ?_
      refine L_iload_n (pc := 55) X d_X13_later_55 rfl 3 rfl ?_
      refine L_aload_n (pc := 56) X d_X13_later_56 rfl 0 rfl ?_
      refine gf_X13_7 (pc := 57) X d_X13_later_57 ?_
      refine L_iload_n (pc := 60) X d_X13_later_60 rfl 3 rfl ?_
      obtain ⟨q5, h⟩ := h
      refine L_ialdM (pc := 61) (a := 1) X d_X13_later_61 kd_704 q5 ?_
      obtain ⟨q6, h⟩ := h
      refine L_iastM (pc := 62) (a := 10) X d_X13_later_62 kd_713 q6 ?_
      refine L_iinc (pc := 63) (v := v3 + 1) (lv2 := [(3, .int (v3 + 1)), (0, .ref 703), (1, .int v1), (2, .int v2)]) X d_X13_later_63 3 rfl rfl (by decide) rfl ?_
      refine L_goto (pc := 66) (tgt := 44) X d_X13_later_66 (by decide) ?_
      refine LW.sub [1, 2, 3, 0] rfl ?_
      exact ih _ _ _  _ h
set_option maxHeartbeats 4000000 in
set_option maxRecDepth 100000 in
theorem T_X13_later_30 {post : Int32 → (Nat → Nat → Int32) → Prop} (hl : l.stackTraces = false) (X : MC p l s m args meth c cX13_later 5 RX13 G ρ A) (hr : meth.sig.returnType = (some .int)) (hex : ∀ z ∈ c.exceptionTable.toList, False) : ∀ (v1 : Int32) (v2 : Int32) (s0 : Int32) (mm : (Nat → Nat → Int32)), B_X13_later_30 post v1 v2 s0 mm → LW p l e rm_X13_later s m args below meth c (Qm below G ρ A (PI (fun u => (cm, u, oo)) post) noX args s 0 0) G ρ A 5 0 0 30 [(0, .ref 703), (1, .int v1), (2, .int v2)] [.int s0, .ref 703] (cm, mm, oo) := by
  intro v1 v2 s0 mm h
  unfold B_X13_later_30 at h
  refine pf_X13_47 (pc := 30) X d_X13_later_30 ?_
  refine L_aload_n (pc := 33) X d_X13_later_33 rfl 0 rfl ?_
  refine gf_X13_47 (pc := 34) X d_X13_later_34 ?_
  refine L_if_le (pc := 37) (tgt := 42) X d_X13_later_37 (by decide) (fun c37 => ?_) (fun c37 => ?_)
  · replace h := h.1 c37
    refine L_iconst (pc := 42) (v := 0) X d_X13_later_42 (by decide) ?_
    refine L_istore_n (pc := 43) (lv2 := [(3, .int 0), (0, .ref 703), (1, .int v1), (2, .int v2)]) X d_X13_later_43 rfl (by decide) rfl ?_
    obtain ⟨n44, h⟩ := h
    refine LW.sub [1, 2, 3, 0] rfl ?_
    exact T_X13_later_44 hl X hr hex n44 _ _ _  _ h
  · replace h := h.2 c37
    refine L_iconst (pc := 40) (v := 0) X d_X13_later_40 (by decide) ?_
    exact L_iret (pc := 41) X hr d_X13_later_41 (by decide) (by decide) ⟨_, _, rfl, rfl, h⟩
set_option maxHeartbeats 4000000 in
set_option maxRecDepth 100000 in
theorem c_X13_later (hl : l.stackTraces = false) {x1 : Int32} {x2 : Int32} {mm : (Nat → Nat → Int32)} {post : Int32 → (Nat → Nat → Int32) → Prop} (h : w_X13_later post x1 x2 mm) : CT l yX13_later (.code yX13_later cX13_later 5 (some .int)) rm_X13_later 0 0 G ρ [.ref 703, .int x1, .int x2] (cm, mm, oo) (PI (fun u => (cm, u, oo)) post) noX := by
  refine CT_of hl (by decide +kernel) rfl (Nat.le_of_ble_eq_true rfl) (lv0 := [(0, .ref 703), (1, .int x1), (2, .int x2)]) rfl (fun p e s m args below meth c A X hr hex hnm => ?_)
  unfold w_X13_later at h
  refine L_aload_n (pc := 0) X d_X13_later_0 rfl 0 rfl ?_
  refine L_iload_n (pc := 1) X d_X13_later_1 rfl 1 rfl ?_
  refine L_iconst (pc := 2) (v := 0) X d_X13_later_2 (by decide) ?_
  refine L_sipush (pc := 3) (v := 2000) X d_X13_later_3 (by decide) ?_
  refine L_callSZ (pc := 6) X lk_X13_50 (c_X13_isIn X.hst  h) rfl rfl rfl ⟨by decide, by decide⟩ ⟨by decide, by decide⟩ (Nat.le_of_ble_eq_true rfl) d_X13_later_6 rfl (fun x κ1 hx => L_nox hx) (fun r1 u2 h => ?_)
  refine L_if_ne (pc := 9) (tgt := 16) X d_X13_later_9 (by decide) (fun c9 => ?_) (fun c9 => ?_)
  · replace h := h.1 (fun z => c9 ((b2_0 _).mpr z))
    refine L_iload_n (pc := 16) X d_X13_later_16 rfl 2 rfl ?_
    refine L_iconst (pc := 17) (v := 0) X d_X13_later_17 (by decide) ?_
    refine L_iconst (pc := 18) (v := 5) X d_X13_later_18 (by decide) ?_
    refine L_callSZ (pc := 19) X lk_X13_50 (c_X13_isIn X.hst  h) rfl rfl rfl ⟨by decide, by decide⟩ ⟨by decide, by decide⟩ (Nat.le_of_ble_eq_true rfl) d_X13_later_19 rfl (fun x κ1 hx => L_nox hx) (fun r3 u4 h => ?_)
    refine L_if_ne (pc := 22) (tgt := 29) X d_X13_later_22 (by decide) (fun c22 => ?_) (fun c22 => ?_)
    · replace h := h.1 (fun z => c22 ((b2_0 _).mpr z))
      refine L_iconst (pc := 29) (v := 0) X d_X13_later_29 (by decide) ?_
      refine LW.sub [0, 1, 2] rfl ?_
      exact T_X13_later_30 hl X hr hex _ _ _  _ h
    · replace h := h.2 ((b2_0 _).mp c22)
      refine L_iconst (pc := 25) (v := 2) X d_X13_later_25 (by decide) ?_
      refine L_goto (pc := 26) (tgt := 30) X d_X13_later_26 (by decide) ?_
      refine LW.sub [0, 1, 2] rfl ?_
      exact T_X13_later_30 hl X hr hex _ _ _  _ h
  · replace h := h.2 ((b2_0 _).mp c9)
    refine L_iconst (pc := 12) (v := 1) X d_X13_later_12 (by decide) ?_
    refine L_goto (pc := 13) (tgt := 30) X d_X13_later_13 (by decide) ?_
    refine LW.sub [0, 1, 2] rfl ?_
    exact T_X13_later_30 hl X hr hex _ _ _  _ h
end G_X13_later
