theorem goodIn_cut {big ws : List Cond} (n : Nat) (h1 : GoodIn big (ws.take n)) (h2 : GoodIn big (ws.drop n)) : GoodIn big ws := fun w h => (List.mem_append.mp (by rw [List.take_append_drop]; exact h)).elim (h1 w) (h2 w)
set_option maxRecDepth 20000 in
theorem ggX12_layRows_X12_pairCost : GoodIn wsX12_layRows wsX12_pairCost := goodIn_cut 24 (goodIn_r _ [17, 18, 19, 8, 24, 25, 26, 27, 28, 29, 30, 31, 32, 33, 34, 35, 36, 37, 38, 39, 40, 41, 42, 43] (by decide +kernel) (by decide +kernel)) (goodIn_r _ [44, 45, 46, 47, 48, 49, 50, 51, 52, 53, 54, 55, 56, 57, 58, 59] (by decide +kernel) (by decide +kernel))
set_option maxRecDepth 20000 in
theorem gX12_layRows_X12_pairCost : GoodIn wsX12_layRows (wsV RX12 171 RX12 yX12_pairCost wsX12_pairCost) := goodIn_app (goodIn_of _ (by decide +kernel)) ggX12_layRows_X12_pairCost
set_option maxRecDepth 20000 in
theorem ggX12_layRows_X12_addBehind : GoodIn wsX12_layRows wsX12_addBehind := goodIn_cut 24 (goodIn_r _ [23, 3, 5, 24, 25, 26, 27, 28, 29, 30, 31, 32, 33, 34, 35, 36, 37, 38, 39, 40, 41, 42, 43, 44] (by decide +kernel) (by decide +kernel)) (goodIn_r _ [45, 46, 47, 48, 49, 50, 51, 52, 53, 54, 55, 56, 57, 58, 59] (by decide +kernel) (by decide +kernel))
set_option maxRecDepth 20000 in
theorem gX12_layRows_X12_addBehind : GoodIn wsX12_layRows (wsV RX12 175 RX12 yX12_addBehind wsX12_addBehind) := goodIn_app (goodIn_of _ (by decide +kernel)) ggX12_layRows_X12_addBehind
theorem dX12_layRows_0 : decode cX12_layRows 0 = .ok (.iconst 0, 1) := by decide +kernel
theorem dX12_layRows_1 : decode cX12_layRows 1 = .ok (.istore_n 1, 1) := by decide +kernel
theorem dX12_layRows_2 : decode cX12_layRows 2 = .ok (.iload_n 1, 1) := by decide +kernel
theorem dX12_layRows_3 : decode cX12_layRows 3 = .ok (.bipush 91, 2) := by decide +kernel
theorem dX12_layRows_5 : decode cX12_layRows 5 = .ok (.if_icmp .ge 39, 3) := by decide +kernel
theorem dX12_layRows_8 : decode cX12_layRows 8 = .ok (.aload_n 0, 1) := by decide +kernel
theorem dX12_layRows_9 : decode cX12_layRows 9 = .ok (.getfield 65, 3) := by decide +kernel
theorem dX12_layRows_12 : decode cX12_layRows 12 = .ok (.iload_n 1, 1) := by decide +kernel
theorem dX12_layRows_13 : decode cX12_layRows 13 = .ok (.ldc 124, 2) := by decide +kernel
theorem dX12_layRows_15 : decode cX12_layRows 15 = .ok (.iastore, 1) := by decide +kernel
theorem dX12_layRows_16 : decode cX12_layRows 16 = .ok (.aload_n 0, 1) := by decide +kernel
theorem dX12_layRows_17 : decode cX12_layRows 17 = .ok (.getfield 68, 3) := by decide +kernel
theorem dX12_layRows_20 : decode cX12_layRows 20 = .ok (.iload_n 1, 1) := by decide +kernel
theorem dX12_layRows_21 : decode cX12_layRows 21 = .ok (.ldc 124, 2) := by decide +kernel
theorem dX12_layRows_23 : decode cX12_layRows 23 = .ok (.iastore, 1) := by decide +kernel
theorem dX12_layRows_24 : decode cX12_layRows 24 = .ok (.aload_n 0, 1) := by decide +kernel
theorem dX12_layRows_25 : decode cX12_layRows 25 = .ok (.getfield 71, 3) := by decide +kernel
theorem dX12_layRows_28 : decode cX12_layRows 28 = .ok (.iload_n 1, 1) := by decide +kernel
theorem dX12_layRows_29 : decode cX12_layRows 29 = .ok (.lconst 0, 1) := by decide +kernel
theorem dX12_layRows_30 : decode cX12_layRows 30 = .ok (.lastore, 1) := by decide +kernel
theorem dX12_layRows_31 : decode cX12_layRows 31 = .ok (.aload_n 0, 1) := by decide +kernel
theorem dX12_layRows_32 : decode cX12_layRows 32 = .ok (.getfield 75, 3) := by decide +kernel
theorem dX12_layRows_35 : decode cX12_layRows 35 = .ok (.iload_n 1, 1) := by decide +kernel
theorem dX12_layRows_36 : decode cX12_layRows 36 = .ok (.lconst 0, 1) := by decide +kernel
theorem dX12_layRows_37 : decode cX12_layRows 37 = .ok (.lastore, 1) := by decide +kernel
theorem dX12_layRows_38 : decode cX12_layRows 38 = .ok (.iinc 1 1, 3) := by decide +kernel
theorem dX12_layRows_41 : decode cX12_layRows 41 = .ok (.goto (-39), 3) := by decide +kernel
theorem dX12_layRows_44 : decode cX12_layRows 44 = .ok (.iconst 0, 1) := by decide +kernel
theorem dX12_layRows_45 : decode cX12_layRows 45 = .ok (.istore_n 1, 1) := by decide +kernel
theorem dX12_layRows_46 : decode cX12_layRows 46 = .ok (.iload_n 1, 1) := by decide +kernel
theorem dX12_layRows_47 : decode cX12_layRows 47 = .ok (.aload_n 0, 1) := by decide +kernel
theorem dX12_layRows_48 : decode cX12_layRows 48 = .ok (.getfield 133, 3) := by decide +kernel
theorem dX12_layRows_51 : decode cX12_layRows 51 = .ok (.if_icmp .gt 114, 3) := by decide +kernel
theorem dX12_layRows_54 : decode cX12_layRows 54 = .ok (.iconst 0, 1) := by decide +kernel
theorem dX12_layRows_55 : decode cX12_layRows 55 = .ok (.istore_n 2, 1) := by decide +kernel
theorem dX12_layRows_56 : decode cX12_layRows 56 = .ok (.iload_n 2, 1) := by decide +kernel
theorem dX12_layRows_57 : decode cX12_layRows 57 = .ok (.aload_n 0, 1) := by decide +kernel
theorem dX12_layRows_58 : decode cX12_layRows 58 = .ok (.getfield 165, 3) := by decide +kernel
theorem dX12_layRows_61 : decode cX12_layRows 61 = .ok (.if_icmp .gt 98, 3) := by decide +kernel
theorem dX12_layRows_64 : decode cX12_layRows 64 = .ok (.bipush 13, 2) := by decide +kernel
theorem dX12_layRows_66 : decode cX12_layRows 66 = .ok (.iload_n 1, 1) := by decide +kernel
theorem dX12_layRows_67 : decode cX12_layRows 67 = .ok (.imul, 1) := by decide +kernel
theorem dX12_layRows_68 : decode cX12_layRows 68 = .ok (.iload_n 2, 1) := by decide +kernel
theorem dX12_layRows_69 : decode cX12_layRows 69 = .ok (.iadd, 1) := by decide +kernel
theorem dX12_layRows_70 : decode cX12_layRows 70 = .ok (.istore_n 3, 1) := by decide +kernel
theorem dX12_layRows_71 : decode cX12_layRows 71 = .ok (.iload_n 3, 1) := by decide +kernel
theorem dX12_layRows_72 : decode cX12_layRows 72 = .ok (.ifCond .ne 17, 3) := by decide +kernel
theorem dX12_layRows_75 : decode cX12_layRows 75 = .ok (.aload_n 0, 1) := by decide +kernel
theorem dX12_layRows_76 : decode cX12_layRows 76 = .ok (.getfield 65, 3) := by decide +kernel
theorem dX12_layRows_79 : decode cX12_layRows 79 = .ok (.iload_n 3, 1) := by decide +kernel
theorem dX12_layRows_80 : decode cX12_layRows 80 = .ok (.iconst 0, 1) := by decide +kernel
theorem dX12_layRows_81 : decode cX12_layRows 81 = .ok (.iastore, 1) := by decide +kernel
theorem dX12_layRows_82 : decode cX12_layRows 82 = .ok (.aload_n 0, 1) := by decide +kernel
theorem dX12_layRows_83 : decode cX12_layRows 83 = .ok (.getfield 71, 3) := by decide +kernel
theorem dX12_layRows_86 : decode cX12_layRows 86 = .ok (.iload_n 3, 1) := by decide +kernel
theorem dX12_layRows_87 : decode cX12_layRows 87 = .ok (.lconst 1, 1) := by decide +kernel
theorem dX12_layRows_88 : decode cX12_layRows 88 = .ok (.lastore, 1) := by decide +kernel
theorem dX12_layRows_89 : decode cX12_layRows 89 = .ok (.iload_n 1, 1) := by decide +kernel
theorem dX12_layRows_90 : decode cX12_layRows 90 = .ok (.ifCond .le 18, 3) := by decide +kernel
theorem dX12_layRows_93 : decode cX12_layRows 93 = .ok (.aload_n 0, 1) := by decide +kernel
theorem dX12_layRows_94 : decode cX12_layRows 94 = .ok (.iload_n 3, 1) := by decide +kernel
theorem dX12_layRows_95 : decode cX12_layRows 95 = .ok (.iload_n 3, 1) := by decide +kernel
theorem dX12_layRows_96 : decode cX12_layRows 96 = .ok (.bipush 13, 2) := by decide +kernel
theorem dX12_layRows_98 : decode cX12_layRows 98 = .ok (.isub, 1) := by decide +kernel
theorem dX12_layRows_99 : decode cX12_layRows 99 = .ok (.aload_n 0, 1) := by decide +kernel
theorem dX12_layRows_100 : decode cX12_layRows 100 = .ok (.getfield 31, 3) := by decide +kernel
theorem dX12_layRows_103 : decode cX12_layRows 103 = .ok (.iconst 0, 1) := by decide +kernel
theorem dX12_layRows_104 : decode cX12_layRows 104 = .ok (.iaload, 1) := by decide +kernel
theorem dX12_layRows_105 : decode cX12_layRows 105 = .ok (.invokevirtual 168, 3) := by decide +kernel
theorem dX12_layRows_108 : decode cX12_layRows 108 = .ok (.iload_n 2, 1) := by decide +kernel
theorem dX12_layRows_109 : decode cX12_layRows 109 = .ok (.ifCond .le 17, 3) := by decide +kernel
theorem dX12_layRows_112 : decode cX12_layRows 112 = .ok (.aload_n 0, 1) := by decide +kernel
theorem dX12_layRows_113 : decode cX12_layRows 113 = .ok (.iload_n 3, 1) := by decide +kernel
theorem dX12_layRows_114 : decode cX12_layRows 114 = .ok (.iload_n 3, 1) := by decide +kernel
theorem dX12_layRows_115 : decode cX12_layRows 115 = .ok (.iconst 1, 1) := by decide +kernel
theorem dX12_layRows_116 : decode cX12_layRows 116 = .ok (.isub, 1) := by decide +kernel
theorem dX12_layRows_117 : decode cX12_layRows 117 = .ok (.aload_n 0, 1) := by decide +kernel
theorem dX12_layRows_118 : decode cX12_layRows 118 = .ok (.getfield 31, 3) := by decide +kernel
theorem dX12_layRows_121 : decode cX12_layRows 121 = .ok (.iconst 1, 1) := by decide +kernel
theorem dX12_layRows_122 : decode cX12_layRows 122 = .ok (.iaload, 1) := by decide +kernel
theorem dX12_layRows_123 : decode cX12_layRows 123 = .ok (.invokevirtual 168, 3) := by decide +kernel
theorem dX12_layRows_126 : decode cX12_layRows 126 = .ok (.iload_n 1, 1) := by decide +kernel
theorem dX12_layRows_127 : decode cX12_layRows 127 = .ok (.ifCond .le 26, 3) := by decide +kernel
theorem dX12_layRows_130 : decode cX12_layRows 130 = .ok (.iload_n 2, 1) := by decide +kernel
theorem dX12_layRows_131 : decode cX12_layRows 131 = .ok (.ifCond .le 22, 3) := by decide +kernel
theorem dX12_layRows_134 : decode cX12_layRows 134 = .ok (.aload_n 0, 1) := by decide +kernel
theorem dX12_layRows_135 : decode cX12_layRows 135 = .ok (.iload_n 3, 1) := by decide +kernel
theorem dX12_layRows_136 : decode cX12_layRows 136 = .ok (.iload_n 3, 1) := by decide +kernel
theorem dX12_layRows_137 : decode cX12_layRows 137 = .ok (.bipush 14, 2) := by decide +kernel
theorem dX12_layRows_139 : decode cX12_layRows 139 = .ok (.isub, 1) := by decide +kernel
theorem dX12_layRows_140 : decode cX12_layRows 140 = .ok (.aload_n 0, 1) := by decide +kernel
theorem dX12_layRows_141 : decode cX12_layRows 141 = .ok (.iload_n 1, 1) := by decide +kernel
theorem dX12_layRows_142 : decode cX12_layRows 142 = .ok (.iconst 1, 1) := by decide +kernel
theorem dX12_layRows_143 : decode cX12_layRows 143 = .ok (.isub, 1) := by decide +kernel
theorem dX12_layRows_144 : decode cX12_layRows 144 = .ok (.iload_n 2, 1) := by decide +kernel
theorem dX12_layRows_145 : decode cX12_layRows 145 = .ok (.iconst 1, 1) := by decide +kernel
theorem dX12_layRows_146 : decode cX12_layRows 146 = .ok (.isub, 1) := by decide +kernel
theorem dX12_layRows_147 : decode cX12_layRows 147 = .ok (.invokevirtual 171, 3) := by decide +kernel
theorem dX12_layRows_150 : decode cX12_layRows 150 = .ok (.invokevirtual 168, 3) := by decide +kernel
theorem dX12_layRows_153 : decode cX12_layRows 153 = .ok (.iinc 2 1, 3) := by decide +kernel
theorem dX12_layRows_156 : decode cX12_layRows 156 = .ok (.goto (-100), 3) := by decide +kernel
theorem dX12_layRows_159 : decode cX12_layRows 159 = .ok (.iinc 1 1, 3) := by decide +kernel
theorem dX12_layRows_162 : decode cX12_layRows 162 = .ok (.goto (-116), 3) := by decide +kernel
theorem dX12_layRows_165 : decode cX12_layRows 165 = .ok (.aload_n 0, 1) := by decide +kernel
theorem dX12_layRows_166 : decode cX12_layRows 166 = .ok (.getfield 133, 3) := by decide +kernel
theorem dX12_layRows_169 : decode cX12_layRows 169 = .ok (.istore_n 1, 1) := by decide +kernel
theorem dX12_layRows_170 : decode cX12_layRows 170 = .ok (.iload_n 1, 1) := by decide +kernel
theorem dX12_layRows_171 : decode cX12_layRows 171 = .ok (.ifCond .lt 137, 3) := by decide +kernel
theorem dX12_layRows_174 : decode cX12_layRows 174 = .ok (.aload_n 0, 1) := by decide +kernel
theorem dX12_layRows_175 : decode cX12_layRows 175 = .ok (.getfield 165, 3) := by decide +kernel
theorem dX12_layRows_178 : decode cX12_layRows 178 = .ok (.istore_n 2, 1) := by decide +kernel
theorem dX12_layRows_179 : decode cX12_layRows 179 = .ok (.iload_n 2, 1) := by decide +kernel
theorem dX12_layRows_180 : decode cX12_layRows 180 = .ok (.ifCond .lt 122, 3) := by decide +kernel
theorem dX12_layRows_183 : decode cX12_layRows 183 = .ok (.bipush 13, 2) := by decide +kernel
theorem dX12_layRows_185 : decode cX12_layRows 185 = .ok (.iload_n 1, 1) := by decide +kernel
theorem dX12_layRows_186 : decode cX12_layRows 186 = .ok (.imul, 1) := by decide +kernel
theorem dX12_layRows_187 : decode cX12_layRows 187 = .ok (.iload_n 2, 1) := by decide +kernel
theorem dX12_layRows_188 : decode cX12_layRows 188 = .ok (.iadd, 1) := by decide +kernel
theorem dX12_layRows_189 : decode cX12_layRows 189 = .ok (.istore_n 3, 1) := by decide +kernel
theorem dX12_layRows_190 : decode cX12_layRows 190 = .ok (.iload_n 1, 1) := by decide +kernel
theorem dX12_layRows_191 : decode cX12_layRows 191 = .ok (.aload_n 0, 1) := by decide +kernel
theorem dX12_layRows_192 : decode cX12_layRows 192 = .ok (.getfield 133, 3) := by decide +kernel
theorem dX12_layRows_195 : decode cX12_layRows 195 = .ok (.if_icmp .ne 25, 3) := by decide +kernel
theorem dX12_layRows_198 : decode cX12_layRows 198 = .ok (.iload_n 2, 1) := by decide +kernel
theorem dX12_layRows_199 : decode cX12_layRows 199 = .ok (.aload_n 0, 1) := by decide +kernel
theorem dX12_layRows_200 : decode cX12_layRows 200 = .ok (.getfield 165, 3) := by decide +kernel
theorem dX12_layRows_203 : decode cX12_layRows 203 = .ok (.if_icmp .ne 17, 3) := by decide +kernel
theorem dX12_layRows_206 : decode cX12_layRows 206 = .ok (.aload_n 0, 1) := by decide +kernel
theorem dX12_layRows_207 : decode cX12_layRows 207 = .ok (.getfield 68, 3) := by decide +kernel
theorem dX12_layRows_210 : decode cX12_layRows 210 = .ok (.iload_n 3, 1) := by decide +kernel
theorem dX12_layRows_211 : decode cX12_layRows 211 = .ok (.iconst 0, 1) := by decide +kernel
theorem dX12_layRows_212 : decode cX12_layRows 212 = .ok (.iastore, 1) := by decide +kernel
theorem dX12_layRows_213 : decode cX12_layRows 213 = .ok (.aload_n 0, 1) := by decide +kernel
theorem dX12_layRows_214 : decode cX12_layRows 214 = .ok (.getfield 75, 3) := by decide +kernel
theorem dX12_layRows_217 : decode cX12_layRows 217 = .ok (.iload_n 3, 1) := by decide +kernel
theorem dX12_layRows_218 : decode cX12_layRows 218 = .ok (.lconst 1, 1) := by decide +kernel
theorem dX12_layRows_219 : decode cX12_layRows 219 = .ok (.lastore, 1) := by decide +kernel
theorem dX12_layRows_220 : decode cX12_layRows 220 = .ok (.iload_n 1, 1) := by decide +kernel
theorem dX12_layRows_221 : decode cX12_layRows 221 = .ok (.aload_n 0, 1) := by decide +kernel
theorem dX12_layRows_222 : decode cX12_layRows 222 = .ok (.getfield 133, 3) := by decide +kernel
theorem dX12_layRows_225 : decode cX12_layRows 225 = .ok (.if_icmp .ge 18, 3) := by decide +kernel
theorem dX12_layRows_228 : decode cX12_layRows 228 = .ok (.aload_n 0, 1) := by decide +kernel
theorem dX12_layRows_229 : decode cX12_layRows 229 = .ok (.iload_n 3, 1) := by decide +kernel
theorem dX12_layRows_230 : decode cX12_layRows 230 = .ok (.iload_n 3, 1) := by decide +kernel
theorem dX12_layRows_231 : decode cX12_layRows 231 = .ok (.bipush 13, 2) := by decide +kernel
theorem dX12_layRows_233 : decode cX12_layRows 233 = .ok (.iadd, 1) := by decide +kernel
theorem dX12_layRows_234 : decode cX12_layRows 234 = .ok (.aload_n 0, 1) := by decide +kernel
theorem dX12_layRows_235 : decode cX12_layRows 235 = .ok (.getfield 31, 3) := by decide +kernel
theorem dX12_layRows_238 : decode cX12_layRows 238 = .ok (.iconst 0, 1) := by decide +kernel
theorem dX12_layRows_239 : decode cX12_layRows 239 = .ok (.iaload, 1) := by decide +kernel
theorem dX12_layRows_240 : decode cX12_layRows 240 = .ok (.invokevirtual 175, 3) := by decide +kernel
theorem dX12_layRows_243 : decode cX12_layRows 243 = .ok (.iload_n 2, 1) := by decide +kernel
theorem dX12_layRows_244 : decode cX12_layRows 244 = .ok (.aload_n 0, 1) := by decide +kernel
theorem dX12_layRows_245 : decode cX12_layRows 245 = .ok (.getfield 165, 3) := by decide +kernel
theorem dX12_layRows_248 : decode cX12_layRows 248 = .ok (.if_icmp .ge 17, 3) := by decide +kernel
theorem dX12_layRows_251 : decode cX12_layRows 251 = .ok (.aload_n 0, 1) := by decide +kernel
theorem dX12_layRows_252 : decode cX12_layRows 252 = .ok (.iload_n 3, 1) := by decide +kernel
theorem dX12_layRows_253 : decode cX12_layRows 253 = .ok (.iload_n 3, 1) := by decide +kernel
theorem dX12_layRows_254 : decode cX12_layRows 254 = .ok (.iconst 1, 1) := by decide +kernel
theorem dX12_layRows_255 : decode cX12_layRows 255 = .ok (.iadd, 1) := by decide +kernel
theorem dX12_layRows_256 : decode cX12_layRows 256 = .ok (.aload_n 0, 1) := by decide +kernel
theorem dX12_layRows_257 : decode cX12_layRows 257 = .ok (.getfield 31, 3) := by decide +kernel
theorem dX12_layRows_260 : decode cX12_layRows 260 = .ok (.iconst 1, 1) := by decide +kernel
theorem dX12_layRows_261 : decode cX12_layRows 261 = .ok (.iaload, 1) := by decide +kernel
theorem dX12_layRows_262 : decode cX12_layRows 262 = .ok (.invokevirtual 175, 3) := by decide +kernel
theorem dX12_layRows_265 : decode cX12_layRows 265 = .ok (.iload_n 1, 1) := by decide +kernel
theorem dX12_layRows_266 : decode cX12_layRows 266 = .ok (.aload_n 0, 1) := by decide +kernel
theorem dX12_layRows_267 : decode cX12_layRows 267 = .ok (.getfield 133, 3) := by decide +kernel
theorem dX12_layRows_270 : decode cX12_layRows 270 = .ok (.if_icmp .ge 26, 3) := by decide +kernel
theorem dX12_layRows_273 : decode cX12_layRows 273 = .ok (.iload_n 2, 1) := by decide +kernel
theorem dX12_layRows_274 : decode cX12_layRows 274 = .ok (.aload_n 0, 1) := by decide +kernel
theorem dX12_layRows_275 : decode cX12_layRows 275 = .ok (.getfield 165, 3) := by decide +kernel
theorem dX12_layRows_278 : decode cX12_layRows 278 = .ok (.if_icmp .ge 18, 3) := by decide +kernel
theorem dX12_layRows_281 : decode cX12_layRows 281 = .ok (.aload_n 0, 1) := by decide +kernel
theorem dX12_layRows_282 : decode cX12_layRows 282 = .ok (.iload_n 3, 1) := by decide +kernel
theorem dX12_layRows_283 : decode cX12_layRows 283 = .ok (.iload_n 3, 1) := by decide +kernel
theorem dX12_layRows_284 : decode cX12_layRows 284 = .ok (.bipush 14, 2) := by decide +kernel
theorem dX12_layRows_286 : decode cX12_layRows 286 = .ok (.iadd, 1) := by decide +kernel
theorem dX12_layRows_287 : decode cX12_layRows 287 = .ok (.aload_n 0, 1) := by decide +kernel
theorem dX12_layRows_288 : decode cX12_layRows 288 = .ok (.iload_n 1, 1) := by decide +kernel
theorem dX12_layRows_289 : decode cX12_layRows 289 = .ok (.iload_n 2, 1) := by decide +kernel
theorem dX12_layRows_290 : decode cX12_layRows 290 = .ok (.invokevirtual 171, 3) := by decide +kernel
theorem dX12_layRows_293 : decode cX12_layRows 293 = .ok (.invokevirtual 175, 3) := by decide +kernel
theorem dX12_layRows_296 : decode cX12_layRows 296 = .ok (.iinc 2 (-1), 3) := by decide +kernel
theorem dX12_layRows_299 : decode cX12_layRows 299 = .ok (.goto (-120), 3) := by decide +kernel
theorem dX12_layRows_302 : decode cX12_layRows 302 = .ok (.iinc 1 (-1), 3) := by decide +kernel
theorem dX12_layRows_305 : decode cX12_layRows 305 = .ok (.goto (-135), 3) := by decide +kernel
theorem dX12_layRows_308 : decode cX12_layRows 308 = .ok (.return_, 1) := by decide +kernel
set_option maxRecDepth 20000 in
theorem ggX12_layTextRows_X12_layRows : GoodIn wsX12_layTextRows wsX12_layRows := goodIn_cut 24 (goodIn_r _ [11, 12, 13, 14, 15, 16, 17, 4, 18, 19, 20, 21, 10, 22, 23, 24, 25, 26, 27, 5, 28, 29, 30, 31] (by decide +kernel) (by decide +kernel)) (goodIn_cut 24 (goodIn_r _ [32, 33, 34, 35, 36, 37, 38, 39, 40, 41, 42, 43, 44, 45, 46, 47, 48, 49, 50, 51, 52, 53, 54, 55] (by decide +kernel) (by decide +kernel)) (goodIn_r _ [56, 57, 58, 59, 60, 61, 62, 63, 64, 65, 66, 67] (by decide +kernel) (by decide +kernel)))
set_option maxRecDepth 20000 in
theorem gX12_layTextRows_X12_layRows : GoodIn wsX12_layTextRows (wsV RX12 178 RX12 yX12_layRows wsX12_layRows) := goodIn_app (goodIn_of _ (by decide +kernel)) ggX12_layTextRows_X12_layRows
theorem dX12_layTextRows_0 : decode cX12_layTextRows 0 = .ok (.bipush 49, 2) := by decide +kernel
theorem dX12_layTextRows_2 : decode cX12_layTextRows 2 = .ok (.aload_n 0, 1) := by decide +kernel
theorem dX12_layTextRows_3 : decode cX12_layTextRows 3 = .ok (.getfield 105, 3) := by decide +kernel
theorem dX12_layTextRows_6 : decode cX12_layTextRows 6 = .ok (.imul, 1) := by decide +kernel
theorem dX12_layTextRows_7 : decode cX12_layTextRows 7 = .ok (.aload_n 0, 1) := by decide +kernel
theorem dX12_layTextRows_8 : decode cX12_layTextRows 8 = .ok (.getfield 140, 3) := by decide +kernel
theorem dX12_layTextRows_11 : decode cX12_layTextRows 11 = .ok (.iadd, 1) := by decide +kernel
theorem dX12_layTextRows_12 : decode cX12_layTextRows 12 = .ok (.istore_n 1, 1) := by decide +kernel
theorem dX12_layTextRows_13 : decode cX12_layTextRows 13 = .ok (.aload_n 0, 1) := by decide +kernel
theorem dX12_layTextRows_14 : decode cX12_layTextRows 14 = .ok (.aload_n 0, 1) := by decide +kernel
theorem dX12_layTextRows_15 : decode cX12_layTextRows 15 = .ok (.getfield 40, 3) := by decide +kernel
theorem dX12_layTextRows_18 : decode cX12_layTextRows 18 = .ok (.iload_n 1, 1) := by decide +kernel
theorem dX12_layTextRows_19 : decode cX12_layTextRows 19 = .ok (.iaload, 1) := by decide +kernel
theorem dX12_layTextRows_20 : decode cX12_layTextRows 20 = .ok (.putfield 165, 3) := by decide +kernel
theorem dX12_layTextRows_23 : decode cX12_layTextRows 23 = .ok (.iconst 0, 1) := by decide +kernel
theorem dX12_layTextRows_24 : decode cX12_layTextRows 24 = .ok (.istore_n 2, 1) := by decide +kernel
theorem dX12_layTextRows_25 : decode cX12_layTextRows 25 = .ok (.iload_n 2, 1) := by decide +kernel
theorem dX12_layTextRows_26 : decode cX12_layTextRows 26 = .ok (.aload_n 0, 1) := by decide +kernel
theorem dX12_layTextRows_27 : decode cX12_layTextRows 27 = .ok (.getfield 165, 3) := by decide +kernel
theorem dX12_layTextRows_30 : decode cX12_layTextRows 30 = .ok (.if_icmp .ge 34, 3) := by decide +kernel
theorem dX12_layTextRows_33 : decode cX12_layTextRows 33 = .ok (.aload_n 0, 1) := by decide +kernel
theorem dX12_layTextRows_34 : decode cX12_layTextRows 34 = .ok (.getfield 62, 3) := by decide +kernel
theorem dX12_layTextRows_37 : decode cX12_layTextRows 37 = .ok (.iload_n 2, 1) := by decide +kernel
theorem dX12_layTextRows_38 : decode cX12_layTextRows 38 = .ok (.aload_n 0, 1) := by decide +kernel
theorem dX12_layTextRows_39 : decode cX12_layTextRows 39 = .ok (.getfield 43, 3) := by decide +kernel
theorem dX12_layTextRows_42 : decode cX12_layTextRows 42 = .ok (.iload_n 1, 1) := by decide +kernel
theorem dX12_layTextRows_43 : decode cX12_layTextRows 43 = .ok (.iaload, 1) := by decide +kernel
theorem dX12_layTextRows_44 : decode cX12_layTextRows 44 = .ok (.iconst 2, 1) := by decide +kernel
theorem dX12_layTextRows_45 : decode cX12_layTextRows 45 = .ok (.aload_n 0, 1) := by decide +kernel
theorem dX12_layTextRows_46 : decode cX12_layTextRows 46 = .ok (.getfield 165, 3) := by decide +kernel
theorem dX12_layTextRows_49 : decode cX12_layTextRows 49 = .ok (.iconst 1, 1) := by decide +kernel
theorem dX12_layTextRows_50 : decode cX12_layTextRows 50 = .ok (.isub, 1) := by decide +kernel
theorem dX12_layTextRows_51 : decode cX12_layTextRows 51 = .ok (.iload_n 2, 1) := by decide +kernel
theorem dX12_layTextRows_52 : decode cX12_layTextRows 52 = .ok (.isub, 1) := by decide +kernel
theorem dX12_layTextRows_53 : decode cX12_layTextRows 53 = .ok (.imul, 1) := by decide +kernel
theorem dX12_layTextRows_54 : decode cX12_layTextRows 54 = .ok (.ishr, 1) := by decide +kernel
theorem dX12_layTextRows_55 : decode cX12_layTextRows 55 = .ok (.iconst 3, 1) := by decide +kernel
theorem dX12_layTextRows_56 : decode cX12_layTextRows 56 = .ok (.iand, 1) := by decide +kernel
theorem dX12_layTextRows_57 : decode cX12_layTextRows 57 = .ok (.iastore, 1) := by decide +kernel
theorem dX12_layTextRows_58 : decode cX12_layTextRows 58 = .ok (.iinc 2 1, 3) := by decide +kernel
theorem dX12_layTextRows_61 : decode cX12_layTextRows 61 = .ok (.goto (-36), 3) := by decide +kernel
theorem dX12_layTextRows_64 : decode cX12_layTextRows 64 = .ok (.aload_n 0, 1) := by decide +kernel
theorem dX12_layTextRows_65 : decode cX12_layTextRows 65 = .ok (.invokevirtual 178, 3) := by decide +kernel
theorem dX12_layTextRows_68 : decode cX12_layTextRows 68 = .ok (.return_, 1) := by decide +kernel
set_option maxRecDepth 20000 in
theorem ggX12_ways_X12_layText : GoodIn wsX12_ways wsX12_layText := goodIn_cut 24 (goodIn_r _ [8, 9, 10, 11, 12, 13, 14, 15, 16, 7, 17, 18, 19, 20, 21, 22, 23, 24, 25, 26, 27, 28, 29, 30] (by decide +kernel) (by decide +kernel)) (goodIn_cut 24 (goodIn_r _ [31, 32, 33, 34, 35, 36, 37, 38, 39, 40, 41, 42, 43, 44, 45, 46, 47, 48, 74, 75, 76, 77, 78, 79] (by decide +kernel) (by decide +kernel)) (goodIn_cut 24 (goodIn_r _ [80, 81, 82, 83, 84, 85, 86, 87, 88, 89, 90, 91, 92, 93, 94, 95, 96, 97, 98, 99, 100, 101, 102, 103] (by decide +kernel) (by decide +kernel)) (goodIn_r _ [104, 105, 106, 107, 108, 109] (by decide +kernel) (by decide +kernel))))
set_option maxRecDepth 20000 in
theorem gX12_ways_X12_layText : GoodIn wsX12_ways (wsV RX12 162 RX12 yX12_layText wsX12_layText) := goodIn_app (goodIn_of _ (by decide +kernel)) ggX12_ways_X12_layText
set_option maxRecDepth 20000 in
theorem ggX12_ways_X12_layTextRows : GoodIn wsX12_ways wsX12_layTextRows := goodIn_cut 24 (goodIn_r _ [52, 9, 10, 13, 53, 54, 27, 55, 56, 57, 7, 58, 59, 12, 60, 61, 1, 19, 41, 62, 63, 64, 65, 66] (by decide +kernel) (by decide +kernel)) (goodIn_cut 24 (goodIn_r _ [67, 68, 69, 20, 70, 71, 72, 73, 74, 75, 76, 77, 78, 79, 80, 81, 82, 83, 84, 85, 86, 87, 88, 89] (by decide +kernel) (by decide +kernel)) (goodIn_r _ [90, 91, 92, 93, 94, 95, 96, 97, 98, 99, 100, 101, 102, 103, 104, 105, 106, 107, 108, 109] (by decide +kernel) (by decide +kernel)))
set_option maxRecDepth 20000 in
theorem gX12_ways_X12_layTextRows : GoodIn wsX12_ways (wsV RX12 181 RX12 yX12_layTextRows wsX12_layTextRows) := goodIn_app (goodIn_of _ (by decide +kernel)) ggX12_ways_X12_layTextRows
theorem dX12_ways_0 : decode cX12_ways 0 = .ok (.aload_n 0, 1) := by decide +kernel
theorem dX12_ways_1 : decode cX12_ways 1 = .ok (.invokevirtual 162, 3) := by decide +kernel
theorem dX12_ways_4 : decode cX12_ways 4 = .ok (.istore_n 1, 1) := by decide +kernel
theorem dX12_ways_5 : decode cX12_ways 5 = .ok (.iload_n 1, 1) := by decide +kernel
theorem dX12_ways_6 : decode cX12_ways 6 = .ok (.ifCond .ge 5, 3) := by decide +kernel
theorem dX12_ways_9 : decode cX12_ways 9 = .ok (.iload_n 1, 1) := by decide +kernel
theorem dX12_ways_10 : decode cX12_ways 10 = .ok (.ireturn, 1) := by decide +kernel
theorem dX12_ways_11 : decode cX12_ways 11 = .ok (.aload_n 0, 1) := by decide +kernel
theorem dX12_ways_12 : decode cX12_ways 12 = .ok (.invokevirtual 181, 3) := by decide +kernel
theorem dX12_ways_15 : decode cX12_ways 15 = .ok (.aload_n 0, 1) := by decide +kernel
theorem dX12_ways_16 : decode cX12_ways 16 = .ok (.getfield 75, 3) := by decide +kernel
theorem dX12_ways_19 : decode cX12_ways 19 = .ok (.iconst 0, 1) := by decide +kernel
theorem dX12_ways_20 : decode cX12_ways 20 = .ok (.laload, 1) := by decide +kernel
theorem dX12_ways_21 : decode cX12_ways 21 = .ok (.lstore_n 2, 1) := by decide +kernel
theorem dX12_ways_22 : decode cX12_ways 22 = .ok (.lload_n 2, 1) := by decide +kernel
theorem dX12_ways_23 : decode cX12_ways 23 = .ok (.ldc2_w 184, 3) := by decide +kernel
theorem dX12_ways_26 : decode cX12_ways 26 = .ok (.lcmp, 1) := by decide +kernel
theorem dX12_ways_27 : decode cX12_ways 27 = .ok (.ifCond .le 8, 3) := by decide +kernel
theorem dX12_ways_30 : decode cX12_ways 30 = .ok (.ldc 186, 2) := by decide +kernel
theorem dX12_ways_32 : decode cX12_ways 32 = .ok (.goto 5, 3) := by decide +kernel
theorem dX12_ways_35 : decode cX12_ways 35 = .ok (.lload_n 2, 1) := by decide +kernel
theorem dX12_ways_36 : decode cX12_ways 36 = .ok (.l2i, 1) := by decide +kernel
theorem dX12_ways_37 : decode cX12_ways 37 = .ok (.ireturn, 1) := by decide +kernel
set_option maxRecDepth 20000 in
theorem ggX12_kept_X12_in : GoodIn wsX12_kept wsX12_in := goodIn_r _ [12] (by decide +kernel) (by decide +kernel)
set_option maxRecDepth 20000 in
theorem gX12_kept_X12_in : GoodIn wsX12_kept (va_wsS RX12 93 yX12_in wsX12_in) := goodIn_app (goodIn_of _ (by decide +kernel)) ggX12_kept_X12_in
set_option maxRecDepth 20000 in
theorem ggX12_kept_X12_layText : GoodIn wsX12_kept wsX12_layText := goodIn_cut 24 (goodIn_r _ [16, 17, 1, 18, 19, 20, 21, 22, 23, 11, 24, 25, 26, 3, 27, 28, 29, 30, 31, 32, 33, 34, 35, 36] (by decide +kernel) (by decide +kernel)) (goodIn_cut 24 (goodIn_r _ [37, 38, 39, 40, 41, 42, 43, 44, 45, 46, 47, 48, 49, 50, 51, 52, 53, 54, 75, 76, 77, 78, 79, 80] (by decide +kernel) (by decide +kernel)) (goodIn_cut 24 (goodIn_r _ [81, 82, 83, 84, 85, 86, 87, 88, 89, 90, 91, 92, 93, 94, 95, 96, 97, 98, 99, 100, 101, 102, 103, 104] (by decide +kernel) (by decide +kernel)) (goodIn_r _ [105, 106, 107, 108, 109, 110] (by decide +kernel) (by decide +kernel))))
set_option maxRecDepth 20000 in
theorem gX12_kept_X12_layText : GoodIn wsX12_kept (wsV RX12 162 RX12 yX12_layText wsX12_layText) := goodIn_app (goodIn_of _ (by decide +kernel)) ggX12_kept_X12_layText
set_option maxRecDepth 20000 in
theorem ggX12_kept_X12_layTextRows : GoodIn wsX12_kept wsX12_layTextRows := goodIn_cut 24 (goodIn_r _ [58, 17, 1, 20, 2, 4, 33, 59, 60, 61, 11, 62, 5, 19, 6, 7, 8, 26, 47, 63, 64, 65, 66, 67] (by decide +kernel) (by decide +kernel)) (goodIn_cut 24 (goodIn_r _ [68, 69, 70, 3, 71, 72, 73, 74, 75, 76, 77, 78, 79, 80, 81, 82, 83, 84, 85, 86, 87, 88, 89, 90] (by decide +kernel) (by decide +kernel)) (goodIn_r _ [91, 92, 93, 94, 95, 96, 97, 98, 99, 100, 101, 102, 103, 104, 105, 106, 107, 108, 109, 110] (by decide +kernel) (by decide +kernel)))
set_option maxRecDepth 20000 in
theorem gX12_kept_X12_layTextRows : GoodIn wsX12_kept (wsV RX12 181 RX12 yX12_layTextRows wsX12_layTextRows) := goodIn_app (goodIn_of _ (by decide +kernel)) ggX12_kept_X12_layTextRows
theorem dX12_kept_0 : decode cX12_kept 0 = .ok (.iload_n 1, 1) := by decide +kernel
theorem dX12_kept_1 : decode cX12_kept 1 = .ok (.iconst 0, 1) := by decide +kernel
theorem dX12_kept_2 : decode cX12_kept 2 = .ok (.aload_n 0, 1) := by decide +kernel
theorem dX12_kept_3 : decode cX12_kept 3 = .ok (.getfield 140, 3) := by decide +kernel
theorem dX12_kept_6 : decode cX12_kept 6 = .ok (.iconst 1, 1) := by decide +kernel
theorem dX12_kept_7 : decode cX12_kept 7 = .ok (.isub, 1) := by decide +kernel
theorem dX12_kept_8 : decode cX12_kept 8 = .ok (.invokestatic 93, 3) := by decide +kernel
theorem dX12_kept_11 : decode cX12_kept 11 = .ok (.ifCond .ne 6, 3) := by decide +kernel
theorem dX12_kept_14 : decode cX12_kept 14 = .ok (.bipush (-2), 2) := by decide +kernel
theorem dX12_kept_16 : decode cX12_kept 16 = .ok (.ireturn, 1) := by decide +kernel
theorem dX12_kept_17 : decode cX12_kept 17 = .ok (.aload_n 0, 1) := by decide +kernel
theorem dX12_kept_18 : decode cX12_kept 18 = .ok (.invokevirtual 162, 3) := by decide +kernel
theorem dX12_kept_21 : decode cX12_kept 21 = .ok (.istore_n 2, 1) := by decide +kernel
theorem dX12_kept_22 : decode cX12_kept 22 = .ok (.iload_n 2, 1) := by decide +kernel
theorem dX12_kept_23 : decode cX12_kept 23 = .ok (.ifCond .ge 5, 3) := by decide +kernel
theorem dX12_kept_26 : decode cX12_kept 26 = .ok (.iload_n 2, 1) := by decide +kernel
theorem dX12_kept_27 : decode cX12_kept 27 = .ok (.ireturn, 1) := by decide +kernel
theorem dX12_kept_28 : decode cX12_kept 28 = .ok (.aload_n 0, 1) := by decide +kernel
theorem dX12_kept_29 : decode cX12_kept 29 = .ok (.invokevirtual 181, 3) := by decide +kernel
theorem dX12_kept_32 : decode cX12_kept 32 = .ok (.lconst 0, 1) := by decide +kernel
theorem dX12_kept_33 : decode cX12_kept 33 = .ok (.lstore_n 3, 1) := by decide +kernel
theorem dX12_kept_34 : decode cX12_kept 34 = .ok (.iconst 0, 1) := by decide +kernel
theorem dX12_kept_35 : decode cX12_kept 35 = .ok (.istore 5, 2) := by decide +kernel
theorem dX12_kept_37 : decode cX12_kept 37 = .ok (.iload 5, 2) := by decide +kernel
theorem dX12_kept_39 : decode cX12_kept 39 = .ok (.aload_n 0, 1) := by decide +kernel
theorem dX12_kept_40 : decode cX12_kept 40 = .ok (.getfield 165, 3) := by decide +kernel
theorem dX12_kept_43 : decode cX12_kept 43 = .ok (.if_icmp .ge 98, 3) := by decide +kernel
theorem dX12_kept_46 : decode cX12_kept 46 = .ok (.bipush 13, 2) := by decide +kernel
theorem dX12_kept_48 : decode cX12_kept 48 = .ok (.iload_n 1, 1) := by decide +kernel
theorem dX12_kept_49 : decode cX12_kept 49 = .ok (.imul, 1) := by decide +kernel
theorem dX12_kept_50 : decode cX12_kept 50 = .ok (.iload 5, 2) := by decide +kernel
theorem dX12_kept_52 : decode cX12_kept 52 = .ok (.iadd, 1) := by decide +kernel
theorem dX12_kept_53 : decode cX12_kept 53 = .ok (.istore 6, 2) := by decide +kernel
theorem dX12_kept_55 : decode cX12_kept 55 = .ok (.aload_n 0, 1) := by decide +kernel
theorem dX12_kept_56 : decode cX12_kept 56 = .ok (.getfield 34, 3) := by decide +kernel
theorem dX12_kept_59 : decode cX12_kept 59 = .ok (.iload_n 1, 1) := by decide +kernel
theorem dX12_kept_60 : decode cX12_kept 60 = .ok (.iaload, 1) := by decide +kernel
theorem dX12_kept_61 : decode cX12_kept 61 = .ok (.aload_n 0, 1) := by decide +kernel
theorem dX12_kept_62 : decode cX12_kept 62 = .ok (.getfield 62, 3) := by decide +kernel
theorem dX12_kept_65 : decode cX12_kept 65 = .ok (.iload 5, 2) := by decide +kernel
theorem dX12_kept_67 : decode cX12_kept 67 = .ok (.iaload, 1) := by decide +kernel
theorem dX12_kept_68 : decode cX12_kept 68 = .ok (.if_icmp .ne 34, 3) := by decide +kernel
theorem dX12_kept_71 : decode cX12_kept 71 = .ok (.aload_n 0, 1) := by decide +kernel
theorem dX12_kept_72 : decode cX12_kept 72 = .ok (.getfield 65, 3) := by decide +kernel
theorem dX12_kept_75 : decode cX12_kept 75 = .ok (.iload 6, 2) := by decide +kernel
theorem dX12_kept_77 : decode cX12_kept 77 = .ok (.iaload, 1) := by decide +kernel
theorem dX12_kept_78 : decode cX12_kept 78 = .ok (.aload_n 0, 1) := by decide +kernel
theorem dX12_kept_79 : decode cX12_kept 79 = .ok (.getfield 68, 3) := by decide +kernel
theorem dX12_kept_82 : decode cX12_kept 82 = .ok (.iload 6, 2) := by decide +kernel
theorem dX12_kept_84 : decode cX12_kept 84 = .ok (.bipush 14, 2) := by decide +kernel
theorem dX12_kept_86 : decode cX12_kept 86 = .ok (.iadd, 1) := by decide +kernel
theorem dX12_kept_87 : decode cX12_kept 87 = .ok (.iaload, 1) := by decide +kernel
theorem dX12_kept_88 : decode cX12_kept 88 = .ok (.iadd, 1) := by decide +kernel
theorem dX12_kept_89 : decode cX12_kept 89 = .ok (.aload_n 0, 1) := by decide +kernel
theorem dX12_kept_90 : decode cX12_kept 90 = .ok (.getfield 68, 3) := by decide +kernel
theorem dX12_kept_93 : decode cX12_kept 93 = .ok (.iconst 0, 1) := by decide +kernel
theorem dX12_kept_94 : decode cX12_kept 94 = .ok (.iaload, 1) := by decide +kernel
theorem dX12_kept_95 : decode cX12_kept 95 = .ok (.if_icmp .ne 7, 3) := by decide +kernel
theorem dX12_kept_98 : decode cX12_kept 98 = .ok (.iconst 1, 1) := by decide +kernel
theorem dX12_kept_99 : decode cX12_kept 99 = .ok (.goto 4, 3) := by decide +kernel
theorem dX12_kept_102 : decode cX12_kept 102 = .ok (.iconst 0, 1) := by decide +kernel
theorem dX12_kept_103 : decode cX12_kept 103 = .ok (.istore 7, 2) := by decide +kernel
theorem dX12_kept_105 : decode cX12_kept 105 = .ok (.lload_n 3, 1) := by decide +kernel
theorem dX12_kept_106 : decode cX12_kept 106 = .ok (.iload 7, 2) := by decide +kernel
theorem dX12_kept_108 : decode cX12_kept 108 = .ok (.ifCond .eq 24, 3) := by decide +kernel
theorem dX12_kept_111 : decode cX12_kept 111 = .ok (.aload_n 0, 1) := by decide +kernel
theorem dX12_kept_112 : decode cX12_kept 112 = .ok (.getfield 71, 3) := by decide +kernel
theorem dX12_kept_115 : decode cX12_kept 115 = .ok (.iload 6, 2) := by decide +kernel
theorem dX12_kept_117 : decode cX12_kept 117 = .ok (.laload, 1) := by decide +kernel
theorem dX12_kept_118 : decode cX12_kept 118 = .ok (.aload_n 0, 1) := by decide +kernel
theorem dX12_kept_119 : decode cX12_kept 119 = .ok (.getfield 75, 3) := by decide +kernel
theorem dX12_kept_122 : decode cX12_kept 122 = .ok (.iload 6, 2) := by decide +kernel
theorem dX12_kept_124 : decode cX12_kept 124 = .ok (.bipush 14, 2) := by decide +kernel
theorem dX12_kept_126 : decode cX12_kept 126 = .ok (.iadd, 1) := by decide +kernel
theorem dX12_kept_127 : decode cX12_kept 127 = .ok (.laload, 1) := by decide +kernel
theorem dX12_kept_128 : decode cX12_kept 128 = .ok (.lmul, 1) := by decide +kernel
theorem dX12_kept_129 : decode cX12_kept 129 = .ok (.goto 4, 3) := by decide +kernel
theorem dX12_kept_132 : decode cX12_kept 132 = .ok (.lconst 0, 1) := by decide +kernel
theorem dX12_kept_133 : decode cX12_kept 133 = .ok (.ladd, 1) := by decide +kernel
theorem dX12_kept_134 : decode cX12_kept 134 = .ok (.lstore_n 3, 1) := by decide +kernel
theorem dX12_kept_135 : decode cX12_kept 135 = .ok (.iinc 5 1, 3) := by decide +kernel
theorem dX12_kept_138 : decode cX12_kept 138 = .ok (.goto (-101), 3) := by decide +kernel
theorem dX12_kept_141 : decode cX12_kept 141 = .ok (.lload_n 3, 1) := by decide +kernel
theorem dX12_kept_142 : decode cX12_kept 142 = .ok (.lconst 0, 1) := by decide +kernel
theorem dX12_kept_143 : decode cX12_kept 143 = .ok (.lcmp, 1) := by decide +kernel
theorem dX12_kept_144 : decode cX12_kept 144 = .ok (.ifCond .ne 7, 3) := by decide +kernel
theorem dX12_kept_147 : decode cX12_kept 147 = .ok (.iconst 0, 1) := by decide +kernel
theorem dX12_kept_148 : decode cX12_kept 148 = .ok (.goto 19, 3) := by decide +kernel
theorem dX12_kept_151 : decode cX12_kept 151 = .ok (.lload_n 3, 1) := by decide +kernel
theorem dX12_kept_152 : decode cX12_kept 152 = .ok (.aload_n 0, 1) := by decide +kernel
theorem dX12_kept_153 : decode cX12_kept 153 = .ok (.getfield 75, 3) := by decide +kernel
theorem dX12_kept_156 : decode cX12_kept 156 = .ok (.iconst 0, 1) := by decide +kernel
theorem dX12_kept_157 : decode cX12_kept 157 = .ok (.laload, 1) := by decide +kernel
theorem dX12_kept_158 : decode cX12_kept 158 = .ok (.lcmp, 1) := by decide +kernel
theorem dX12_kept_159 : decode cX12_kept 159 = .ok (.ifCond .ne 7, 3) := by decide +kernel
theorem dX12_kept_162 : decode cX12_kept 162 = .ok (.iconst 2, 1) := by decide +kernel
theorem dX12_kept_163 : decode cX12_kept 163 = .ok (.goto 4, 3) := by decide +kernel
theorem dX12_kept_166 : decode cX12_kept 166 = .ok (.iconst 1, 1) := by decide +kernel
theorem dX12_kept_167 : decode cX12_kept 167 = .ok (.ireturn, 1) := by decide +kernel
set_option maxRecDepth 20000 in
theorem ggX12_example_X12_turn : GoodIn wsX12_example wsX12_turn := goodIn_cut 24 (goodIn_r _ [10, 11, 12, 13, 14, 15, 16, 17, 18, 19, 20, 21, 22, 23, 24, 25, 26, 27, 28, 29, 30, 31, 32, 33] (by decide +kernel) (by decide +kernel)) (goodIn_r _ [34, 35, 36, 37, 38, 39, 40, 41, 42, 43, 44, 45, 46, 47] (by decide +kernel) (by decide +kernel))
set_option maxRecDepth 20000 in
theorem gX12_example_X12_turn : GoodIn wsX12_example (wsV RX12 108 RX12 yX12_turn wsX12_turn) := goodIn_app (goodIn_of _ (by decide +kernel)) ggX12_example_X12_turn
theorem dX12_example_0 : decode cX12_example 0 = .ok (.aload_n 0, 1) := by decide +kernel
theorem dX12_example_1 : decode cX12_example 1 = .ok (.getfield 187, 3) := by decide +kernel
theorem dX12_example_4 : decode cX12_example 4 = .ok (.iconst 3, 1) := by decide +kernel
theorem dX12_example_5 : decode cX12_example 5 = .ok (.if_icmp .ne 6, 3) := by decide +kernel
theorem dX12_example_8 : decode cX12_example 8 = .ok (.bipush (-4), 2) := by decide +kernel
theorem dX12_example_10 : decode cX12_example 10 = .ok (.ireturn, 1) := by decide +kernel
theorem dX12_example_11 : decode cX12_example 11 = .ok (.aload_n 0, 1) := by decide +kernel
theorem dX12_example_12 : decode cX12_example 12 = .ok (.getfield 25, 3) := by decide +kernel
theorem dX12_example_15 : decode cX12_example 15 = .ok (.aload_n 0, 1) := by decide +kernel
theorem dX12_example_16 : decode cX12_example 16 = .ok (.getfield 187, 3) := by decide +kernel
theorem dX12_example_19 : decode cX12_example 19 = .ok (.aload_n 0, 1) := by decide +kernel
theorem dX12_example_20 : decode cX12_example 20 = .ok (.getfield 140, 3) := by decide +kernel
theorem dX12_example_23 : decode cX12_example 23 = .ok (.iastore, 1) := by decide +kernel
theorem dX12_example_24 : decode cX12_example 24 = .ok (.iconst 0, 1) := by decide +kernel
theorem dX12_example_25 : decode cX12_example 25 = .ok (.istore_n 1, 1) := by decide +kernel
theorem dX12_example_26 : decode cX12_example 26 = .ok (.iload_n 1, 1) := by decide +kernel
theorem dX12_example_27 : decode cX12_example 27 = .ok (.aload_n 0, 1) := by decide +kernel
theorem dX12_example_28 : decode cX12_example 28 = .ok (.getfield 140, 3) := by decide +kernel
theorem dX12_example_31 : decode cX12_example 31 = .ok (.if_icmp .ge 29, 3) := by decide +kernel
theorem dX12_example_34 : decode cX12_example 34 = .ok (.aload_n 0, 1) := by decide +kernel
theorem dX12_example_35 : decode cX12_example 35 = .ok (.getfield 28, 3) := by decide +kernel
theorem dX12_example_38 : decode cX12_example 38 = .ok (.bipush 6, 2) := by decide +kernel
theorem dX12_example_40 : decode cX12_example 40 = .ok (.aload_n 0, 1) := by decide +kernel
theorem dX12_example_41 : decode cX12_example 41 = .ok (.getfield 187, 3) := by decide +kernel
theorem dX12_example_44 : decode cX12_example 44 = .ok (.imul, 1) := by decide +kernel
theorem dX12_example_45 : decode cX12_example 45 = .ok (.iload_n 1, 1) := by decide +kernel
theorem dX12_example_46 : decode cX12_example 46 = .ok (.iadd, 1) := by decide +kernel
theorem dX12_example_47 : decode cX12_example 47 = .ok (.aload_n 0, 1) := by decide +kernel
theorem dX12_example_48 : decode cX12_example 48 = .ok (.getfield 22, 3) := by decide +kernel
theorem dX12_example_51 : decode cX12_example 51 = .ok (.iload_n 1, 1) := by decide +kernel
theorem dX12_example_52 : decode cX12_example 52 = .ok (.iaload, 1) := by decide +kernel
theorem dX12_example_53 : decode cX12_example 53 = .ok (.iastore, 1) := by decide +kernel
theorem dX12_example_54 : decode cX12_example 54 = .ok (.iinc 1 1, 3) := by decide +kernel
theorem dX12_example_57 : decode cX12_example 57 = .ok (.goto (-31), 3) := by decide +kernel
theorem dX12_example_60 : decode cX12_example 60 = .ok (.aload_n 0, 1) := by decide +kernel
theorem dX12_example_61 : decode cX12_example 61 = .ok (.dup, 1) := by decide +kernel
theorem dX12_example_62 : decode cX12_example 62 = .ok (.getfield 187, 3) := by decide +kernel
theorem dX12_example_65 : decode cX12_example 65 = .ok (.iconst 1, 1) := by decide +kernel
theorem dX12_example_66 : decode cX12_example 66 = .ok (.iadd, 1) := by decide +kernel
theorem dX12_example_67 : decode cX12_example 67 = .ok (.putfield 187, 3) := by decide +kernel
theorem dX12_example_70 : decode cX12_example 70 = .ok (.aload_n 0, 1) := by decide +kernel
theorem dX12_example_71 : decode cX12_example 71 = .ok (.invokevirtual 108, 3) := by decide +kernel
theorem dX12_example_74 : decode cX12_example 74 = .ok (.aload_n 0, 1) := by decide +kernel
theorem dX12_example_75 : decode cX12_example 75 = .ok (.getfield 187, 3) := by decide +kernel
theorem dX12_example_78 : decode cX12_example 78 = .ok (.iconst 1, 1) := by decide +kernel
theorem dX12_example_79 : decode cX12_example 79 = .ok (.isub, 1) := by decide +kernel
theorem dX12_example_80 : decode cX12_example 80 = .ok (.ireturn, 1) := by decide +kernel
set_option maxRecDepth 20000 in
theorem ggX12_forget_X12_turn : GoodIn wsX12_forget wsX12_turn := goodIn_cut 24 (goodIn_r _ [6, 7, 8, 9, 10, 11, 12, 13, 14, 15, 16, 17, 18, 19, 20, 21, 22, 23, 24, 25, 26, 27, 28, 29] (by decide +kernel) (by decide +kernel)) (goodIn_r _ [30, 31, 32, 33, 34, 35, 36, 37, 38, 39, 40, 41, 42, 43] (by decide +kernel) (by decide +kernel))
set_option maxRecDepth 20000 in
theorem gX12_forget_X12_turn : GoodIn wsX12_forget (wsV RX12 108 RX12 yX12_turn wsX12_turn) := goodIn_app (goodIn_of _ (by decide +kernel)) ggX12_forget_X12_turn
theorem dX12_forget_0 : decode cX12_forget 0 = .ok (.aload_n 0, 1) := by decide +kernel
theorem dX12_forget_1 : decode cX12_forget 1 = .ok (.getfield 187, 3) := by decide +kernel
theorem dX12_forget_4 : decode cX12_forget 4 = .ok (.istore_n 1, 1) := by decide +kernel
theorem dX12_forget_5 : decode cX12_forget 5 = .ok (.aload_n 0, 1) := by decide +kernel
theorem dX12_forget_6 : decode cX12_forget 6 = .ok (.iconst 0, 1) := by decide +kernel
theorem dX12_forget_7 : decode cX12_forget 7 = .ok (.putfield 187, 3) := by decide +kernel
theorem dX12_forget_10 : decode cX12_forget 10 = .ok (.aload_n 0, 1) := by decide +kernel
theorem dX12_forget_11 : decode cX12_forget 11 = .ok (.invokevirtual 108, 3) := by decide +kernel
theorem dX12_forget_14 : decode cX12_forget 14 = .ok (.iload_n 1, 1) := by decide +kernel
theorem dX12_forget_15 : decode cX12_forget 15 = .ok (.ireturn, 1) := by decide +kernel
set_option maxRecDepth 20000 in
theorem ggX12_isExample_X12_in : GoodIn wsX12_isExample wsX12_in := goodIn_r _ [5] (by decide +kernel) (by decide +kernel)
set_option maxRecDepth 20000 in
theorem gX12_isExample_X12_in : GoodIn wsX12_isExample (va_wsS RX12 93 yX12_in wsX12_in) := goodIn_app (goodIn_of _ (by decide +kernel)) ggX12_isExample_X12_in
theorem dX12_isExample_0 : decode cX12_isExample 0 = .ok (.iload_n 1, 1) := by decide +kernel
theorem dX12_isExample_1 : decode cX12_isExample 1 = .ok (.iconst 0, 1) := by decide +kernel
theorem dX12_isExample_2 : decode cX12_isExample 2 = .ok (.aload_n 0, 1) := by decide +kernel
theorem dX12_isExample_3 : decode cX12_isExample 3 = .ok (.getfield 187, 3) := by decide +kernel
theorem dX12_isExample_6 : decode cX12_isExample 6 = .ok (.iconst 1, 1) := by decide +kernel
theorem dX12_isExample_7 : decode cX12_isExample 7 = .ok (.isub, 1) := by decide +kernel
theorem dX12_isExample_8 : decode cX12_isExample 8 = .ok (.invokestatic 93, 3) := by decide +kernel
theorem dX12_isExample_11 : decode cX12_isExample 11 = .ok (.ireturn, 1) := by decide +kernel
set_option maxRecDepth 20000 in
theorem ggX12_near_X12_isExample : GoodIn wsX12_near wsX12_isExample := goodIn_cut 24 (goodIn_r _ [10, 11, 12, 13, 9, 14, 44, 45, 46, 47, 48, 49, 50, 51, 52, 53, 54, 55, 56, 57, 58, 59, 60, 61] (by decide +kernel) (by decide +kernel)) (goodIn_r _ [62, 63, 64, 65, 66, 67, 68, 69, 70, 71, 72, 73, 74, 75, 76, 77, 78, 79] (by decide +kernel) (by decide +kernel))
set_option maxRecDepth 20000 in
theorem gX12_near_X12_isExample : GoodIn wsX12_near (wsV RX12 190 RX12 yX12_isExample wsX12_isExample) := goodIn_app (goodIn_of _ (by decide +kernel)) ggX12_near_X12_isExample
set_option maxRecDepth 20000 in
theorem ggX12_near_X12_take : GoodIn wsX12_near wsX12_take := goodIn_cut 24 (goodIn_r _ [18, 19, 1, 20, 21, 22, 4, 44, 45, 46, 47, 48, 49, 50, 51, 52, 53, 54, 55, 56, 57, 58, 59, 60] (by decide +kernel) (by decide +kernel)) (goodIn_r _ [61, 62, 63, 64, 65, 66, 67, 68, 69, 70, 71, 72, 73, 74, 75, 76, 77, 78, 79] (by decide +kernel) (by decide +kernel))
set_option maxRecDepth 20000 in
theorem gX12_near_X12_take : GoodIn wsX12_near (wsV RX12 146 RX12 yX12_take wsX12_take) := goodIn_app (goodIn_of _ (by decide +kernel)) ggX12_near_X12_take
set_option maxRecDepth 20000 in
theorem ggX12_near_X12_layRows : GoodIn wsX12_near wsX12_layRows := goodIn_cut 24 (goodIn_r _ [26, 27, 28, 5, 29, 30, 20, 2, 31, 32, 33, 34, 9, 35, 36, 37, 38, 39, 21, 3, 40, 41, 42, 43] (by decide +kernel) (by decide +kernel)) (goodIn_cut 24 (goodIn_r _ [44, 45, 46, 47, 48, 49, 50, 51, 52, 53, 54, 55, 56, 57, 58, 59, 60, 61, 62, 63, 64, 65, 66, 67] (by decide +kernel) (by decide +kernel)) (goodIn_r _ [68, 69, 70, 71, 72, 73, 74, 75, 76, 77, 78, 79] (by decide +kernel) (by decide +kernel)))
set_option maxRecDepth 20000 in
theorem gX12_near_X12_layRows : GoodIn wsX12_near (wsV RX12 178 RX12 yX12_layRows wsX12_layRows) := goodIn_app (goodIn_of _ (by decide +kernel)) ggX12_near_X12_layRows
theorem dX12_near_0 : decode cX12_near 0 = .ok (.aload_n 0, 1) := by decide +kernel
theorem dX12_near_1 : decode cX12_near 1 = .ok (.iload_n 1, 1) := by decide +kernel
theorem dX12_near_2 : decode cX12_near 2 = .ok (.invokevirtual 190, 3) := by decide +kernel
theorem dX12_near_5 : decode cX12_near 5 = .ok (.ifCond .eq 11, 3) := by decide +kernel
theorem dX12_near_8 : decode cX12_near 8 = .ok (.aload_n 0, 1) := by decide +kernel
theorem dX12_near_9 : decode cX12_near 9 = .ok (.iload_n 2, 1) := by decide +kernel
theorem dX12_near_10 : decode cX12_near 10 = .ok (.invokevirtual 190, 3) := by decide +kernel
theorem dX12_near_13 : decode cX12_near 13 = .ok (.ifCond .ne 5, 3) := by decide +kernel
theorem dX12_near_16 : decode cX12_near 16 = .ok (.iconst (-1), 1) := by decide +kernel
theorem dX12_near_17 : decode cX12_near 17 = .ok (.ireturn, 1) := by decide +kernel
theorem dX12_near_18 : decode cX12_near 18 = .ok (.aload_n 0, 1) := by decide +kernel
theorem dX12_near_19 : decode cX12_near 19 = .ok (.iload_n 1, 1) := by decide +kernel
theorem dX12_near_20 : decode cX12_near 20 = .ok (.invokevirtual 146, 3) := by decide +kernel
theorem dX12_near_23 : decode cX12_near 23 = .ok (.aload_n 0, 1) := by decide +kernel
theorem dX12_near_24 : decode cX12_near 24 = .ok (.aload_n 0, 1) := by decide +kernel
theorem dX12_near_25 : decode cX12_near 25 = .ok (.getfield 25, 3) := by decide +kernel
theorem dX12_near_28 : decode cX12_near 28 = .ok (.iload_n 2, 1) := by decide +kernel
theorem dX12_near_29 : decode cX12_near 29 = .ok (.iaload, 1) := by decide +kernel
theorem dX12_near_30 : decode cX12_near 30 = .ok (.putfield 165, 3) := by decide +kernel
theorem dX12_near_33 : decode cX12_near 33 = .ok (.iconst 0, 1) := by decide +kernel
theorem dX12_near_34 : decode cX12_near 34 = .ok (.istore_n 3, 1) := by decide +kernel
theorem dX12_near_35 : decode cX12_near 35 = .ok (.iload_n 3, 1) := by decide +kernel
theorem dX12_near_36 : decode cX12_near 36 = .ok (.aload_n 0, 1) := by decide +kernel
theorem dX12_near_37 : decode cX12_near 37 = .ok (.getfield 165, 3) := by decide +kernel
theorem dX12_near_40 : decode cX12_near 40 = .ok (.if_icmp .ge 26, 3) := by decide +kernel
theorem dX12_near_43 : decode cX12_near 43 = .ok (.aload_n 0, 1) := by decide +kernel
theorem dX12_near_44 : decode cX12_near 44 = .ok (.getfield 62, 3) := by decide +kernel
theorem dX12_near_47 : decode cX12_near 47 = .ok (.iload_n 3, 1) := by decide +kernel
theorem dX12_near_48 : decode cX12_near 48 = .ok (.aload_n 0, 1) := by decide +kernel
theorem dX12_near_49 : decode cX12_near 49 = .ok (.getfield 28, 3) := by decide +kernel
theorem dX12_near_52 : decode cX12_near 52 = .ok (.bipush 6, 2) := by decide +kernel
theorem dX12_near_54 : decode cX12_near 54 = .ok (.iload_n 2, 1) := by decide +kernel
theorem dX12_near_55 : decode cX12_near 55 = .ok (.imul, 1) := by decide +kernel
theorem dX12_near_56 : decode cX12_near 56 = .ok (.iload_n 3, 1) := by decide +kernel
theorem dX12_near_57 : decode cX12_near 57 = .ok (.iadd, 1) := by decide +kernel
theorem dX12_near_58 : decode cX12_near 58 = .ok (.iaload, 1) := by decide +kernel
theorem dX12_near_59 : decode cX12_near 59 = .ok (.iastore, 1) := by decide +kernel
theorem dX12_near_60 : decode cX12_near 60 = .ok (.iinc 3 1, 3) := by decide +kernel
theorem dX12_near_63 : decode cX12_near 63 = .ok (.goto (-28), 3) := by decide +kernel
theorem dX12_near_66 : decode cX12_near 66 = .ok (.aload_n 0, 1) := by decide +kernel
theorem dX12_near_67 : decode cX12_near 67 = .ok (.invokevirtual 178, 3) := by decide +kernel
theorem dX12_near_70 : decode cX12_near 70 = .ok (.aload_n 0, 1) := by decide +kernel
theorem dX12_near_71 : decode cX12_near 71 = .ok (.getfield 68, 3) := by decide +kernel
theorem dX12_near_74 : decode cX12_near 74 = .ok (.iconst 0, 1) := by decide +kernel
theorem dX12_near_75 : decode cX12_near 75 = .ok (.iaload, 1) := by decide +kernel
theorem dX12_near_76 : decode cX12_near 76 = .ok (.ireturn, 1) := by decide +kernel
set_option maxRecDepth 20000 in
theorem ggX12_totalOf_X12_take : GoodIn wsX12_totalOf wsX12_take := goodIn_cut 24 (goodIn_r _ [10, 11, 12, 4, 13, 14, 15, 43, 44, 45, 46, 47, 48, 49, 50, 51, 52, 53, 54, 55, 56, 57, 58, 59] (by decide +kernel) (by decide +kernel)) (goodIn_r _ [60, 61, 62, 63, 64, 65, 66, 67, 68, 69, 70, 71, 72, 73, 74, 75, 76, 77, 78] (by decide +kernel) (by decide +kernel))
set_option maxRecDepth 20000 in
theorem gX12_totalOf_X12_take : GoodIn wsX12_totalOf (wsV RX12 146 RX12 yX12_take wsX12_take) := goodIn_app (goodIn_of _ (by decide +kernel)) ggX12_totalOf_X12_take
set_option maxRecDepth 20000 in
theorem ggX12_totalOf_X12_layMends : GoodIn wsX12_totalOf wsX12_layMends := goodIn_cut 24 (goodIn_r _ [19, 2, 5, 20, 21, 4, 22, 23, 24, 25, 9, 26, 27, 28, 29, 30, 31, 32, 33, 34, 35, 36, 37, 38] (by decide +kernel) (by decide +kernel)) (goodIn_cut 24 (goodIn_r _ [39, 13, 40, 41, 42, 43, 44, 45, 46, 47, 48, 49, 50, 51, 52, 53, 54, 55, 56, 57, 58, 59, 60, 61] (by decide +kernel) (by decide +kernel)) (goodIn_r _ [62, 63, 64, 65, 66, 67, 68, 69, 70, 71, 72, 73, 74, 75, 76, 77, 78] (by decide +kernel) (by decide +kernel)))
set_option maxRecDepth 20000 in
theorem gX12_totalOf_X12_layMends : GoodIn wsX12_totalOf (wsV RX12 143 RX12 yX12_layMends wsX12_layMends) := goodIn_app (goodIn_of _ (by decide +kernel)) ggX12_totalOf_X12_layMends
theorem dX12_totalOf_0 : decode cX12_totalOf 0 = .ok (.iconst 0, 1) := by decide +kernel
theorem dX12_totalOf_1 : decode cX12_totalOf 1 = .ok (.istore_n 1, 1) := by decide +kernel
theorem dX12_totalOf_2 : decode cX12_totalOf 2 = .ok (.iconst 0, 1) := by decide +kernel
theorem dX12_totalOf_3 : decode cX12_totalOf 3 = .ok (.istore_n 2, 1) := by decide +kernel
theorem dX12_totalOf_4 : decode cX12_totalOf 4 = .ok (.iload_n 2, 1) := by decide +kernel
theorem dX12_totalOf_5 : decode cX12_totalOf 5 = .ok (.aload_n 0, 1) := by decide +kernel
theorem dX12_totalOf_6 : decode cX12_totalOf 6 = .ok (.getfield 187, 3) := by decide +kernel
theorem dX12_totalOf_9 : decode cX12_totalOf 9 = .ok (.if_icmp .ge 57, 3) := by decide +kernel
theorem dX12_totalOf_12 : decode cX12_totalOf 12 = .ok (.aload_n 0, 1) := by decide +kernel
theorem dX12_totalOf_13 : decode cX12_totalOf 13 = .ok (.iload_n 2, 1) := by decide +kernel
theorem dX12_totalOf_14 : decode cX12_totalOf 14 = .ok (.invokevirtual 146, 3) := by decide +kernel
theorem dX12_totalOf_17 : decode cX12_totalOf 17 = .ok (.aload_n 0, 1) := by decide +kernel
theorem dX12_totalOf_18 : decode cX12_totalOf 18 = .ok (.invokevirtual 143, 3) := by decide +kernel
theorem dX12_totalOf_21 : decode cX12_totalOf 21 = .ok (.aload_n 0, 1) := by decide +kernel
theorem dX12_totalOf_22 : decode cX12_totalOf 22 = .ok (.getfield 37, 3) := by decide +kernel
theorem dX12_totalOf_25 : decode cX12_totalOf 25 = .ok (.bipush 49, 2) := by decide +kernel
theorem dX12_totalOf_27 : decode cX12_totalOf 27 = .ok (.aload_n 0, 1) := by decide +kernel
theorem dX12_totalOf_28 : decode cX12_totalOf 28 = .ok (.getfield 105, 3) := by decide +kernel
theorem dX12_totalOf_31 : decode cX12_totalOf 31 = .ok (.imul, 1) := by decide +kernel
theorem dX12_totalOf_32 : decode cX12_totalOf 32 = .ok (.aload_n 0, 1) := by decide +kernel
theorem dX12_totalOf_33 : decode cX12_totalOf 33 = .ok (.getfield 133, 3) := by decide +kernel
theorem dX12_totalOf_36 : decode cX12_totalOf 36 = .ok (.iadd, 1) := by decide +kernel
theorem dX12_totalOf_37 : decode cX12_totalOf 37 = .ok (.iaload, 1) := by decide +kernel
theorem dX12_totalOf_38 : decode cX12_totalOf 38 = .ok (.istore_n 3, 1) := by decide +kernel
theorem dX12_totalOf_39 : decode cX12_totalOf 39 = .ok (.iload_n 3, 1) := by decide +kernel
theorem dX12_totalOf_40 : decode cX12_totalOf 40 = .ok (.ldc 124, 2) := by decide +kernel
theorem dX12_totalOf_42 : decode cX12_totalOf 42 = .ok (.if_icmp .ge 9, 3) := by decide +kernel
theorem dX12_totalOf_45 : decode cX12_totalOf 45 = .ok (.iload_n 1, 1) := by decide +kernel
theorem dX12_totalOf_46 : decode cX12_totalOf 46 = .ok (.ldc 124, 2) := by decide +kernel
theorem dX12_totalOf_48 : decode cX12_totalOf 48 = .ok (.if_icmp .lt 8, 3) := by decide +kernel
theorem dX12_totalOf_51 : decode cX12_totalOf 51 = .ok (.ldc 124, 2) := by decide +kernel
theorem dX12_totalOf_53 : decode cX12_totalOf 53 = .ok (.goto 6, 3) := by decide +kernel
theorem dX12_totalOf_56 : decode cX12_totalOf 56 = .ok (.iload_n 1, 1) := by decide +kernel
theorem dX12_totalOf_57 : decode cX12_totalOf 57 = .ok (.iload_n 3, 1) := by decide +kernel
theorem dX12_totalOf_58 : decode cX12_totalOf 58 = .ok (.iadd, 1) := by decide +kernel
theorem dX12_totalOf_59 : decode cX12_totalOf 59 = .ok (.istore_n 1, 1) := by decide +kernel
theorem dX12_totalOf_60 : decode cX12_totalOf 60 = .ok (.iinc 2 1, 3) := by decide +kernel
theorem dX12_totalOf_63 : decode cX12_totalOf 63 = .ok (.goto (-59), 3) := by decide +kernel
theorem dX12_totalOf_66 : decode cX12_totalOf 66 = .ok (.iload_n 1, 1) := by decide +kernel
theorem dX12_totalOf_67 : decode cX12_totalOf 67 = .ok (.ireturn, 1) := by decide +kernel
set_option maxRecDepth 20000 in
theorem ggX12_total_X12_totalOf : GoodIn wsX12_total wsX12_totalOf := goodIn_cut 24 (goodIn_r _ [6, 7, 8, 9, 10, 1, 11, 12, 13, 5, 14, 15, 16, 17, 18, 19, 20, 21, 22, 23, 24, 25, 26, 27] (by decide +kernel) (by decide +kernel)) (goodIn_cut 24 (goodIn_r _ [28, 29, 30, 31, 32, 33, 34, 35, 36, 37, 38, 39, 40, 41, 42, 43, 44, 45, 46, 47, 48, 49, 50, 51] (by decide +kernel) (by decide +kernel)) (goodIn_cut 24 (goodIn_r _ [52, 53, 54, 55, 56, 57, 58, 59, 60, 61, 62, 63, 64, 65, 66, 67, 68, 69, 70, 71, 72, 73, 74, 75] (by decide +kernel) (by decide +kernel)) (goodIn_r _ [76, 77, 78, 79, 80, 81, 82] (by decide +kernel) (by decide +kernel))))
set_option maxRecDepth 20000 in
theorem gX12_total_X12_totalOf : GoodIn wsX12_total (wsV RX12 193 RX12 yX12_totalOf wsX12_totalOf) := goodIn_app (goodIn_of _ (by decide +kernel)) ggX12_total_X12_totalOf
theorem dX12_total_0 : decode cX12_total 0 = .ok (.aload_n 0, 1) := by decide +kernel
theorem dX12_total_1 : decode cX12_total 1 = .ok (.invokevirtual 193, 3) := by decide +kernel
theorem dX12_total_4 : decode cX12_total 4 = .ok (.istore_n 1, 1) := by decide +kernel
theorem dX12_total_5 : decode cX12_total 5 = .ok (.iload_n 1, 1) := by decide +kernel
theorem dX12_total_6 : decode cX12_total 6 = .ok (.ldc 124, 2) := by decide +kernel
theorem dX12_total_8 : decode cX12_total 8 = .ok (.if_icmp .lt 8, 3) := by decide +kernel
theorem dX12_total_11 : decode cX12_total 11 = .ok (.bipush (-5), 2) := by decide +kernel
theorem dX12_total_13 : decode cX12_total 13 = .ok (.goto 4, 3) := by decide +kernel
theorem dX12_total_16 : decode cX12_total 16 = .ok (.iload_n 1, 1) := by decide +kernel
theorem dX12_total_17 : decode cX12_total 17 = .ok (.ireturn, 1) := by decide +kernel
theorem dX12_turn_0 : decode cX12_turn 0 = .ok (.iconst 0, 1) := by decide +kernel
theorem dX12_turn_1 : decode cX12_turn 1 = .ok (.istore_n 1, 1) := by decide +kernel
theorem dX12_turn_2 : decode cX12_turn 2 = .ok (.iload_n 1, 1) := by decide +kernel
theorem dX12_turn_3 : decode cX12_turn 3 = .ok (.bipush 6, 2) := by decide +kernel
theorem dX12_turn_5 : decode cX12_turn 5 = .ok (.if_icmp .ge 16, 3) := by decide +kernel
theorem dX12_turn_8 : decode cX12_turn 8 = .ok (.aload_n 0, 1) := by decide +kernel
theorem dX12_turn_9 : decode cX12_turn 9 = .ok (.getfield 78, 3) := by decide +kernel
theorem dX12_turn_12 : decode cX12_turn 12 = .ok (.iload_n 1, 1) := by decide +kernel
theorem dX12_turn_13 : decode cX12_turn 13 = .ok (.iconst 0, 1) := by decide +kernel
theorem dX12_turn_14 : decode cX12_turn 14 = .ok (.bastore, 1) := by decide +kernel
theorem dX12_turn_15 : decode cX12_turn 15 = .ok (.iinc 1 1, 3) := by decide +kernel
theorem dX12_turn_18 : decode cX12_turn 18 = .ok (.goto (-16), 3) := by decide +kernel
theorem dX12_turn_21 : decode cX12_turn 21 = .ok (.return_, 1) := by decide +kernel
set_option maxRecDepth 20000 in
theorem ggX12_more_X12_isName : GoodIn wsX12_more wsX12_isName := goodIn_r _ [11, 12, 13, 10, 14] (by decide +kernel) (by decide +kernel)
set_option maxRecDepth 20000 in
theorem gX12_more_X12_isName : GoodIn wsX12_more (va_wsS RX12 111 yX12_isName wsX12_isName) := goodIn_app (goodIn_of _ (by decide +kernel)) ggX12_more_X12_isName
set_option maxRecDepth 20000 in
theorem ggX12_more_X12_in : GoodIn wsX12_more wsX12_in := goodIn_r _ [14] (by decide +kernel) (by decide +kernel)
set_option maxRecDepth 20000 in
theorem gX12_more_X12_in : GoodIn wsX12_more (va_wsS RX12 93 yX12_in wsX12_in) := goodIn_app (goodIn_of _ (by decide +kernel)) ggX12_more_X12_in
set_option maxRecDepth 20000 in
theorem ggX12_more_X12_layMore : GoodIn wsX12_more wsX12_layMore := goodIn_cut 24 (goodIn_r _ [18, 19, 4, 20, 21, 2, 3, 5, 6, 7, 22, 23, 24, 10, 25, 1, 26, 27, 28, 29, 30, 31, 32, 33] (by decide +kernel) (by decide +kernel)) (goodIn_cut 24 (goodIn_r _ [34, 35, 36, 37, 38, 39, 40, 41, 42, 43, 44, 45, 46, 47, 48, 49, 50, 51, 52, 53, 54, 55, 56, 57] (by decide +kernel) (by decide +kernel)) (goodIn_cut 24 (goodIn_r _ [58, 59, 60, 61, 62, 63, 64, 65, 66, 67, 68, 69, 70, 71, 72, 73, 74, 75, 76, 77, 78, 79, 80, 81] (by decide +kernel) (by decide +kernel)) (goodIn_r _ [82, 83, 84, 85, 86, 87, 88, 89, 90, 91, 92, 93, 94, 95, 96, 97] (by decide +kernel) (by decide +kernel))))
set_option maxRecDepth 20000 in
theorem gX12_more_X12_layMore : GoodIn wsX12_more (wsV RX12 196 RX12 yX12_layMore wsX12_layMore) := goodIn_app (goodIn_of _ (by decide +kernel)) ggX12_more_X12_layMore
theorem dX12_more_0 : decode cX12_more 0 = .ok (.iload_n 1, 1) := by decide +kernel
theorem dX12_more_1 : decode cX12_more 1 = .ok (.invokestatic 111, 3) := by decide +kernel
theorem dX12_more_4 : decode cX12_more 4 = .ok (.ifCond .ne 5, 3) := by decide +kernel
theorem dX12_more_7 : decode cX12_more 7 = .ok (.iconst (-1), 1) := by decide +kernel
theorem dX12_more_8 : decode cX12_more 8 = .ok (.ireturn, 1) := by decide +kernel
theorem dX12_more_9 : decode cX12_more 9 = .ok (.iload_n 2, 1) := by decide +kernel
theorem dX12_more_10 : decode cX12_more 10 = .ok (.iconst 0, 1) := by decide +kernel
theorem dX12_more_11 : decode cX12_more 11 = .ok (.iconst 3, 1) := by decide +kernel
theorem dX12_more_12 : decode cX12_more 12 = .ok (.invokestatic 93, 3) := by decide +kernel
theorem dX12_more_15 : decode cX12_more 15 = .ok (.ifCond .ne 6, 3) := by decide +kernel
theorem dX12_more_18 : decode cX12_more 18 = .ok (.bipush (-2), 2) := by decide +kernel
theorem dX12_more_20 : decode cX12_more 20 = .ok (.ireturn, 1) := by decide +kernel
theorem dX12_more_21 : decode cX12_more 21 = .ok (.aload_n 0, 1) := by decide +kernel
theorem dX12_more_22 : decode cX12_more 22 = .ok (.getfield 187, 3) := by decide +kernel
theorem dX12_more_25 : decode cX12_more 25 = .ok (.ifCond .ne 6, 3) := by decide +kernel
theorem dX12_more_28 : decode cX12_more 28 = .ok (.bipush (-3), 2) := by decide +kernel
theorem dX12_more_30 : decode cX12_more 30 = .ok (.ireturn, 1) := by decide +kernel
theorem dX12_more_31 : decode cX12_more 31 = .ok (.aload_n 0, 1) := by decide +kernel
theorem dX12_more_32 : decode cX12_more 32 = .ok (.getfield 78, 3) := by decide +kernel
theorem dX12_more_35 : decode cX12_more 35 = .ok (.iload_n 1, 1) := by decide +kernel
theorem dX12_more_36 : decode cX12_more 36 = .ok (.baload, 1) := by decide +kernel
theorem dX12_more_37 : decode cX12_more 37 = .ok (.ifCond .ne 8, 3) := by decide +kernel
theorem dX12_more_40 : decode cX12_more 40 = .ok (.aload_n 0, 1) := by decide +kernel
theorem dX12_more_41 : decode cX12_more 41 = .ok (.iload_n 1, 1) := by decide +kernel
theorem dX12_more_42 : decode cX12_more 42 = .ok (.invokevirtual 196, 3) := by decide +kernel
theorem dX12_more_45 : decode cX12_more 45 = .ok (.aload_n 0, 1) := by decide +kernel
theorem dX12_more_46 : decode cX12_more 46 = .ok (.getfield 81, 3) := by decide +kernel
theorem dX12_more_49 : decode cX12_more 49 = .ok (.iload_n 1, 1) := by decide +kernel
theorem dX12_more_50 : decode cX12_more 50 = .ok (.iaload, 1) := by decide +kernel
theorem dX12_more_51 : decode cX12_more 51 = .ok (.istore_n 3, 1) := by decide +kernel
theorem dX12_more_52 : decode cX12_more 52 = .ok (.iload_n 3, 1) := by decide +kernel
theorem dX12_more_53 : decode cX12_more 53 = .ok (.ldc 124, 2) := by decide +kernel
theorem dX12_more_55 : decode cX12_more 55 = .ok (.if_icmp .lt 8, 3) := by decide +kernel
theorem dX12_more_58 : decode cX12_more 58 = .ok (.bipush (-5), 2) := by decide +kernel
theorem dX12_more_60 : decode cX12_more 60 = .ok (.goto 45, 3) := by decide +kernel
theorem dX12_more_63 : decode cX12_more 63 = .ok (.iload_n 2, 1) := by decide +kernel
theorem dX12_more_64 : decode cX12_more 64 = .ok (.ifCond .ne 7, 3) := by decide +kernel
theorem dX12_more_67 : decode cX12_more 67 = .ok (.iload_n 3, 1) := by decide +kernel
theorem dX12_more_68 : decode cX12_more 68 = .ok (.goto 37, 3) := by decide +kernel
theorem dX12_more_71 : decode cX12_more 71 = .ok (.iload_n 2, 1) := by decide +kernel
theorem dX12_more_72 : decode cX12_more 72 = .ok (.iconst 1, 1) := by decide +kernel
theorem dX12_more_73 : decode cX12_more 73 = .ok (.if_icmp .ne 12, 3) := by decide +kernel
theorem dX12_more_76 : decode cX12_more 76 = .ok (.aload_n 0, 1) := by decide +kernel
theorem dX12_more_77 : decode cX12_more 77 = .ok (.getfield 84, 3) := by decide +kernel
theorem dX12_more_80 : decode cX12_more 80 = .ok (.iload_n 1, 1) := by decide +kernel
theorem dX12_more_81 : decode cX12_more 81 = .ok (.iaload, 1) := by decide +kernel
theorem dX12_more_82 : decode cX12_more 82 = .ok (.goto 23, 3) := by decide +kernel
theorem dX12_more_85 : decode cX12_more 85 = .ok (.iload_n 2, 1) := by decide +kernel
theorem dX12_more_86 : decode cX12_more 86 = .ok (.iconst 2, 1) := by decide +kernel
theorem dX12_more_87 : decode cX12_more 87 = .ok (.if_icmp .ne 12, 3) := by decide +kernel
theorem dX12_more_90 : decode cX12_more 90 = .ok (.aload_n 0, 1) := by decide +kernel
theorem dX12_more_91 : decode cX12_more 91 = .ok (.getfield 87, 3) := by decide +kernel
theorem dX12_more_94 : decode cX12_more 94 = .ok (.iload_n 1, 1) := by decide +kernel
theorem dX12_more_95 : decode cX12_more 95 = .ok (.iaload, 1) := by decide +kernel
theorem dX12_more_96 : decode cX12_more 96 = .ok (.goto 9, 3) := by decide +kernel
theorem dX12_more_99 : decode cX12_more 99 = .ok (.aload_n 0, 1) := by decide +kernel
theorem dX12_more_100 : decode cX12_more 100 = .ok (.getfield 90, 3) := by decide +kernel
theorem dX12_more_103 : decode cX12_more 103 = .ok (.iload_n 1, 1) := by decide +kernel
theorem dX12_more_104 : decode cX12_more 104 = .ok (.iaload, 1) := by decide +kernel
theorem dX12_more_105 : decode cX12_more 105 = .ok (.ireturn, 1) := by decide +kernel
set_option maxRecDepth 20000 in
theorem ggX12_layMore_X12_totalOf : GoodIn wsX12_layMore wsX12_totalOf := goodIn_cut 24 (goodIn_r _ [14, 15, 16, 17, 18, 2, 19, 20, 21, 13, 22, 23, 24, 25, 26, 27, 28, 29, 30, 31, 32, 33, 1, 34] (by decide +kernel) (by decide +kernel)) (goodIn_cut 24 (goodIn_r _ [35, 36, 37, 3, 38, 39, 40, 4, 41, 42, 43, 44, 45, 46, 47, 48, 49, 50, 51, 52, 53, 54, 55, 56] (by decide +kernel) (by decide +kernel)) (goodIn_cut 24 (goodIn_r _ [57, 58, 59, 60, 61, 62, 63, 64, 65, 66, 67, 68, 69, 70, 71, 72, 73, 74, 75, 76, 77, 78, 79, 80] (by decide +kernel) (by decide +kernel)) (goodIn_r _ [81, 82, 83, 84, 85, 86, 87] (by decide +kernel) (by decide +kernel))))
set_option maxRecDepth 20000 in
theorem gX12_layMore_X12_totalOf : GoodIn wsX12_layMore (wsV RX12 193 RX12 yX12_totalOf wsX12_totalOf) := goodIn_app (goodIn_of _ (by decide +kernel)) ggX12_layMore_X12_totalOf
theorem dX12_layMore_0 : decode cX12_layMore 0 = .ok (.iconst 5, 1) := by decide +kernel
theorem dX12_layMore_1 : decode cX12_layMore 1 = .ok (.iload_n 1, 1) := by decide +kernel
theorem dX12_layMore_2 : decode cX12_layMore 2 = .ok (.imul, 1) := by decide +kernel
theorem dX12_layMore_3 : decode cX12_layMore 3 = .ok (.aload_n 0, 1) := by decide +kernel
theorem dX12_layMore_4 : decode cX12_layMore 4 = .ok (.getfield 13, 3) := by decide +kernel
theorem dX12_layMore_7 : decode cX12_layMore 7 = .ok (.iload_n 1, 1) := by decide +kernel
theorem dX12_layMore_8 : decode cX12_layMore 8 = .ok (.iaload, 1) := by decide +kernel
theorem dX12_layMore_9 : decode cX12_layMore 9 = .ok (.iadd, 1) := by decide +kernel
theorem dX12_layMore_10 : decode cX12_layMore 10 = .ok (.istore_n 2, 1) := by decide +kernel
theorem dX12_layMore_11 : decode cX12_layMore 11 = .ok (.ldc 124, 2) := by decide +kernel
theorem dX12_layMore_13 : decode cX12_layMore 13 = .ok (.istore_n 3, 1) := by decide +kernel
theorem dX12_layMore_14 : decode cX12_layMore 14 = .ok (.iconst 0, 1) := by decide +kernel
theorem dX12_layMore_15 : decode cX12_layMore 15 = .ok (.istore 4, 2) := by decide +kernel
theorem dX12_layMore_17 : decode cX12_layMore 17 = .ok (.bipush (-6), 2) := by decide +kernel
theorem dX12_layMore_19 : decode cX12_layMore 19 = .ok (.istore 5, 2) := by decide +kernel
theorem dX12_layMore_21 : decode cX12_layMore 21 = .ok (.bipush (-6), 2) := by decide +kernel
theorem dX12_layMore_23 : decode cX12_layMore 23 = .ok (.istore 6, 2) := by decide +kernel
theorem dX12_layMore_25 : decode cX12_layMore 25 = .ok (.aload_n 0, 1) := by decide +kernel
theorem dX12_layMore_26 : decode cX12_layMore 26 = .ok (.getfield 13, 3) := by decide +kernel
theorem dX12_layMore_29 : decode cX12_layMore 29 = .ok (.iload_n 1, 1) := by decide +kernel
theorem dX12_layMore_30 : decode cX12_layMore 30 = .ok (.dup2, 1) := by decide +kernel
theorem dX12_layMore_31 : decode cX12_layMore 31 = .ok (.iaload, 1) := by decide +kernel
theorem dX12_layMore_32 : decode cX12_layMore 32 = .ok (.iconst 1, 1) := by decide +kernel
theorem dX12_layMore_33 : decode cX12_layMore 33 = .ok (.iadd, 1) := by decide +kernel
theorem dX12_layMore_34 : decode cX12_layMore 34 = .ok (.iastore, 1) := by decide +kernel
theorem dX12_layMore_35 : decode cX12_layMore 35 = .ok (.iconst 0, 1) := by decide +kernel
theorem dX12_layMore_36 : decode cX12_layMore 36 = .ok (.istore 7, 2) := by decide +kernel
theorem dX12_layMore_38 : decode cX12_layMore 38 = .ok (.iload 7, 2) := by decide +kernel
theorem dX12_layMore_40 : decode cX12_layMore 40 = .ok (.bipush 27, 2) := by decide +kernel
theorem dX12_layMore_42 : decode cX12_layMore 42 = .ok (.if_icmp .ge 163, 3) := by decide +kernel
theorem dX12_layMore_45 : decode cX12_layMore 45 = .ok (.aload_n 0, 1) := by decide +kernel
theorem dX12_layMore_46 : decode cX12_layMore 46 = .ok (.getfield 16, 3) := by decide +kernel
theorem dX12_layMore_49 : decode cX12_layMore 49 = .ok (.iload_n 2, 1) := by decide +kernel
theorem dX12_layMore_50 : decode cX12_layMore 50 = .ok (.iload 7, 2) := by decide +kernel
theorem dX12_layMore_52 : decode cX12_layMore 52 = .ok (.ifCond .ne 7, 3) := by decide +kernel
theorem dX12_layMore_55 : decode cX12_layMore 55 = .ok (.iconst 0, 1) := by decide +kernel
theorem dX12_layMore_56 : decode cX12_layMore 56 = .ok (.goto 15, 3) := by decide +kernel
theorem dX12_layMore_59 : decode cX12_layMore 59 = .ok (.iload 7, 2) := by decide +kernel
theorem dX12_layMore_61 : decode cX12_layMore 61 = .ok (.bipush 11, 2) := by decide +kernel
theorem dX12_layMore_63 : decode cX12_layMore 63 = .ok (.if_icmp .ge 7, 3) := by decide +kernel
theorem dX12_layMore_66 : decode cX12_layMore 66 = .ok (.iconst 1, 1) := by decide +kernel
theorem dX12_layMore_67 : decode cX12_layMore 67 = .ok (.goto 4, 3) := by decide +kernel
theorem dX12_layMore_70 : decode cX12_layMore 70 = .ok (.iconst 2, 1) := by decide +kernel
theorem dX12_layMore_71 : decode cX12_layMore 71 = .ok (.iastore, 1) := by decide +kernel
theorem dX12_layMore_72 : decode cX12_layMore 72 = .ok (.aload_n 0, 1) := by decide +kernel
theorem dX12_layMore_73 : decode cX12_layMore 73 = .ok (.getfield 19, 3) := by decide +kernel
theorem dX12_layMore_76 : decode cX12_layMore 76 = .ok (.iconst 4, 1) := by decide +kernel
theorem dX12_layMore_77 : decode cX12_layMore 77 = .ok (.iload_n 2, 1) := by decide +kernel
theorem dX12_layMore_78 : decode cX12_layMore 78 = .ok (.imul, 1) := by decide +kernel
theorem dX12_layMore_79 : decode cX12_layMore 79 = .ok (.iload 7, 2) := by decide +kernel
theorem dX12_layMore_81 : decode cX12_layMore 81 = .ok (.iconst 5, 1) := by decide +kernel
theorem dX12_layMore_82 : decode cX12_layMore 82 = .ok (.if_icmp .ge 10, 3) := by decide +kernel
theorem dX12_layMore_85 : decode cX12_layMore 85 = .ok (.iload 7, 2) := by decide +kernel
theorem dX12_layMore_87 : decode cX12_layMore 87 = .ok (.iconst 1, 1) := by decide +kernel
theorem dX12_layMore_88 : decode cX12_layMore 88 = .ok (.isub, 1) := by decide +kernel
theorem dX12_layMore_89 : decode cX12_layMore 89 = .ok (.goto 27, 3) := by decide +kernel
theorem dX12_layMore_92 : decode cX12_layMore 92 = .ok (.iload 7, 2) := by decide +kernel
theorem dX12_layMore_94 : decode cX12_layMore 94 = .ok (.bipush 11, 2) := by decide +kernel
theorem dX12_layMore_96 : decode cX12_layMore 96 = .ok (.if_icmp .ge 13, 3) := by decide +kernel
theorem dX12_layMore_99 : decode cX12_layMore 99 = .ok (.bipush 10, 2) := by decide +kernel
theorem dX12_layMore_101 : decode cX12_layMore 101 = .ok (.iload 7, 2) := by decide +kernel
theorem dX12_layMore_103 : decode cX12_layMore 103 = .ok (.iadd, 1) := by decide +kernel
theorem dX12_layMore_104 : decode cX12_layMore 104 = .ok (.iconst 5, 1) := by decide +kernel
theorem dX12_layMore_105 : decode cX12_layMore 105 = .ok (.isub, 1) := by decide +kernel
theorem dX12_layMore_106 : decode cX12_layMore 106 = .ok (.goto 10, 3) := by decide +kernel
theorem dX12_layMore_109 : decode cX12_layMore 109 = .ok (.iload 7, 2) := by decide +kernel
theorem dX12_layMore_111 : decode cX12_layMore 111 = .ok (.bipush 11, 2) := by decide +kernel
theorem dX12_layMore_113 : decode cX12_layMore 113 = .ok (.isub, 1) := by decide +kernel
theorem dX12_layMore_114 : decode cX12_layMore 114 = .ok (.iconst 4, 1) := by decide +kernel
theorem dX12_layMore_115 : decode cX12_layMore 115 = .ok (.idiv, 1) := by decide +kernel
theorem dX12_layMore_116 : decode cX12_layMore 116 = .ok (.iastore, 1) := by decide +kernel
theorem dX12_layMore_117 : decode cX12_layMore 117 = .ok (.aload_n 0, 1) := by decide +kernel
theorem dX12_layMore_118 : decode cX12_layMore 118 = .ok (.getfield 19, 3) := by decide +kernel
theorem dX12_layMore_121 : decode cX12_layMore 121 = .ok (.iconst 4, 1) := by decide +kernel
theorem dX12_layMore_122 : decode cX12_layMore 122 = .ok (.iload_n 2, 1) := by decide +kernel
theorem dX12_layMore_123 : decode cX12_layMore 123 = .ok (.imul, 1) := by decide +kernel
theorem dX12_layMore_124 : decode cX12_layMore 124 = .ok (.iconst 1, 1) := by decide +kernel
theorem dX12_layMore_125 : decode cX12_layMore 125 = .ok (.iadd, 1) := by decide +kernel
theorem dX12_layMore_126 : decode cX12_layMore 126 = .ok (.iload 7, 2) := by decide +kernel
theorem dX12_layMore_128 : decode cX12_layMore 128 = .ok (.iconst 1, 1) := by decide +kernel
theorem dX12_layMore_129 : decode cX12_layMore 129 = .ok (.iadd, 1) := by decide +kernel
theorem dX12_layMore_130 : decode cX12_layMore 130 = .ok (.iconst 4, 1) := by decide +kernel
theorem dX12_layMore_131 : decode cX12_layMore 131 = .ok (.irem, 1) := by decide +kernel
theorem dX12_layMore_132 : decode cX12_layMore 132 = .ok (.iastore, 1) := by decide +kernel
theorem dX12_layMore_133 : decode cX12_layMore 133 = .ok (.aload_n 0, 1) := by decide +kernel
theorem dX12_layMore_134 : decode cX12_layMore 134 = .ok (.invokevirtual 193, 3) := by decide +kernel
theorem dX12_layMore_137 : decode cX12_layMore 137 = .ok (.istore 8, 2) := by decide +kernel
theorem dX12_layMore_139 : decode cX12_layMore 139 = .ok (.iload 8, 2) := by decide +kernel
theorem dX12_layMore_141 : decode cX12_layMore 141 = .ok (.iload_n 3, 1) := by decide +kernel
theorem dX12_layMore_142 : decode cX12_layMore 142 = .ok (.if_icmp .ge 57, 3) := by decide +kernel
theorem dX12_layMore_145 : decode cX12_layMore 145 = .ok (.iload 8, 2) := by decide +kernel
theorem dX12_layMore_147 : decode cX12_layMore 147 = .ok (.istore_n 3, 1) := by decide +kernel
theorem dX12_layMore_148 : decode cX12_layMore 148 = .ok (.aload_n 0, 1) := by decide +kernel
theorem dX12_layMore_149 : decode cX12_layMore 149 = .ok (.getfield 16, 3) := by decide +kernel
theorem dX12_layMore_152 : decode cX12_layMore 152 = .ok (.iload_n 2, 1) := by decide +kernel
theorem dX12_layMore_153 : decode cX12_layMore 153 = .ok (.iaload, 1) := by decide +kernel
theorem dX12_layMore_154 : decode cX12_layMore 154 = .ok (.istore 4, 2) := by decide +kernel
theorem dX12_layMore_156 : decode cX12_layMore 156 = .ok (.iload 4, 2) := by decide +kernel
theorem dX12_layMore_158 : decode cX12_layMore 158 = .ok (.ifCond .le 14, 3) := by decide +kernel
theorem dX12_layMore_161 : decode cX12_layMore 161 = .ok (.aload_n 0, 1) := by decide +kernel
theorem dX12_layMore_162 : decode cX12_layMore 162 = .ok (.getfield 19, 3) := by decide +kernel
theorem dX12_layMore_165 : decode cX12_layMore 165 = .ok (.iconst 4, 1) := by decide +kernel
theorem dX12_layMore_166 : decode cX12_layMore 166 = .ok (.iload_n 2, 1) := by decide +kernel
theorem dX12_layMore_167 : decode cX12_layMore 167 = .ok (.imul, 1) := by decide +kernel
theorem dX12_layMore_168 : decode cX12_layMore 168 = .ok (.iaload, 1) := by decide +kernel
theorem dX12_layMore_169 : decode cX12_layMore 169 = .ok (.goto 5, 3) := by decide +kernel
theorem dX12_layMore_172 : decode cX12_layMore 172 = .ok (.bipush (-6), 2) := by decide +kernel
theorem dX12_layMore_174 : decode cX12_layMore 174 = .ok (.istore 5, 2) := by decide +kernel
theorem dX12_layMore_176 : decode cX12_layMore 176 = .ok (.iload 4, 2) := by decide +kernel
theorem dX12_layMore_178 : decode cX12_layMore 178 = .ok (.iconst 1, 1) := by decide +kernel
theorem dX12_layMore_179 : decode cX12_layMore 179 = .ok (.if_icmp .le 16, 3) := by decide +kernel
theorem dX12_layMore_182 : decode cX12_layMore 182 = .ok (.aload_n 0, 1) := by decide +kernel
theorem dX12_layMore_183 : decode cX12_layMore 183 = .ok (.getfield 19, 3) := by decide +kernel
theorem dX12_layMore_186 : decode cX12_layMore 186 = .ok (.iconst 4, 1) := by decide +kernel
theorem dX12_layMore_187 : decode cX12_layMore 187 = .ok (.iload_n 2, 1) := by decide +kernel
theorem dX12_layMore_188 : decode cX12_layMore 188 = .ok (.imul, 1) := by decide +kernel
theorem dX12_layMore_189 : decode cX12_layMore 189 = .ok (.iconst 1, 1) := by decide +kernel
theorem dX12_layMore_190 : decode cX12_layMore 190 = .ok (.iadd, 1) := by decide +kernel
theorem dX12_layMore_191 : decode cX12_layMore 191 = .ok (.iaload, 1) := by decide +kernel
theorem dX12_layMore_192 : decode cX12_layMore 192 = .ok (.goto 5, 3) := by decide +kernel
theorem dX12_layMore_195 : decode cX12_layMore 195 = .ok (.bipush (-6), 2) := by decide +kernel
theorem dX12_layMore_197 : decode cX12_layMore 197 = .ok (.istore 6, 2) := by decide +kernel
theorem dX12_layMore_199 : decode cX12_layMore 199 = .ok (.iinc 7 1, 3) := by decide +kernel
theorem dX12_layMore_202 : decode cX12_layMore 202 = .ok (.goto (-164), 3) := by decide +kernel
theorem dX12_layMore_205 : decode cX12_layMore 205 = .ok (.aload_n 0, 1) := by decide +kernel
theorem dX12_layMore_206 : decode cX12_layMore 206 = .ok (.getfield 13, 3) := by decide +kernel
theorem dX12_layMore_209 : decode cX12_layMore 209 = .ok (.iload_n 1, 1) := by decide +kernel
theorem dX12_layMore_210 : decode cX12_layMore 210 = .ok (.dup2, 1) := by decide +kernel
theorem dX12_layMore_211 : decode cX12_layMore 211 = .ok (.iaload, 1) := by decide +kernel
theorem dX12_layMore_212 : decode cX12_layMore 212 = .ok (.iconst 1, 1) := by decide +kernel
theorem dX12_layMore_213 : decode cX12_layMore 213 = .ok (.isub, 1) := by decide +kernel
theorem dX12_layMore_214 : decode cX12_layMore 214 = .ok (.iastore, 1) := by decide +kernel
theorem dX12_layMore_215 : decode cX12_layMore 215 = .ok (.aload_n 0, 1) := by decide +kernel
theorem dX12_layMore_216 : decode cX12_layMore 216 = .ok (.getfield 78, 3) := by decide +kernel
theorem dX12_layMore_219 : decode cX12_layMore 219 = .ok (.iload_n 1, 1) := by decide +kernel
theorem dX12_layMore_220 : decode cX12_layMore 220 = .ok (.iconst 1, 1) := by decide +kernel
theorem dX12_layMore_221 : decode cX12_layMore 221 = .ok (.bastore, 1) := by decide +kernel
theorem dX12_layMore_222 : decode cX12_layMore 222 = .ok (.aload_n 0, 1) := by decide +kernel
theorem dX12_layMore_223 : decode cX12_layMore 223 = .ok (.getfield 81, 3) := by decide +kernel
theorem dX12_layMore_226 : decode cX12_layMore 226 = .ok (.iload_n 1, 1) := by decide +kernel
theorem dX12_layMore_227 : decode cX12_layMore 227 = .ok (.iload_n 3, 1) := by decide +kernel
theorem dX12_layMore_228 : decode cX12_layMore 228 = .ok (.iastore, 1) := by decide +kernel
theorem dX12_layMore_229 : decode cX12_layMore 229 = .ok (.aload_n 0, 1) := by decide +kernel
theorem dX12_layMore_230 : decode cX12_layMore 230 = .ok (.getfield 84, 3) := by decide +kernel
theorem dX12_layMore_233 : decode cX12_layMore 233 = .ok (.iload_n 1, 1) := by decide +kernel
theorem dX12_layMore_234 : decode cX12_layMore 234 = .ok (.iload 4, 2) := by decide +kernel
theorem dX12_layMore_236 : decode cX12_layMore 236 = .ok (.iastore, 1) := by decide +kernel
theorem dX12_layMore_237 : decode cX12_layMore 237 = .ok (.aload_n 0, 1) := by decide +kernel
theorem dX12_layMore_238 : decode cX12_layMore 238 = .ok (.getfield 87, 3) := by decide +kernel
theorem dX12_layMore_241 : decode cX12_layMore 241 = .ok (.iload_n 1, 1) := by decide +kernel
theorem dX12_layMore_242 : decode cX12_layMore 242 = .ok (.iload 5, 2) := by decide +kernel
theorem dX12_layMore_244 : decode cX12_layMore 244 = .ok (.iastore, 1) := by decide +kernel
theorem dX12_layMore_245 : decode cX12_layMore 245 = .ok (.aload_n 0, 1) := by decide +kernel
theorem dX12_layMore_246 : decode cX12_layMore 246 = .ok (.getfield 90, 3) := by decide +kernel
theorem dX12_layMore_249 : decode cX12_layMore 249 = .ok (.iload_n 1, 1) := by decide +kernel
theorem dX12_layMore_250 : decode cX12_layMore 250 = .ok (.iload 6, 2) := by decide +kernel
theorem dX12_layMore_252 : decode cX12_layMore 252 = .ok (.iastore, 1) := by decide +kernel
theorem dX12_layMore_253 : decode cX12_layMore 253 = .ok (.return_, 1) := by decide +kernel
set_option maxRecDepth 20000 in
theorem ggX12_told_X12_in : GoodIn wsX12_told wsX12_in := goodIn_r _ [10] (by decide +kernel) (by decide +kernel)
set_option maxRecDepth 20000 in
theorem gX12_told_X12_in : GoodIn wsX12_told (va_wsS RX12 93 yX12_in wsX12_in) := goodIn_app (goodIn_of _ (by decide +kernel)) ggX12_told_X12_in
theorem dX12_told_0 : decode cX12_told 0 = .ok (.iconst 0, 1) := by decide +kernel
theorem dX12_told_1 : decode cX12_told 1 = .ok (.istore_n 2, 1) := by decide +kernel
theorem dX12_told_2 : decode cX12_told 2 = .ok (.iconst 0, 1) := by decide +kernel
theorem dX12_told_3 : decode cX12_told 3 = .ok (.istore_n 3, 1) := by decide +kernel
theorem dX12_told_4 : decode cX12_told 4 = .ok (.iload_n 3, 1) := by decide +kernel
theorem dX12_told_5 : decode cX12_told 5 = .ok (.bipush 6, 2) := by decide +kernel
theorem dX12_told_7 : decode cX12_told 7 = .ok (.if_icmp .ge 28, 3) := by decide +kernel
theorem dX12_told_10 : decode cX12_told 10 = .ok (.iload_n 2, 1) := by decide +kernel
theorem dX12_told_11 : decode cX12_told 11 = .ok (.aload_n 0, 1) := by decide +kernel
theorem dX12_told_12 : decode cX12_told 12 = .ok (.getfield 13, 3) := by decide +kernel
theorem dX12_told_15 : decode cX12_told 15 = .ok (.iload_n 3, 1) := by decide +kernel
theorem dX12_told_16 : decode cX12_told 16 = .ok (.iaload, 1) := by decide +kernel
theorem dX12_told_17 : decode cX12_told 17 = .ok (.ifCond .le 9, 3) := by decide +kernel
theorem dX12_told_20 : decode cX12_told 20 = .ok (.iconst 1, 1) := by decide +kernel
theorem dX12_told_21 : decode cX12_told 21 = .ok (.iload_n 3, 1) := by decide +kernel
theorem dX12_told_22 : decode cX12_told 22 = .ok (.ishl, 1) := by decide +kernel
theorem dX12_told_23 : decode cX12_told 23 = .ok (.goto 4, 3) := by decide +kernel
theorem dX12_told_26 : decode cX12_told 26 = .ok (.iconst 0, 1) := by decide +kernel
theorem dX12_told_27 : decode cX12_told 27 = .ok (.ior, 1) := by decide +kernel
theorem dX12_told_28 : decode cX12_told 28 = .ok (.istore_n 2, 1) := by decide +kernel
theorem dX12_told_29 : decode cX12_told 29 = .ok (.iinc 3 1, 3) := by decide +kernel
theorem dX12_told_32 : decode cX12_told 32 = .ok (.goto (-28), 3) := by decide +kernel
theorem dX12_told_35 : decode cX12_told 35 = .ok (.iload_n 1, 1) := by decide +kernel
theorem dX12_told_36 : decode cX12_told 36 = .ok (.bipush 10, 2) := by decide +kernel
theorem dX12_told_38 : decode cX12_told 38 = .ok (.bipush 15, 2) := by decide +kernel
theorem dX12_told_40 : decode cX12_told 40 = .ok (.invokestatic 93, 3) := by decide +kernel
theorem dX12_told_43 : decode cX12_told 43 = .ok (.ifCond .eq 13, 3) := by decide +kernel
theorem dX12_told_46 : decode cX12_told 46 = .ok (.aload_n 0, 1) := by decide +kernel
theorem dX12_told_47 : decode cX12_told 47 = .ok (.getfield 13, 3) := by decide +kernel
theorem dX12_told_50 : decode cX12_told 50 = .ok (.iload_n 1, 1) := by decide +kernel
theorem dX12_told_51 : decode cX12_told 51 = .ok (.bipush 10, 2) := by decide +kernel
theorem dX12_told_53 : decode cX12_told 53 = .ok (.isub, 1) := by decide +kernel
theorem dX12_told_54 : decode cX12_told 54 = .ok (.iaload, 1) := by decide +kernel
theorem dX12_told_55 : decode cX12_told 55 = .ok (.ireturn, 1) := by decide +kernel
theorem dX12_told_56 : decode cX12_told 56 = .ok (.iload_n 1, 1) := by decide +kernel
theorem dX12_told_57 : decode cX12_told 57 = .ok (.ifCond .ne 10, 3) := by decide +kernel
theorem dX12_told_60 : decode cX12_told 60 = .ok (.aload_n 0, 1) := by decide +kernel
theorem dX12_told_61 : decode cX12_told 61 = .ok (.getfield 97, 3) := by decide +kernel
theorem dX12_told_64 : decode cX12_told 64 = .ok (.goto 71, 3) := by decide +kernel
theorem dX12_told_67 : decode cX12_told 67 = .ok (.iload_n 1, 1) := by decide +kernel
theorem dX12_told_68 : decode cX12_told 68 = .ok (.iconst 1, 1) := by decide +kernel
theorem dX12_told_69 : decode cX12_told 69 = .ok (.if_icmp .ne 7, 3) := by decide +kernel
theorem dX12_told_72 : decode cX12_told 72 = .ok (.iload_n 2, 1) := by decide +kernel
theorem dX12_told_73 : decode cX12_told 73 = .ok (.goto 62, 3) := by decide +kernel
theorem dX12_told_76 : decode cX12_told 76 = .ok (.iload_n 1, 1) := by decide +kernel
theorem dX12_told_77 : decode cX12_told 77 = .ok (.iconst 2, 1) := by decide +kernel
theorem dX12_told_78 : decode cX12_told 78 = .ok (.if_icmp .ne 10, 3) := by decide +kernel
theorem dX12_told_81 : decode cX12_told 81 = .ok (.aload_n 0, 1) := by decide +kernel
theorem dX12_told_82 : decode cX12_told 82 = .ok (.getfield 105, 3) := by decide +kernel
theorem dX12_told_85 : decode cX12_told 85 = .ok (.goto 50, 3) := by decide +kernel
theorem dX12_told_88 : decode cX12_told 88 = .ok (.iload_n 1, 1) := by decide +kernel
theorem dX12_told_89 : decode cX12_told 89 = .ok (.iconst 3, 1) := by decide +kernel
theorem dX12_told_90 : decode cX12_told 90 = .ok (.if_icmp .ne 10, 3) := by decide +kernel
theorem dX12_told_93 : decode cX12_told 93 = .ok (.aload_n 0, 1) := by decide +kernel
theorem dX12_told_94 : decode cX12_told 94 = .ok (.getfield 140, 3) := by decide +kernel
theorem dX12_told_97 : decode cX12_told 97 = .ok (.goto 38, 3) := by decide +kernel
theorem dX12_told_100 : decode cX12_told 100 = .ok (.iload_n 1, 1) := by decide +kernel
theorem dX12_told_101 : decode cX12_told 101 = .ok (.iconst 4, 1) := by decide +kernel
theorem dX12_told_102 : decode cX12_told 102 = .ok (.if_icmp .ne 10, 3) := by decide +kernel
theorem dX12_told_105 : decode cX12_told 105 = .ok (.aload_n 0, 1) := by decide +kernel
theorem dX12_told_106 : decode cX12_told 106 = .ok (.getfield 187, 3) := by decide +kernel
theorem dX12_told_109 : decode cX12_told 109 = .ok (.goto 26, 3) := by decide +kernel
theorem dX12_told_112 : decode cX12_told 112 = .ok (.iload_n 1, 1) := by decide +kernel
theorem dX12_told_113 : decode cX12_told 113 = .ok (.iconst 5, 1) := by decide +kernel
theorem dX12_told_114 : decode cX12_told 114 = .ok (.bipush 7, 2) := by decide +kernel
theorem dX12_told_116 : decode cX12_told 116 = .ok (.invokestatic 93, 3) := by decide +kernel
theorem dX12_told_119 : decode cX12_told 119 = .ok (.ifCond .eq 14, 3) := by decide +kernel
theorem dX12_told_122 : decode cX12_told 122 = .ok (.aload_n 0, 1) := by decide +kernel
theorem dX12_told_123 : decode cX12_told 123 = .ok (.getfield 31, 3) := by decide +kernel
theorem dX12_told_126 : decode cX12_told 126 = .ok (.iload_n 1, 1) := by decide +kernel
theorem dX12_told_127 : decode cX12_told 127 = .ok (.iconst 5, 1) := by decide +kernel
theorem dX12_told_128 : decode cX12_told 128 = .ok (.isub, 1) := by decide +kernel
theorem dX12_told_129 : decode cX12_told 129 = .ok (.iaload, 1) := by decide +kernel
theorem dX12_told_130 : decode cX12_told 130 = .ok (.goto 5, 3) := by decide +kernel
theorem dX12_told_133 : decode cX12_told 133 = .ok (.bipush (-2), 2) := by decide +kernel
theorem dX12_told_135 : decode cX12_told 135 = .ok (.ireturn, 1) := by decide +kernel
theorem dJ6_bitCount_0f7a4_0 : decode cJ6_bitCount_0f7a4 0 = .ok (.iload_n 0, 1) := by decide +kernel
theorem dJ6_bitCount_0f7a4_1 : decode cJ6_bitCount_0f7a4 1 = .ok (.iload_n 0, 1) := by decide +kernel
theorem dJ6_bitCount_0f7a4_2 : decode cJ6_bitCount_0f7a4 2 = .ok (.iconst 1, 1) := by decide +kernel
theorem dJ6_bitCount_0f7a4_3 : decode cJ6_bitCount_0f7a4 3 = .ok (.iushr, 1) := by decide +kernel
theorem dJ6_bitCount_0f7a4_4 : decode cJ6_bitCount_0f7a4 4 = .ok (.ldc_w 265, 3) := by decide +kernel
theorem dJ6_bitCount_0f7a4_7 : decode cJ6_bitCount_0f7a4 7 = .ok (.iand, 1) := by decide +kernel
theorem dJ6_bitCount_0f7a4_8 : decode cJ6_bitCount_0f7a4 8 = .ok (.isub, 1) := by decide +kernel
theorem dJ6_bitCount_0f7a4_9 : decode cJ6_bitCount_0f7a4 9 = .ok (.istore_n 0, 1) := by decide +kernel
theorem dJ6_bitCount_0f7a4_10 : decode cJ6_bitCount_0f7a4 10 = .ok (.iload_n 0, 1) := by decide +kernel
theorem dJ6_bitCount_0f7a4_11 : decode cJ6_bitCount_0f7a4 11 = .ok (.ldc_w 266, 3) := by decide +kernel
theorem dJ6_bitCount_0f7a4_14 : decode cJ6_bitCount_0f7a4 14 = .ok (.iand, 1) := by decide +kernel
theorem dJ6_bitCount_0f7a4_15 : decode cJ6_bitCount_0f7a4 15 = .ok (.iload_n 0, 1) := by decide +kernel
theorem dJ6_bitCount_0f7a4_16 : decode cJ6_bitCount_0f7a4 16 = .ok (.iconst 2, 1) := by decide +kernel
theorem dJ6_bitCount_0f7a4_17 : decode cJ6_bitCount_0f7a4 17 = .ok (.iushr, 1) := by decide +kernel
theorem dJ6_bitCount_0f7a4_18 : decode cJ6_bitCount_0f7a4 18 = .ok (.ldc_w 266, 3) := by decide +kernel
theorem dJ6_bitCount_0f7a4_21 : decode cJ6_bitCount_0f7a4 21 = .ok (.iand, 1) := by decide +kernel
theorem dJ6_bitCount_0f7a4_22 : decode cJ6_bitCount_0f7a4 22 = .ok (.iadd, 1) := by decide +kernel
theorem dJ6_bitCount_0f7a4_23 : decode cJ6_bitCount_0f7a4 23 = .ok (.istore_n 0, 1) := by decide +kernel
theorem dJ6_bitCount_0f7a4_24 : decode cJ6_bitCount_0f7a4 24 = .ok (.iload_n 0, 1) := by decide +kernel
theorem dJ6_bitCount_0f7a4_25 : decode cJ6_bitCount_0f7a4 25 = .ok (.iload_n 0, 1) := by decide +kernel
theorem dJ6_bitCount_0f7a4_26 : decode cJ6_bitCount_0f7a4 26 = .ok (.iconst 4, 1) := by decide +kernel
theorem dJ6_bitCount_0f7a4_27 : decode cJ6_bitCount_0f7a4 27 = .ok (.iushr, 1) := by decide +kernel
theorem dJ6_bitCount_0f7a4_28 : decode cJ6_bitCount_0f7a4 28 = .ok (.iadd, 1) := by decide +kernel
theorem dJ6_bitCount_0f7a4_29 : decode cJ6_bitCount_0f7a4 29 = .ok (.ldc_w 267, 3) := by decide +kernel
theorem dJ6_bitCount_0f7a4_32 : decode cJ6_bitCount_0f7a4 32 = .ok (.iand, 1) := by decide +kernel
theorem dJ6_bitCount_0f7a4_33 : decode cJ6_bitCount_0f7a4 33 = .ok (.istore_n 0, 1) := by decide +kernel
theorem dJ6_bitCount_0f7a4_34 : decode cJ6_bitCount_0f7a4 34 = .ok (.iload_n 0, 1) := by decide +kernel
theorem dJ6_bitCount_0f7a4_35 : decode cJ6_bitCount_0f7a4 35 = .ok (.iload_n 0, 1) := by decide +kernel
theorem dJ6_bitCount_0f7a4_36 : decode cJ6_bitCount_0f7a4 36 = .ok (.bipush 8, 2) := by decide +kernel
theorem dJ6_bitCount_0f7a4_38 : decode cJ6_bitCount_0f7a4 38 = .ok (.iushr, 1) := by decide +kernel
theorem dJ6_bitCount_0f7a4_39 : decode cJ6_bitCount_0f7a4 39 = .ok (.iadd, 1) := by decide +kernel
theorem dJ6_bitCount_0f7a4_40 : decode cJ6_bitCount_0f7a4 40 = .ok (.istore_n 0, 1) := by decide +kernel
theorem dJ6_bitCount_0f7a4_41 : decode cJ6_bitCount_0f7a4 41 = .ok (.iload_n 0, 1) := by decide +kernel
theorem dJ6_bitCount_0f7a4_42 : decode cJ6_bitCount_0f7a4 42 = .ok (.iload_n 0, 1) := by decide +kernel
theorem dJ6_bitCount_0f7a4_43 : decode cJ6_bitCount_0f7a4 43 = .ok (.bipush 16, 2) := by decide +kernel
theorem dJ6_bitCount_0f7a4_45 : decode cJ6_bitCount_0f7a4 45 = .ok (.iushr, 1) := by decide +kernel
theorem dJ6_bitCount_0f7a4_46 : decode cJ6_bitCount_0f7a4 46 = .ok (.iadd, 1) := by decide +kernel
theorem dJ6_bitCount_0f7a4_47 : decode cJ6_bitCount_0f7a4 47 = .ok (.istore_n 0, 1) := by decide +kernel
theorem dJ6_bitCount_0f7a4_48 : decode cJ6_bitCount_0f7a4 48 = .ok (.iload_n 0, 1) := by decide +kernel
theorem dJ6_bitCount_0f7a4_49 : decode cJ6_bitCount_0f7a4 49 = .ok (.bipush 63, 2) := by decide +kernel
theorem dJ6_bitCount_0f7a4_51 : decode cJ6_bitCount_0f7a4 51 = .ok (.iand, 1) := by decide +kernel
theorem dJ6_bitCount_0f7a4_52 : decode cJ6_bitCount_0f7a4 52 = .ok (.ireturn, 1) := by decide +kernel
theorem dJ9_max_7cf53_0 : decode cJ9_max_7cf53 0 = .ok (.iload_n 0, 1) := by decide +kernel
theorem dJ9_max_7cf53_1 : decode cJ9_max_7cf53 1 = .ok (.iload_n 1, 1) := by decide +kernel
theorem dJ9_max_7cf53_2 : decode cJ9_max_7cf53 2 = .ok (.if_icmp .lt 7, 3) := by decide +kernel
theorem dJ9_max_7cf53_5 : decode cJ9_max_7cf53 5 = .ok (.iload_n 0, 1) := by decide +kernel
theorem dJ9_max_7cf53_6 : decode cJ9_max_7cf53 6 = .ok (.goto 4, 3) := by decide +kernel
theorem dJ9_max_7cf53_9 : decode cJ9_max_7cf53 9 = .ok (.iload_n 1, 1) := by decide +kernel
theorem dJ9_max_7cf53_10 : decode cJ9_max_7cf53 10 = .ok (.ireturn, 1) := by decide +kernel
theorem dJ9_min_7cf53_0 : decode cJ9_min_7cf53 0 = .ok (.iload_n 0, 1) := by decide +kernel
theorem dJ9_min_7cf53_1 : decode cJ9_min_7cf53 1 = .ok (.iload_n 1, 1) := by decide +kernel
theorem dJ9_min_7cf53_2 : decode cJ9_min_7cf53 2 = .ok (.if_icmp .gt 7, 3) := by decide +kernel
theorem dJ9_min_7cf53_5 : decode cJ9_min_7cf53 5 = .ok (.iload_n 0, 1) := by decide +kernel
theorem dJ9_min_7cf53_6 : decode cJ9_min_7cf53 6 = .ok (.goto 4, 3) := by decide +kernel
theorem dJ9_min_7cf53_9 : decode cJ9_min_7cf53 9 = .ok (.iload_n 1, 1) := by decide +kernel
theorem dJ9_min_7cf53_10 : decode cJ9_min_7cf53 10 = .ok (.ireturn, 1) := by decide +kernel
theorem dJ9_min_f86c9_0 : decode cJ9_min_f86c9 0 = .ok (.lload_n 0, 1) := by decide +kernel
theorem dJ9_min_f86c9_1 : decode cJ9_min_f86c9 1 = .ok (.lload_n 2, 1) := by decide +kernel
theorem dJ9_min_f86c9_2 : decode cJ9_min_f86c9 2 = .ok (.lcmp, 1) := by decide +kernel
theorem dJ9_min_f86c9_3 : decode cJ9_min_f86c9 3 = .ok (.ifCond .gt 7, 3) := by decide +kernel
theorem dJ9_min_f86c9_6 : decode cJ9_min_f86c9 6 = .ok (.lload_n 0, 1) := by decide +kernel
theorem dJ9_min_f86c9_7 : decode cJ9_min_f86c9 7 = .ok (.goto 4, 3) := by decide +kernel
theorem dJ9_min_f86c9_10 : decode cJ9_min_f86c9 10 = .ok (.lload_n 2, 1) := by decide +kernel
theorem dJ9_min_f86c9_11 : decode cJ9_min_f86c9 11 = .ok (.lreturn, 1) := by decide +kernel
theorem dJ7_fill_53178_0 : decode cJ7_fill_53178 0 = .ok (.iconst 0, 1) := by decide +kernel
theorem dJ7_fill_53178_1 : decode cJ7_fill_53178 1 = .ok (.istore_n 2, 1) := by decide +kernel
theorem dJ7_fill_53178_2 : decode cJ7_fill_53178 2 = .ok (.aload_n 0, 1) := by decide +kernel
theorem dJ7_fill_53178_3 : decode cJ7_fill_53178 3 = .ok (.arraylength, 1) := by decide +kernel
theorem dJ7_fill_53178_4 : decode cJ7_fill_53178 4 = .ok (.istore_n 3, 1) := by decide +kernel
theorem dJ7_fill_53178_5 : decode cJ7_fill_53178 5 = .ok (.iload_n 2, 1) := by decide +kernel
theorem dJ7_fill_53178_6 : decode cJ7_fill_53178 6 = .ok (.iload_n 3, 1) := by decide +kernel
theorem dJ7_fill_53178_7 : decode cJ7_fill_53178 7 = .ok (.if_icmp .ge 13, 3) := by decide +kernel
theorem dJ7_fill_53178_10 : decode cJ7_fill_53178 10 = .ok (.aload_n 0, 1) := by decide +kernel
theorem dJ7_fill_53178_11 : decode cJ7_fill_53178 11 = .ok (.iload_n 2, 1) := by decide +kernel
theorem dJ7_fill_53178_12 : decode cJ7_fill_53178 12 = .ok (.iload_n 1, 1) := by decide +kernel
theorem dJ7_fill_53178_13 : decode cJ7_fill_53178 13 = .ok (.iastore, 1) := by decide +kernel
theorem dJ7_fill_53178_14 : decode cJ7_fill_53178 14 = .ok (.iinc 2 1, 3) := by decide +kernel
theorem dJ7_fill_53178_17 : decode cJ7_fill_53178 17 = .ok (.goto (-12), 3) := by decide +kernel
theorem dJ7_fill_53178_20 : decode cJ7_fill_53178 20 = .ok (.return_, 1) := by decide +kernel
