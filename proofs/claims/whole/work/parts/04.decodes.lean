theorem dX12_init_0 : decode cX12_init 0 = .ok (.aload_n 0, 1) := by decide +kernel
theorem dX12_init_1 : decode cX12_init 1 = .ok (.invokespecial 1, 3) := by decide +kernel
theorem dX12_init_4 : decode cX12_init 4 = .ok (.aload_n 0, 1) := by decide +kernel
theorem dX12_init_5 : decode cX12_init 5 = .ok (.bipush 60, 2) := by decide +kernel
theorem dX12_init_7 : decode cX12_init 7 = .ok (.newarray .int, 2) := by decide +kernel
theorem dX12_init_9 : decode cX12_init 9 = .ok (.putfield 7, 3) := by decide +kernel
theorem dX12_init_12 : decode cX12_init 12 = .ok (.aload_n 0, 1) := by decide +kernel
theorem dX12_init_13 : decode cX12_init 13 = .ok (.bipush 6, 2) := by decide +kernel
theorem dX12_init_15 : decode cX12_init 15 = .ok (.newarray .int, 2) := by decide +kernel
theorem dX12_init_17 : decode cX12_init 17 = .ok (.putfield 13, 3) := by decide +kernel
theorem dX12_init_20 : decode cX12_init 20 = .ok (.aload_n 0, 1) := by decide +kernel
theorem dX12_init_21 : decode cX12_init 21 = .ok (.bipush 30, 2) := by decide +kernel
theorem dX12_init_23 : decode cX12_init 23 = .ok (.newarray .int, 2) := by decide +kernel
theorem dX12_init_25 : decode cX12_init 25 = .ok (.putfield 16, 3) := by decide +kernel
theorem dX12_init_28 : decode cX12_init 28 = .ok (.aload_n 0, 1) := by decide +kernel
theorem dX12_init_29 : decode cX12_init 29 = .ok (.bipush 120, 2) := by decide +kernel
theorem dX12_init_31 : decode cX12_init 31 = .ok (.newarray .int, 2) := by decide +kernel
theorem dX12_init_33 : decode cX12_init 33 = .ok (.putfield 19, 3) := by decide +kernel
theorem dX12_init_36 : decode cX12_init 36 = .ok (.aload_n 0, 1) := by decide +kernel
theorem dX12_init_37 : decode cX12_init 37 = .ok (.bipush 6, 2) := by decide +kernel
theorem dX12_init_39 : decode cX12_init 39 = .ok (.newarray .int, 2) := by decide +kernel
theorem dX12_init_41 : decode cX12_init 41 = .ok (.putfield 22, 3) := by decide +kernel
theorem dX12_init_44 : decode cX12_init 44 = .ok (.aload_n 0, 1) := by decide +kernel
theorem dX12_init_45 : decode cX12_init 45 = .ok (.iconst 3, 1) := by decide +kernel
theorem dX12_init_46 : decode cX12_init 46 = .ok (.newarray .int, 2) := by decide +kernel
theorem dX12_init_48 : decode cX12_init 48 = .ok (.putfield 25, 3) := by decide +kernel
theorem dX12_init_51 : decode cX12_init 51 = .ok (.aload_n 0, 1) := by decide +kernel
theorem dX12_init_52 : decode cX12_init 52 = .ok (.bipush 18, 2) := by decide +kernel
theorem dX12_init_54 : decode cX12_init 54 = .ok (.newarray .int, 2) := by decide +kernel
theorem dX12_init_56 : decode cX12_init 56 = .ok (.putfield 28, 3) := by decide +kernel
theorem dX12_init_59 : decode cX12_init 59 = .ok (.aload_n 0, 1) := by decide +kernel
theorem dX12_init_60 : decode cX12_init 60 = .ok (.iconst 3, 1) := by decide +kernel
theorem dX12_init_61 : decode cX12_init 61 = .ok (.newarray .int, 2) := by decide +kernel
theorem dX12_init_63 : decode cX12_init 63 = .ok (.putfield 31, 3) := by decide +kernel
theorem dX12_init_66 : decode cX12_init 66 = .ok (.aload_n 0, 1) := by decide +kernel
theorem dX12_init_67 : decode cX12_init 67 = .ok (.bipush 6, 2) := by decide +kernel
theorem dX12_init_69 : decode cX12_init 69 = .ok (.newarray .int, 2) := by decide +kernel
theorem dX12_init_71 : decode cX12_init 71 = .ok (.putfield 34, 3) := by decide +kernel
theorem dX12_init_74 : decode cX12_init 74 = .ok (.aload_n 0, 1) := by decide +kernel
theorem dX12_init_75 : decode cX12_init 75 = .ok (.sipush 294, 3) := by decide +kernel
theorem dX12_init_78 : decode cX12_init 78 = .ok (.newarray .int, 2) := by decide +kernel
theorem dX12_init_80 : decode cX12_init 80 = .ok (.putfield 37, 3) := by decide +kernel
theorem dX12_init_83 : decode cX12_init 83 = .ok (.aload_n 0, 1) := by decide +kernel
theorem dX12_init_84 : decode cX12_init 84 = .ok (.sipush 294, 3) := by decide +kernel
theorem dX12_init_87 : decode cX12_init 87 = .ok (.newarray .int, 2) := by decide +kernel
theorem dX12_init_89 : decode cX12_init 89 = .ok (.putfield 40, 3) := by decide +kernel
theorem dX12_init_92 : decode cX12_init 92 = .ok (.aload_n 0, 1) := by decide +kernel
theorem dX12_init_93 : decode cX12_init 93 = .ok (.sipush 294, 3) := by decide +kernel
theorem dX12_init_96 : decode cX12_init 96 = .ok (.newarray .int, 2) := by decide +kernel
theorem dX12_init_98 : decode cX12_init 98 = .ok (.putfield 43, 3) := by decide +kernel
theorem dX12_init_101 : decode cX12_init 101 = .ok (.aload_n 0, 1) := by decide +kernel
theorem dX12_init_102 : decode cX12_init 102 = .ok (.bipush 35, 2) := by decide +kernel
theorem dX12_init_104 : decode cX12_init 104 = .ok (.newarray .int, 2) := by decide +kernel
theorem dX12_init_106 : decode cX12_init 106 = .ok (.putfield 46, 3) := by decide +kernel
theorem dX12_init_109 : decode cX12_init 109 = .ok (.aload_n 0, 1) := by decide +kernel
theorem dX12_init_110 : decode cX12_init 110 = .ok (.bipush 35, 2) := by decide +kernel
theorem dX12_init_112 : decode cX12_init 112 = .ok (.newarray .int, 2) := by decide +kernel
theorem dX12_init_114 : decode cX12_init 114 = .ok (.putfield 49, 3) := by decide +kernel
theorem dX12_init_117 : decode cX12_init 117 = .ok (.aload_n 0, 1) := by decide +kernel
theorem dX12_init_118 : decode cX12_init 118 = .ok (.bipush 35, 2) := by decide +kernel
theorem dX12_init_120 : decode cX12_init 120 = .ok (.newarray .int, 2) := by decide +kernel
theorem dX12_init_122 : decode cX12_init 122 = .ok (.putfield 52, 3) := by decide +kernel
theorem dX12_init_125 : decode cX12_init 125 = .ok (.aload_n 0, 1) := by decide +kernel
theorem dX12_init_126 : decode cX12_init 126 = .ok (.sipush 294, 3) := by decide +kernel
theorem dX12_init_129 : decode cX12_init 129 = .ok (.newarray .boolean, 2) := by decide +kernel
theorem dX12_init_131 : decode cX12_init 131 = .ok (.putfield 55, 3) := by decide +kernel
theorem dX12_init_134 : decode cX12_init 134 = .ok (.aload_n 0, 1) := by decide +kernel
theorem dX12_init_135 : decode cX12_init 135 = .ok (.bipush 35, 2) := by decide +kernel
theorem dX12_init_137 : decode cX12_init 137 = .ok (.newarray .boolean, 2) := by decide +kernel
theorem dX12_init_139 : decode cX12_init 139 = .ok (.putfield 59, 3) := by decide +kernel
theorem dX12_init_142 : decode cX12_init 142 = .ok (.aload_n 0, 1) := by decide +kernel
theorem dX12_init_143 : decode cX12_init 143 = .ok (.bipush 12, 2) := by decide +kernel
theorem dX12_init_145 : decode cX12_init 145 = .ok (.newarray .int, 2) := by decide +kernel
theorem dX12_init_147 : decode cX12_init 147 = .ok (.putfield 62, 3) := by decide +kernel
theorem dX12_init_150 : decode cX12_init 150 = .ok (.aload_n 0, 1) := by decide +kernel
theorem dX12_init_151 : decode cX12_init 151 = .ok (.bipush 91, 2) := by decide +kernel
theorem dX12_init_153 : decode cX12_init 153 = .ok (.newarray .int, 2) := by decide +kernel
theorem dX12_init_155 : decode cX12_init 155 = .ok (.putfield 65, 3) := by decide +kernel
theorem dX12_init_158 : decode cX12_init 158 = .ok (.aload_n 0, 1) := by decide +kernel
theorem dX12_init_159 : decode cX12_init 159 = .ok (.bipush 91, 2) := by decide +kernel
theorem dX12_init_161 : decode cX12_init 161 = .ok (.newarray .int, 2) := by decide +kernel
theorem dX12_init_163 : decode cX12_init 163 = .ok (.putfield 68, 3) := by decide +kernel
theorem dX12_init_166 : decode cX12_init 166 = .ok (.aload_n 0, 1) := by decide +kernel
theorem dX12_init_167 : decode cX12_init 167 = .ok (.bipush 91, 2) := by decide +kernel
theorem dX12_init_169 : decode cX12_init 169 = .ok (.newarray .long, 2) := by decide +kernel
theorem dX12_init_171 : decode cX12_init 171 = .ok (.putfield 71, 3) := by decide +kernel
theorem dX12_init_174 : decode cX12_init 174 = .ok (.aload_n 0, 1) := by decide +kernel
theorem dX12_init_175 : decode cX12_init 175 = .ok (.bipush 91, 2) := by decide +kernel
theorem dX12_init_177 : decode cX12_init 177 = .ok (.newarray .long, 2) := by decide +kernel
theorem dX12_init_179 : decode cX12_init 179 = .ok (.putfield 75, 3) := by decide +kernel
theorem dX12_init_182 : decode cX12_init 182 = .ok (.aload_n 0, 1) := by decide +kernel
theorem dX12_init_183 : decode cX12_init 183 = .ok (.bipush 6, 2) := by decide +kernel
theorem dX12_init_185 : decode cX12_init 185 = .ok (.newarray .boolean, 2) := by decide +kernel
theorem dX12_init_187 : decode cX12_init 187 = .ok (.putfield 78, 3) := by decide +kernel
theorem dX12_init_190 : decode cX12_init 190 = .ok (.aload_n 0, 1) := by decide +kernel
theorem dX12_init_191 : decode cX12_init 191 = .ok (.bipush 6, 2) := by decide +kernel
theorem dX12_init_193 : decode cX12_init 193 = .ok (.newarray .int, 2) := by decide +kernel
theorem dX12_init_195 : decode cX12_init 195 = .ok (.putfield 81, 3) := by decide +kernel
theorem dX12_init_198 : decode cX12_init 198 = .ok (.aload_n 0, 1) := by decide +kernel
theorem dX12_init_199 : decode cX12_init 199 = .ok (.bipush 6, 2) := by decide +kernel
theorem dX12_init_201 : decode cX12_init 201 = .ok (.newarray .int, 2) := by decide +kernel
theorem dX12_init_203 : decode cX12_init 203 = .ok (.putfield 84, 3) := by decide +kernel
theorem dX12_init_206 : decode cX12_init 206 = .ok (.aload_n 0, 1) := by decide +kernel
theorem dX12_init_207 : decode cX12_init 207 = .ok (.bipush 6, 2) := by decide +kernel
theorem dX12_init_209 : decode cX12_init 209 = .ok (.newarray .int, 2) := by decide +kernel
theorem dX12_init_211 : decode cX12_init 211 = .ok (.putfield 87, 3) := by decide +kernel
theorem dX12_init_214 : decode cX12_init 214 = .ok (.aload_n 0, 1) := by decide +kernel
theorem dX12_init_215 : decode cX12_init 215 = .ok (.bipush 6, 2) := by decide +kernel
theorem dX12_init_217 : decode cX12_init 217 = .ok (.newarray .int, 2) := by decide +kernel
theorem dX12_init_219 : decode cX12_init 219 = .ok (.putfield 90, 3) := by decide +kernel
theorem dX12_init_222 : decode cX12_init 222 = .ok (.iconst 0, 1) := by decide +kernel
theorem dX12_init_223 : decode cX12_init 223 = .ok (.istore_n 1, 1) := by decide +kernel
theorem dX12_init_224 : decode cX12_init 224 = .ok (.iload_n 1, 1) := by decide +kernel
theorem dX12_init_225 : decode cX12_init 225 = .ok (.iconst 3, 1) := by decide +kernel
theorem dX12_init_226 : decode cX12_init 226 = .ok (.if_icmp .ge 16, 3) := by decide +kernel
theorem dX12_init_229 : decode cX12_init 229 = .ok (.aload_n 0, 1) := by decide +kernel
theorem dX12_init_230 : decode cX12_init 230 = .ok (.getfield 31, 3) := by decide +kernel
theorem dX12_init_233 : decode cX12_init 233 = .ok (.iload_n 1, 1) := by decide +kernel
theorem dX12_init_234 : decode cX12_init 234 = .ok (.iconst 1, 1) := by decide +kernel
theorem dX12_init_235 : decode cX12_init 235 = .ok (.iastore, 1) := by decide +kernel
theorem dX12_init_236 : decode cX12_init 236 = .ok (.iinc 1 1, 3) := by decide +kernel
theorem dX12_init_239 : decode cX12_init 239 = .ok (.goto (-15), 3) := by decide +kernel
theorem dX12_init_242 : decode cX12_init 242 = .ok (.return_, 1) := by decide +kernel
theorem dX12_in_0 : decode cX12_in 0 = .ok (.iload_n 0, 1) := by decide +kernel
theorem dX12_in_1 : decode cX12_in 1 = .ok (.iload_n 1, 1) := by decide +kernel
theorem dX12_in_2 : decode cX12_in 2 = .ok (.if_icmp .lt 12, 3) := by decide +kernel
theorem dX12_in_5 : decode cX12_in 5 = .ok (.iload_n 0, 1) := by decide +kernel
theorem dX12_in_6 : decode cX12_in 6 = .ok (.iload_n 2, 1) := by decide +kernel
theorem dX12_in_7 : decode cX12_in 7 = .ok (.if_icmp .gt 7, 3) := by decide +kernel
theorem dX12_in_10 : decode cX12_in 10 = .ok (.iconst 1, 1) := by decide +kernel
theorem dX12_in_11 : decode cX12_in 11 = .ok (.goto 4, 3) := by decide +kernel
theorem dX12_in_14 : decode cX12_in 14 = .ok (.iconst 0, 1) := by decide +kernel
theorem dX12_in_15 : decode cX12_in 15 = .ok (.ireturn, 1) := by decide +kernel
set_option maxRecDepth 20000 in
theorem ggX12_isName_X12_in : GoodIn wsX12_isName wsX12_in := goodIn_r _ [4] (by decide +kernel) (by decide +kernel)
set_option maxRecDepth 20000 in
theorem gX12_isName_X12_in : GoodIn wsX12_isName (va_wsS RX12 93 yX12_in wsX12_in) := goodIn_app (goodIn_of _ (by decide +kernel)) ggX12_isName_X12_in
theorem dX12_isName_0 : decode cX12_isName 0 = .ok (.iload_n 0, 1) := by decide +kernel
theorem dX12_isName_1 : decode cX12_isName 1 = .ok (.iconst 0, 1) := by decide +kernel
theorem dX12_isName_2 : decode cX12_isName 2 = .ok (.iconst 5, 1) := by decide +kernel
theorem dX12_isName_3 : decode cX12_isName 3 = .ok (.invokestatic 93, 3) := by decide +kernel
theorem dX12_isName_6 : decode cX12_isName 6 = .ok (.ireturn, 1) := by decide +kernel
set_option maxRecDepth 20000 in
theorem ggX12_say_X12_in : GoodIn wsX12_say wsX12_in := goodIn_r _ [6] (by decide +kernel) (by decide +kernel)
set_option maxRecDepth 20000 in
theorem gX12_say_X12_in : GoodIn wsX12_say (va_wsS RX12 93 yX12_in wsX12_in) := goodIn_app (goodIn_of _ (by decide +kernel)) ggX12_say_X12_in
theorem dX12_say_0 : decode cX12_say 0 = .ok (.iload_n 1, 1) := by decide +kernel
theorem dX12_say_1 : decode cX12_say 1 = .ok (.bipush 33, 2) := by decide +kernel
theorem dX12_say_3 : decode cX12_say 3 = .ok (.bipush 126, 2) := by decide +kernel
theorem dX12_say_5 : decode cX12_say 5 = .ok (.invokestatic 93, 3) := by decide +kernel
theorem dX12_say_8 : decode cX12_say 8 = .ok (.ifCond .ne 6, 3) := by decide +kernel
theorem dX12_say_11 : decode cX12_say 11 = .ok (.bipush (-2), 2) := by decide +kernel
theorem dX12_say_13 : decode cX12_say 13 = .ok (.ireturn, 1) := by decide +kernel
theorem dX12_say_14 : decode cX12_say 14 = .ok (.aload_n 0, 1) := by decide +kernel
theorem dX12_say_15 : decode cX12_say 15 = .ok (.getfield 97, 3) := by decide +kernel
theorem dX12_say_18 : decode cX12_say 18 = .ok (.bipush 60, 2) := by decide +kernel
theorem dX12_say_20 : decode cX12_say 20 = .ok (.if_icmp .ne 6, 3) := by decide +kernel
theorem dX12_say_23 : decode cX12_say 23 = .ok (.bipush (-4), 2) := by decide +kernel
theorem dX12_say_25 : decode cX12_say 25 = .ok (.ireturn, 1) := by decide +kernel
theorem dX12_say_26 : decode cX12_say 26 = .ok (.aload_n 0, 1) := by decide +kernel
theorem dX12_say_27 : decode cX12_say 27 = .ok (.getfield 7, 3) := by decide +kernel
theorem dX12_say_30 : decode cX12_say 30 = .ok (.aload_n 0, 1) := by decide +kernel
theorem dX12_say_31 : decode cX12_say 31 = .ok (.getfield 97, 3) := by decide +kernel
theorem dX12_say_34 : decode cX12_say 34 = .ok (.iload_n 1, 1) := by decide +kernel
theorem dX12_say_35 : decode cX12_say 35 = .ok (.iastore, 1) := by decide +kernel
theorem dX12_say_36 : decode cX12_say 36 = .ok (.aload_n 0, 1) := by decide +kernel
theorem dX12_say_37 : decode cX12_say 37 = .ok (.dup, 1) := by decide +kernel
theorem dX12_say_38 : decode cX12_say 38 = .ok (.getfield 97, 3) := by decide +kernel
theorem dX12_say_41 : decode cX12_say 41 = .ok (.iconst 1, 1) := by decide +kernel
theorem dX12_say_42 : decode cX12_say 42 = .ok (.iadd, 1) := by decide +kernel
theorem dX12_say_43 : decode cX12_say 43 = .ok (.putfield 97, 3) := by decide +kernel
theorem dX12_say_46 : decode cX12_say 46 = .ok (.aload_n 0, 1) := by decide +kernel
theorem dX12_say_47 : decode cX12_say 47 = .ok (.getfield 97, 3) := by decide +kernel
theorem dX12_say_50 : decode cX12_say 50 = .ok (.ireturn, 1) := by decide +kernel
theorem dX12_wipe_0 : decode cX12_wipe 0 = .ok (.aload_n 0, 1) := by decide +kernel
theorem dX12_wipe_1 : decode cX12_wipe 1 = .ok (.getfield 97, 3) := by decide +kernel
theorem dX12_wipe_4 : decode cX12_wipe 4 = .ok (.istore_n 1, 1) := by decide +kernel
theorem dX12_wipe_5 : decode cX12_wipe 5 = .ok (.aload_n 0, 1) := by decide +kernel
theorem dX12_wipe_6 : decode cX12_wipe 6 = .ok (.iconst 0, 1) := by decide +kernel
theorem dX12_wipe_7 : decode cX12_wipe 7 = .ok (.putfield 97, 3) := by decide +kernel
theorem dX12_wipe_10 : decode cX12_wipe 10 = .ok (.iload_n 1, 1) := by decide +kernel
theorem dX12_wipe_11 : decode cX12_wipe 11 = .ok (.ireturn, 1) := by decide +kernel
set_option maxRecDepth 20000 in
theorem ggX12_faultOf_X12_in : GoodIn wsX12_faultOf wsX12_in := goodIn_r _ [6] (by decide +kernel) (by decide +kernel)
set_option maxRecDepth 20000 in
theorem gX12_faultOf_X12_in : GoodIn wsX12_faultOf (va_wsS RX12 93 yX12_in wsX12_in) := goodIn_app (goodIn_of _ (by decide +kernel)) ggX12_faultOf_X12_in
theorem dX12_faultOf_0 : decode cX12_faultOf 0 = .ok (.iconst 0, 1) := by decide +kernel
theorem dX12_faultOf_1 : decode cX12_faultOf 1 = .ok (.istore_n 1, 1) := by decide +kernel
theorem dX12_faultOf_2 : decode cX12_faultOf 2 = .ok (.iconst 0, 1) := by decide +kernel
theorem dX12_faultOf_3 : decode cX12_faultOf 3 = .ok (.istore_n 2, 1) := by decide +kernel
theorem dX12_faultOf_4 : decode cX12_faultOf 4 = .ok (.iconst 0, 1) := by decide +kernel
theorem dX12_faultOf_5 : decode cX12_faultOf 5 = .ok (.istore_n 3, 1) := by decide +kernel
theorem dX12_faultOf_6 : decode cX12_faultOf 6 = .ok (.iconst 0, 1) := by decide +kernel
theorem dX12_faultOf_7 : decode cX12_faultOf 7 = .ok (.istore 4, 2) := by decide +kernel
theorem dX12_faultOf_9 : decode cX12_faultOf 9 = .ok (.iconst 0, 1) := by decide +kernel
theorem dX12_faultOf_10 : decode cX12_faultOf 10 = .ok (.istore 5, 2) := by decide +kernel
theorem dX12_faultOf_12 : decode cX12_faultOf 12 = .ok (.iload 5, 2) := by decide +kernel
theorem dX12_faultOf_14 : decode cX12_faultOf 14 = .ok (.aload_n 0, 1) := by decide +kernel
theorem dX12_faultOf_15 : decode cX12_faultOf 15 = .ok (.getfield 97, 3) := by decide +kernel
theorem dX12_faultOf_18 : decode cX12_faultOf 18 = .ok (.if_icmp .ge 230, 3) := by decide +kernel
theorem dX12_faultOf_21 : decode cX12_faultOf 21 = .ok (.aload_n 0, 1) := by decide +kernel
theorem dX12_faultOf_22 : decode cX12_faultOf 22 = .ok (.getfield 7, 3) := by decide +kernel
theorem dX12_faultOf_25 : decode cX12_faultOf 25 = .ok (.iload 5, 2) := by decide +kernel
theorem dX12_faultOf_27 : decode cX12_faultOf 27 = .ok (.iaload, 1) := by decide +kernel
theorem dX12_faultOf_28 : decode cX12_faultOf 28 = .ok (.istore 6, 2) := by decide +kernel
theorem dX12_faultOf_30 : decode cX12_faultOf 30 = .ok (.iload 6, 2) := by decide +kernel
theorem dX12_faultOf_32 : decode cX12_faultOf 32 = .ok (.bipush 97, 2) := by decide +kernel
theorem dX12_faultOf_34 : decode cX12_faultOf 34 = .ok (.bipush 100, 2) := by decide +kernel
theorem dX12_faultOf_36 : decode cX12_faultOf 36 = .ok (.invokestatic 93, 3) := by decide +kernel
theorem dX12_faultOf_39 : decode cX12_faultOf 39 = .ok (.ifCond .ne 15, 3) := by decide +kernel
theorem dX12_faultOf_42 : decode cX12_faultOf 42 = .ok (.iload 6, 2) := by decide +kernel
theorem dX12_faultOf_44 : decode cX12_faultOf 44 = .ok (.bipush 65, 2) := by decide +kernel
theorem dX12_faultOf_46 : decode cX12_faultOf 46 = .ok (.bipush 70, 2) := by decide +kernel
theorem dX12_faultOf_48 : decode cX12_faultOf 48 = .ok (.invokestatic 93, 3) := by decide +kernel
theorem dX12_faultOf_51 : decode cX12_faultOf 51 = .ok (.ifCond .eq 7, 3) := by decide +kernel
theorem dX12_faultOf_54 : decode cX12_faultOf 54 = .ok (.iconst 1, 1) := by decide +kernel
theorem dX12_faultOf_55 : decode cX12_faultOf 55 = .ok (.goto 4, 3) := by decide +kernel
theorem dX12_faultOf_58 : decode cX12_faultOf 58 = .ok (.iconst 0, 1) := by decide +kernel
theorem dX12_faultOf_59 : decode cX12_faultOf 59 = .ok (.istore 7, 2) := by decide +kernel
theorem dX12_faultOf_61 : decode cX12_faultOf 61 = .ok (.bipush (-6), 2) := by decide +kernel
theorem dX12_faultOf_63 : decode cX12_faultOf 63 = .ok (.istore 8, 2) := by decide +kernel
theorem dX12_faultOf_65 : decode cX12_faultOf 65 = .ok (.iload_n 1, 1) := by decide +kernel
theorem dX12_faultOf_66 : decode cX12_faultOf 66 = .ok (.ifCond .ne 43, 3) := by decide +kernel
theorem dX12_faultOf_69 : decode cX12_faultOf 69 = .ok (.iload 6, 2) := by decide +kernel
theorem dX12_faultOf_71 : decode cX12_faultOf 71 = .ok (.bipush 65, 2) := by decide +kernel
theorem dX12_faultOf_73 : decode cX12_faultOf 73 = .ok (.bipush 70, 2) := by decide +kernel
theorem dX12_faultOf_75 : decode cX12_faultOf 75 = .ok (.invokestatic 93, 3) := by decide +kernel
theorem dX12_faultOf_78 : decode cX12_faultOf 78 = .ok (.ifCond .eq 153, 3) := by decide +kernel
theorem dX12_faultOf_81 : decode cX12_faultOf 81 = .ok (.iload_n 2, 1) := by decide +kernel
theorem dX12_faultOf_82 : decode cX12_faultOf 82 = .ok (.iload 6, 2) := by decide +kernel
theorem dX12_faultOf_84 : decode cX12_faultOf 84 = .ok (.bipush 65, 2) := by decide +kernel
theorem dX12_faultOf_86 : decode cX12_faultOf 86 = .ok (.isub, 1) := by decide +kernel
theorem dX12_faultOf_87 : decode cX12_faultOf 87 = .ok (.ishr, 1) := by decide +kernel
theorem dX12_faultOf_88 : decode cX12_faultOf 88 = .ok (.iconst 1, 1) := by decide +kernel
theorem dX12_faultOf_89 : decode cX12_faultOf 89 = .ok (.iand, 1) := by decide +kernel
theorem dX12_faultOf_90 : decode cX12_faultOf 90 = .ok (.ifCond .ne 141, 3) := by decide +kernel
theorem dX12_faultOf_93 : decode cX12_faultOf 93 = .ok (.iload_n 2, 1) := by decide +kernel
theorem dX12_faultOf_94 : decode cX12_faultOf 94 = .ok (.iconst 1, 1) := by decide +kernel
theorem dX12_faultOf_95 : decode cX12_faultOf 95 = .ok (.iload 6, 2) := by decide +kernel
theorem dX12_faultOf_97 : decode cX12_faultOf 97 = .ok (.bipush 65, 2) := by decide +kernel
theorem dX12_faultOf_99 : decode cX12_faultOf 99 = .ok (.isub, 1) := by decide +kernel
theorem dX12_faultOf_100 : decode cX12_faultOf 100 = .ok (.ishl, 1) := by decide +kernel
theorem dX12_faultOf_101 : decode cX12_faultOf 101 = .ok (.ior, 1) := by decide +kernel
theorem dX12_faultOf_102 : decode cX12_faultOf 102 = .ok (.istore_n 2, 1) := by decide +kernel
theorem dX12_faultOf_103 : decode cX12_faultOf 103 = .ok (.iconst 1, 1) := by decide +kernel
theorem dX12_faultOf_104 : decode cX12_faultOf 104 = .ok (.istore 8, 2) := by decide +kernel
theorem dX12_faultOf_106 : decode cX12_faultOf 106 = .ok (.goto 125, 3) := by decide +kernel
theorem dX12_faultOf_109 : decode cX12_faultOf 109 = .ok (.iload_n 1, 1) := by decide +kernel
theorem dX12_faultOf_110 : decode cX12_faultOf 110 = .ok (.iconst 1, 1) := by decide +kernel
theorem dX12_faultOf_111 : decode cX12_faultOf 111 = .ok (.if_icmp .ne 23, 3) := by decide +kernel
theorem dX12_faultOf_114 : decode cX12_faultOf 114 = .ok (.iload 6, 2) := by decide +kernel
theorem dX12_faultOf_116 : decode cX12_faultOf 116 = .ok (.bipush 61, 2) := by decide +kernel
theorem dX12_faultOf_118 : decode cX12_faultOf 118 = .ok (.if_icmp .ne 7, 3) := by decide +kernel
theorem dX12_faultOf_121 : decode cX12_faultOf 121 = .ok (.iconst 2, 1) := by decide +kernel
theorem dX12_faultOf_122 : decode cX12_faultOf 122 = .ok (.goto 5, 3) := by decide +kernel
theorem dX12_faultOf_125 : decode cX12_faultOf 125 = .ok (.bipush (-6), 2) := by decide +kernel
theorem dX12_faultOf_127 : decode cX12_faultOf 127 = .ok (.istore 8, 2) := by decide +kernel
theorem dX12_faultOf_129 : decode cX12_faultOf 129 = .ok (.iconst 1, 1) := by decide +kernel
theorem dX12_faultOf_130 : decode cX12_faultOf 130 = .ok (.istore_n 3, 1) := by decide +kernel
theorem dX12_faultOf_131 : decode cX12_faultOf 131 = .ok (.goto 100, 3) := by decide +kernel
theorem dX12_faultOf_134 : decode cX12_faultOf 134 = .ok (.iload_n 1, 1) := by decide +kernel
theorem dX12_faultOf_135 : decode cX12_faultOf 135 = .ok (.iconst 2, 1) := by decide +kernel
theorem dX12_faultOf_136 : decode cX12_faultOf 136 = .ok (.if_icmp .ne 33, 3) := by decide +kernel
theorem dX12_faultOf_139 : decode cX12_faultOf 139 = .ok (.iload 6, 2) := by decide +kernel
theorem dX12_faultOf_141 : decode cX12_faultOf 141 = .ok (.bipush 95, 2) := by decide +kernel
theorem dX12_faultOf_143 : decode cX12_faultOf 143 = .ok (.if_icmp .ne 7, 3) := by decide +kernel
theorem dX12_faultOf_146 : decode cX12_faultOf 146 = .ok (.iconst 4, 1) := by decide +kernel
theorem dX12_faultOf_147 : decode cX12_faultOf 147 = .ok (.goto 14, 3) := by decide +kernel
theorem dX12_faultOf_150 : decode cX12_faultOf 150 = .ok (.iload 7, 2) := by decide +kernel
theorem dX12_faultOf_152 : decode cX12_faultOf 152 = .ok (.ifCond .eq 7, 3) := by decide +kernel
theorem dX12_faultOf_155 : decode cX12_faultOf 155 = .ok (.iconst 3, 1) := by decide +kernel
theorem dX12_faultOf_156 : decode cX12_faultOf 156 = .ok (.goto 5, 3) := by decide +kernel
theorem dX12_faultOf_159 : decode cX12_faultOf 159 = .ok (.bipush (-6), 2) := by decide +kernel
theorem dX12_faultOf_161 : decode cX12_faultOf 161 = .ok (.istore 8, 2) := by decide +kernel
theorem dX12_faultOf_163 : decode cX12_faultOf 163 = .ok (.iconst 1, 1) := by decide +kernel
theorem dX12_faultOf_164 : decode cX12_faultOf 164 = .ok (.istore 4, 2) := by decide +kernel
theorem dX12_faultOf_166 : decode cX12_faultOf 166 = .ok (.goto 65, 3) := by decide +kernel
theorem dX12_faultOf_169 : decode cX12_faultOf 169 = .ok (.iload_n 1, 1) := by decide +kernel
theorem dX12_faultOf_170 : decode cX12_faultOf 170 = .ok (.iconst 3, 1) := by decide +kernel
theorem dX12_faultOf_171 : decode cX12_faultOf 171 = .ok (.if_icmp .ne 23, 3) := by decide +kernel
theorem dX12_faultOf_174 : decode cX12_faultOf 174 = .ok (.iload 7, 2) := by decide +kernel
theorem dX12_faultOf_176 : decode cX12_faultOf 176 = .ok (.ifCond .eq 18, 3) := by decide +kernel
theorem dX12_faultOf_179 : decode cX12_faultOf 179 = .ok (.iload 4, 2) := by decide +kernel
theorem dX12_faultOf_181 : decode cX12_faultOf 181 = .ok (.iconst 4, 1) := by decide +kernel
theorem dX12_faultOf_182 : decode cX12_faultOf 182 = .ok (.if_icmp .ge 12, 3) := by decide +kernel
theorem dX12_faultOf_185 : decode cX12_faultOf 185 = .ok (.iinc 4 1, 3) := by decide +kernel
theorem dX12_faultOf_188 : decode cX12_faultOf 188 = .ok (.iconst 3, 1) := by decide +kernel
theorem dX12_faultOf_189 : decode cX12_faultOf 189 = .ok (.istore 8, 2) := by decide +kernel
theorem dX12_faultOf_191 : decode cX12_faultOf 191 = .ok (.goto 40, 3) := by decide +kernel
theorem dX12_faultOf_194 : decode cX12_faultOf 194 = .ok (.iload 6, 2) := by decide +kernel
theorem dX12_faultOf_196 : decode cX12_faultOf 196 = .ok (.bipush 124, 2) := by decide +kernel
theorem dX12_faultOf_198 : decode cX12_faultOf 198 = .ok (.if_icmp .ne 17, 3) := by decide +kernel
theorem dX12_faultOf_201 : decode cX12_faultOf 201 = .ok (.iload_n 3, 1) := by decide +kernel
theorem dX12_faultOf_202 : decode cX12_faultOf 202 = .ok (.iconst 4, 1) := by decide +kernel
theorem dX12_faultOf_203 : decode cX12_faultOf 203 = .ok (.if_icmp .ge 12, 3) := by decide +kernel
theorem dX12_faultOf_206 : decode cX12_faultOf 206 = .ok (.iinc 3 1, 3) := by decide +kernel
theorem dX12_faultOf_209 : decode cX12_faultOf 209 = .ok (.iconst 2, 1) := by decide +kernel
theorem dX12_faultOf_210 : decode cX12_faultOf 210 = .ok (.istore 8, 2) := by decide +kernel
theorem dX12_faultOf_212 : decode cX12_faultOf 212 = .ok (.goto 19, 3) := by decide +kernel
theorem dX12_faultOf_215 : decode cX12_faultOf 215 = .ok (.iload 6, 2) := by decide +kernel
theorem dX12_faultOf_217 : decode cX12_faultOf 217 = .ok (.bipush 59, 2) := by decide +kernel
theorem dX12_faultOf_219 : decode cX12_faultOf 219 = .ok (.if_icmp .ne 12, 3) := by decide +kernel
theorem dX12_faultOf_222 : decode cX12_faultOf 222 = .ok (.iload_n 2, 1) := by decide +kernel
theorem dX12_faultOf_223 : decode cX12_faultOf 223 = .ok (.bipush 63, 2) := by decide +kernel
theorem dX12_faultOf_225 : decode cX12_faultOf 225 = .ok (.if_icmp .eq 6, 3) := by decide +kernel
theorem dX12_faultOf_228 : decode cX12_faultOf 228 = .ok (.iconst 0, 1) := by decide +kernel
theorem dX12_faultOf_229 : decode cX12_faultOf 229 = .ok (.istore 8, 2) := by decide +kernel
theorem dX12_faultOf_231 : decode cX12_faultOf 231 = .ok (.iload 8, 2) := by decide +kernel
theorem dX12_faultOf_233 : decode cX12_faultOf 233 = .ok (.ifCond .ge 6, 3) := by decide +kernel
theorem dX12_faultOf_236 : decode cX12_faultOf 236 = .ok (.iload 5, 2) := by decide +kernel
theorem dX12_faultOf_238 : decode cX12_faultOf 238 = .ok (.ireturn, 1) := by decide +kernel
theorem dX12_faultOf_239 : decode cX12_faultOf 239 = .ok (.iload 8, 2) := by decide +kernel
theorem dX12_faultOf_241 : decode cX12_faultOf 241 = .ok (.istore_n 1, 1) := by decide +kernel
theorem dX12_faultOf_242 : decode cX12_faultOf 242 = .ok (.iinc 5 1, 3) := by decide +kernel
theorem dX12_faultOf_245 : decode cX12_faultOf 245 = .ok (.goto (-233), 3) := by decide +kernel
theorem dX12_faultOf_248 : decode cX12_faultOf 248 = .ok (.iload_n 1, 1) := by decide +kernel
theorem dX12_faultOf_249 : decode cX12_faultOf 249 = .ok (.iconst 2, 1) := by decide +kernel
theorem dX12_faultOf_250 : decode cX12_faultOf 250 = .ok (.if_icmp .le 8, 3) := by decide +kernel
theorem dX12_faultOf_253 : decode cX12_faultOf 253 = .ok (.bipush (-6), 2) := by decide +kernel
theorem dX12_faultOf_255 : decode cX12_faultOf 255 = .ok (.goto 7, 3) := by decide +kernel
theorem dX12_faultOf_258 : decode cX12_faultOf 258 = .ok (.aload_n 0, 1) := by decide +kernel
theorem dX12_faultOf_259 : decode cX12_faultOf 259 = .ok (.getfield 97, 3) := by decide +kernel
theorem dX12_faultOf_262 : decode cX12_faultOf 262 = .ok (.ireturn, 1) := by decide +kernel
set_option maxRecDepth 20000 in
theorem ggX12_fault_X12_faultOf : GoodIn wsX12_fault wsX12_faultOf := goodIn_r _ [5, 6, 7, 8, 9, 4, 10, 11, 12, 13, 14, 15, 16, 17, 18, 19, 20, 21, 22, 23, 24, 25, 26, 27, 28, 29, 30, 31, 32, 33, 34, 35, 36, 37, 38, 39, 40, 41, 42, 43, 44, 45, 46] (by decide +kernel) (by decide +kernel)
set_option maxRecDepth 20000 in
theorem gX12_fault_X12_faultOf : GoodIn wsX12_fault (wsV RX12 101 RX12 yX12_faultOf wsX12_faultOf) := goodIn_app (goodIn_of _ (by decide +kernel)) ggX12_fault_X12_faultOf
theorem dX12_fault_0 : decode cX12_fault 0 = .ok (.aload_n 0, 1) := by decide +kernel
theorem dX12_fault_1 : decode cX12_fault 1 = .ok (.invokevirtual 101, 3) := by decide +kernel
theorem dX12_fault_4 : decode cX12_fault 4 = .ok (.ireturn, 1) := by decide +kernel
set_option maxRecDepth 20000 in
theorem ggX12_grammar_X12_faultOf : GoodIn wsX12_grammar wsX12_faultOf := goodIn_r _ [11, 4, 2, 12, 13, 10, 14, 20, 21, 22, 23, 24, 25, 26, 27, 28, 29, 30, 31, 32, 33, 34, 35, 36, 37, 38, 39, 40, 41, 42, 43, 44, 45, 46, 47, 48, 49, 50, 51, 52, 53, 54, 55] (by decide +kernel) (by decide +kernel)
set_option maxRecDepth 20000 in
theorem gX12_grammar_X12_faultOf : GoodIn wsX12_grammar (wsV RX12 101 RX12 yX12_faultOf wsX12_faultOf) := goodIn_app (goodIn_of _ (by decide +kernel)) ggX12_grammar_X12_faultOf
set_option maxRecDepth 20000 in
theorem ggX12_grammar_X12_in : GoodIn wsX12_grammar wsX12_in := goodIn_r _ [14] (by decide +kernel) (by decide +kernel)
set_option maxRecDepth 20000 in
theorem gX12_grammar_X12_in : GoodIn wsX12_grammar (va_wsS RX12 93 yX12_in wsX12_in) := goodIn_app (goodIn_of _ (by decide +kernel)) ggX12_grammar_X12_in
set_option maxRecDepth 20000 in
theorem ggX12_grammar_X12_turn : GoodIn wsX12_grammar wsX12_turn := goodIn_r _ [18, 19, 20, 21, 22, 23, 24, 25, 26, 27, 28, 29, 30, 31, 32, 33, 34, 35, 36, 37, 38, 39, 40, 41, 42, 43, 44, 45, 46, 47, 48, 49, 50, 51, 52, 53, 54, 55] (by decide +kernel) (by decide +kernel)
set_option maxRecDepth 20000 in
theorem gX12_grammar_X12_turn : GoodIn wsX12_grammar (wsV RX12 108 RX12 yX12_turn wsX12_turn) := goodIn_app (goodIn_of _ (by decide +kernel)) ggX12_grammar_X12_turn
theorem dX12_grammar_0 : decode cX12_grammar 0 = .ok (.aload_n 0, 1) := by decide +kernel
theorem dX12_grammar_1 : decode cX12_grammar 1 = .ok (.invokevirtual 101, 3) := by decide +kernel
theorem dX12_grammar_4 : decode cX12_grammar 4 = .ok (.ifCond .lt 6, 3) := by decide +kernel
theorem dX12_grammar_7 : decode cX12_grammar 7 = .ok (.bipush (-5), 2) := by decide +kernel
theorem dX12_grammar_9 : decode cX12_grammar 9 = .ok (.ireturn, 1) := by decide +kernel
theorem dX12_grammar_10 : decode cX12_grammar 10 = .ok (.iconst 0, 1) := by decide +kernel
theorem dX12_grammar_11 : decode cX12_grammar 11 = .ok (.istore_n 1, 1) := by decide +kernel
theorem dX12_grammar_12 : decode cX12_grammar 12 = .ok (.iload_n 1, 1) := by decide +kernel
theorem dX12_grammar_13 : decode cX12_grammar 13 = .ok (.bipush 6, 2) := by decide +kernel
theorem dX12_grammar_15 : decode cX12_grammar 15 = .ok (.if_icmp .ge 16, 3) := by decide +kernel
theorem dX12_grammar_18 : decode cX12_grammar 18 = .ok (.aload_n 0, 1) := by decide +kernel
theorem dX12_grammar_19 : decode cX12_grammar 19 = .ok (.getfield 13, 3) := by decide +kernel
theorem dX12_grammar_22 : decode cX12_grammar 22 = .ok (.iload_n 1, 1) := by decide +kernel
theorem dX12_grammar_23 : decode cX12_grammar 23 = .ok (.iconst 0, 1) := by decide +kernel
theorem dX12_grammar_24 : decode cX12_grammar 24 = .ok (.iastore, 1) := by decide +kernel
theorem dX12_grammar_25 : decode cX12_grammar 25 = .ok (.iinc 1 1, 3) := by decide +kernel
theorem dX12_grammar_28 : decode cX12_grammar 28 = .ok (.goto (-16), 3) := by decide +kernel
theorem dX12_grammar_31 : decode cX12_grammar 31 = .ok (.aload_n 0, 1) := by decide +kernel
theorem dX12_grammar_32 : decode cX12_grammar 32 = .ok (.aload_n 0, 1) := by decide +kernel
theorem dX12_grammar_33 : decode cX12_grammar 33 = .ok (.getfield 7, 3) := by decide +kernel
theorem dX12_grammar_36 : decode cX12_grammar 36 = .ok (.iconst 0, 1) := by decide +kernel
theorem dX12_grammar_37 : decode cX12_grammar 37 = .ok (.iaload, 1) := by decide +kernel
theorem dX12_grammar_38 : decode cX12_grammar 38 = .ok (.bipush 65, 2) := by decide +kernel
theorem dX12_grammar_40 : decode cX12_grammar 40 = .ok (.isub, 1) := by decide +kernel
theorem dX12_grammar_41 : decode cX12_grammar 41 = .ok (.putfield 105, 3) := by decide +kernel
theorem dX12_grammar_44 : decode cX12_grammar 44 = .ok (.iconst 0, 1) := by decide +kernel
theorem dX12_grammar_45 : decode cX12_grammar 45 = .ok (.istore_n 1, 1) := by decide +kernel
theorem dX12_grammar_46 : decode cX12_grammar 46 = .ok (.iconst 0, 1) := by decide +kernel
theorem dX12_grammar_47 : decode cX12_grammar 47 = .ok (.istore_n 2, 1) := by decide +kernel
theorem dX12_grammar_48 : decode cX12_grammar 48 = .ok (.iload_n 2, 1) := by decide +kernel
theorem dX12_grammar_49 : decode cX12_grammar 49 = .ok (.aload_n 0, 1) := by decide +kernel
theorem dX12_grammar_50 : decode cX12_grammar 50 = .ok (.getfield 97, 3) := by decide +kernel
theorem dX12_grammar_53 : decode cX12_grammar 53 = .ok (.if_icmp .ge 207, 3) := by decide +kernel
theorem dX12_grammar_56 : decode cX12_grammar 56 = .ok (.aload_n 0, 1) := by decide +kernel
theorem dX12_grammar_57 : decode cX12_grammar 57 = .ok (.getfield 7, 3) := by decide +kernel
theorem dX12_grammar_60 : decode cX12_grammar 60 = .ok (.iload_n 2, 1) := by decide +kernel
theorem dX12_grammar_61 : decode cX12_grammar 61 = .ok (.iaload, 1) := by decide +kernel
theorem dX12_grammar_62 : decode cX12_grammar 62 = .ok (.bipush 65, 2) := by decide +kernel
theorem dX12_grammar_64 : decode cX12_grammar 64 = .ok (.isub, 1) := by decide +kernel
theorem dX12_grammar_65 : decode cX12_grammar 65 = .ok (.istore_n 3, 1) := by decide +kernel
theorem dX12_grammar_66 : decode cX12_grammar 66 = .ok (.iinc 1 1, 3) := by decide +kernel
theorem dX12_grammar_69 : decode cX12_grammar 69 = .ok (.iinc 2 2, 3) := by decide +kernel
theorem dX12_grammar_72 : decode cX12_grammar 72 = .ok (.iconst 1, 1) := by decide +kernel
theorem dX12_grammar_73 : decode cX12_grammar 73 = .ok (.istore 4, 2) := by decide +kernel
theorem dX12_grammar_75 : decode cX12_grammar 75 = .ok (.iload 4, 2) := by decide +kernel
theorem dX12_grammar_77 : decode cX12_grammar 77 = .ok (.ifCond .eq 180, 3) := by decide +kernel
theorem dX12_grammar_80 : decode cX12_grammar 80 = .ok (.iconst 5, 1) := by decide +kernel
theorem dX12_grammar_81 : decode cX12_grammar 81 = .ok (.iload_n 3, 1) := by decide +kernel
theorem dX12_grammar_82 : decode cX12_grammar 82 = .ok (.imul, 1) := by decide +kernel
theorem dX12_grammar_83 : decode cX12_grammar 83 = .ok (.aload_n 0, 1) := by decide +kernel
theorem dX12_grammar_84 : decode cX12_grammar 84 = .ok (.getfield 13, 3) := by decide +kernel
theorem dX12_grammar_87 : decode cX12_grammar 87 = .ok (.iload_n 3, 1) := by decide +kernel
theorem dX12_grammar_88 : decode cX12_grammar 88 = .ok (.iaload, 1) := by decide +kernel
theorem dX12_grammar_89 : decode cX12_grammar 89 = .ok (.iadd, 1) := by decide +kernel
theorem dX12_grammar_90 : decode cX12_grammar 90 = .ok (.istore 5, 2) := by decide +kernel
theorem dX12_grammar_92 : decode cX12_grammar 92 = .ok (.aload_n 0, 1) := by decide +kernel
theorem dX12_grammar_93 : decode cX12_grammar 93 = .ok (.getfield 16, 3) := by decide +kernel
theorem dX12_grammar_96 : decode cX12_grammar 96 = .ok (.iload 5, 2) := by decide +kernel
theorem dX12_grammar_98 : decode cX12_grammar 98 = .ok (.iconst 0, 1) := by decide +kernel
theorem dX12_grammar_99 : decode cX12_grammar 99 = .ok (.iastore, 1) := by decide +kernel
theorem dX12_grammar_100 : decode cX12_grammar 100 = .ok (.iload_n 2, 1) := by decide +kernel
theorem dX12_grammar_101 : decode cX12_grammar 101 = .ok (.aload_n 0, 1) := by decide +kernel
theorem dX12_grammar_102 : decode cX12_grammar 102 = .ok (.getfield 97, 3) := by decide +kernel
theorem dX12_grammar_105 : decode cX12_grammar 105 = .ok (.if_icmp .ge 110, 3) := by decide +kernel
theorem dX12_grammar_108 : decode cX12_grammar 108 = .ok (.aload_n 0, 1) := by decide +kernel
theorem dX12_grammar_109 : decode cX12_grammar 109 = .ok (.getfield 7, 3) := by decide +kernel
theorem dX12_grammar_112 : decode cX12_grammar 112 = .ok (.iload_n 2, 1) := by decide +kernel
theorem dX12_grammar_113 : decode cX12_grammar 113 = .ok (.iaload, 1) := by decide +kernel
theorem dX12_grammar_114 : decode cX12_grammar 114 = .ok (.bipush 124, 2) := by decide +kernel
theorem dX12_grammar_116 : decode cX12_grammar 116 = .ok (.if_icmp .eq 99, 3) := by decide +kernel
theorem dX12_grammar_119 : decode cX12_grammar 119 = .ok (.aload_n 0, 1) := by decide +kernel
theorem dX12_grammar_120 : decode cX12_grammar 120 = .ok (.getfield 7, 3) := by decide +kernel
theorem dX12_grammar_123 : decode cX12_grammar 123 = .ok (.iload_n 2, 1) := by decide +kernel
theorem dX12_grammar_124 : decode cX12_grammar 124 = .ok (.iaload, 1) := by decide +kernel
theorem dX12_grammar_125 : decode cX12_grammar 125 = .ok (.bipush 59, 2) := by decide +kernel
theorem dX12_grammar_127 : decode cX12_grammar 127 = .ok (.if_icmp .eq 88, 3) := by decide +kernel
theorem dX12_grammar_130 : decode cX12_grammar 130 = .ok (.aload_n 0, 1) := by decide +kernel
theorem dX12_grammar_131 : decode cX12_grammar 131 = .ok (.getfield 7, 3) := by decide +kernel
theorem dX12_grammar_134 : decode cX12_grammar 134 = .ok (.iload_n 2, 1) := by decide +kernel
theorem dX12_grammar_135 : decode cX12_grammar 135 = .ok (.iaload, 1) := by decide +kernel
theorem dX12_grammar_136 : decode cX12_grammar 136 = .ok (.bipush 95, 2) := by decide +kernel
theorem dX12_grammar_138 : decode cX12_grammar 138 = .ok (.if_icmp .eq 71, 3) := by decide +kernel
theorem dX12_grammar_141 : decode cX12_grammar 141 = .ok (.aload_n 0, 1) := by decide +kernel
theorem dX12_grammar_142 : decode cX12_grammar 142 = .ok (.getfield 19, 3) := by decide +kernel
theorem dX12_grammar_145 : decode cX12_grammar 145 = .ok (.iconst 4, 1) := by decide +kernel
theorem dX12_grammar_146 : decode cX12_grammar 146 = .ok (.iload 5, 2) := by decide +kernel
theorem dX12_grammar_148 : decode cX12_grammar 148 = .ok (.imul, 1) := by decide +kernel
theorem dX12_grammar_149 : decode cX12_grammar 149 = .ok (.aload_n 0, 1) := by decide +kernel
theorem dX12_grammar_150 : decode cX12_grammar 150 = .ok (.getfield 16, 3) := by decide +kernel
theorem dX12_grammar_153 : decode cX12_grammar 153 = .ok (.iload 5, 2) := by decide +kernel
theorem dX12_grammar_155 : decode cX12_grammar 155 = .ok (.iaload, 1) := by decide +kernel
theorem dX12_grammar_156 : decode cX12_grammar 156 = .ok (.iadd, 1) := by decide +kernel
theorem dX12_grammar_157 : decode cX12_grammar 157 = .ok (.aload_n 0, 1) := by decide +kernel
theorem dX12_grammar_158 : decode cX12_grammar 158 = .ok (.getfield 7, 3) := by decide +kernel
theorem dX12_grammar_161 : decode cX12_grammar 161 = .ok (.iload_n 2, 1) := by decide +kernel
theorem dX12_grammar_162 : decode cX12_grammar 162 = .ok (.iaload, 1) := by decide +kernel
theorem dX12_grammar_163 : decode cX12_grammar 163 = .ok (.bipush 97, 2) := by decide +kernel
theorem dX12_grammar_165 : decode cX12_grammar 165 = .ok (.bipush 100, 2) := by decide +kernel
theorem dX12_grammar_167 : decode cX12_grammar 167 = .ok (.invokestatic 93, 3) := by decide +kernel
theorem dX12_grammar_170 : decode cX12_grammar 170 = .ok (.ifCond .eq 15, 3) := by decide +kernel
theorem dX12_grammar_173 : decode cX12_grammar 173 = .ok (.aload_n 0, 1) := by decide +kernel
theorem dX12_grammar_174 : decode cX12_grammar 174 = .ok (.getfield 7, 3) := by decide +kernel
theorem dX12_grammar_177 : decode cX12_grammar 177 = .ok (.iload_n 2, 1) := by decide +kernel
theorem dX12_grammar_178 : decode cX12_grammar 178 = .ok (.iaload, 1) := by decide +kernel
theorem dX12_grammar_179 : decode cX12_grammar 179 = .ok (.bipush 97, 2) := by decide +kernel
theorem dX12_grammar_181 : decode cX12_grammar 181 = .ok (.isub, 1) := by decide +kernel
theorem dX12_grammar_182 : decode cX12_grammar 182 = .ok (.goto 15, 3) := by decide +kernel
theorem dX12_grammar_185 : decode cX12_grammar 185 = .ok (.bipush 10, 2) := by decide +kernel
theorem dX12_grammar_187 : decode cX12_grammar 187 = .ok (.aload_n 0, 1) := by decide +kernel
theorem dX12_grammar_188 : decode cX12_grammar 188 = .ok (.getfield 7, 3) := by decide +kernel
theorem dX12_grammar_191 : decode cX12_grammar 191 = .ok (.iload_n 2, 1) := by decide +kernel
theorem dX12_grammar_192 : decode cX12_grammar 192 = .ok (.iaload, 1) := by decide +kernel
theorem dX12_grammar_193 : decode cX12_grammar 193 = .ok (.iadd, 1) := by decide +kernel
theorem dX12_grammar_194 : decode cX12_grammar 194 = .ok (.bipush 65, 2) := by decide +kernel
theorem dX12_grammar_196 : decode cX12_grammar 196 = .ok (.isub, 1) := by decide +kernel
theorem dX12_grammar_197 : decode cX12_grammar 197 = .ok (.iastore, 1) := by decide +kernel
theorem dX12_grammar_198 : decode cX12_grammar 198 = .ok (.aload_n 0, 1) := by decide +kernel
theorem dX12_grammar_199 : decode cX12_grammar 199 = .ok (.getfield 16, 3) := by decide +kernel
theorem dX12_grammar_202 : decode cX12_grammar 202 = .ok (.iload 5, 2) := by decide +kernel
theorem dX12_grammar_204 : decode cX12_grammar 204 = .ok (.dup2, 1) := by decide +kernel
theorem dX12_grammar_205 : decode cX12_grammar 205 = .ok (.iaload, 1) := by decide +kernel
theorem dX12_grammar_206 : decode cX12_grammar 206 = .ok (.iconst 1, 1) := by decide +kernel
theorem dX12_grammar_207 : decode cX12_grammar 207 = .ok (.iadd, 1) := by decide +kernel
theorem dX12_grammar_208 : decode cX12_grammar 208 = .ok (.iastore, 1) := by decide +kernel
theorem dX12_grammar_209 : decode cX12_grammar 209 = .ok (.iinc 2 1, 3) := by decide +kernel
theorem dX12_grammar_212 : decode cX12_grammar 212 = .ok (.goto (-112), 3) := by decide +kernel
theorem dX12_grammar_215 : decode cX12_grammar 215 = .ok (.aload_n 0, 1) := by decide +kernel
theorem dX12_grammar_216 : decode cX12_grammar 216 = .ok (.getfield 13, 3) := by decide +kernel
theorem dX12_grammar_219 : decode cX12_grammar 219 = .ok (.iload_n 3, 1) := by decide +kernel
theorem dX12_grammar_220 : decode cX12_grammar 220 = .ok (.dup2, 1) := by decide +kernel
theorem dX12_grammar_221 : decode cX12_grammar 221 = .ok (.iaload, 1) := by decide +kernel
theorem dX12_grammar_222 : decode cX12_grammar 222 = .ok (.iconst 1, 1) := by decide +kernel
theorem dX12_grammar_223 : decode cX12_grammar 223 = .ok (.iadd, 1) := by decide +kernel
theorem dX12_grammar_224 : decode cX12_grammar 224 = .ok (.iastore, 1) := by decide +kernel
theorem dX12_grammar_225 : decode cX12_grammar 225 = .ok (.iload_n 2, 1) := by decide +kernel
theorem dX12_grammar_226 : decode cX12_grammar 226 = .ok (.aload_n 0, 1) := by decide +kernel
theorem dX12_grammar_227 : decode cX12_grammar 227 = .ok (.getfield 97, 3) := by decide +kernel
theorem dX12_grammar_230 : decode cX12_grammar 230 = .ok (.if_icmp .ge 18, 3) := by decide +kernel
theorem dX12_grammar_233 : decode cX12_grammar 233 = .ok (.aload_n 0, 1) := by decide +kernel
theorem dX12_grammar_234 : decode cX12_grammar 234 = .ok (.getfield 7, 3) := by decide +kernel
theorem dX12_grammar_237 : decode cX12_grammar 237 = .ok (.iload_n 2, 1) := by decide +kernel
theorem dX12_grammar_238 : decode cX12_grammar 238 = .ok (.iaload, 1) := by decide +kernel
theorem dX12_grammar_239 : decode cX12_grammar 239 = .ok (.bipush 124, 2) := by decide +kernel
theorem dX12_grammar_241 : decode cX12_grammar 241 = .ok (.if_icmp .ne 7, 3) := by decide +kernel
theorem dX12_grammar_244 : decode cX12_grammar 244 = .ok (.iconst 1, 1) := by decide +kernel
theorem dX12_grammar_245 : decode cX12_grammar 245 = .ok (.goto 4, 3) := by decide +kernel
theorem dX12_grammar_248 : decode cX12_grammar 248 = .ok (.iconst 0, 1) := by decide +kernel
theorem dX12_grammar_249 : decode cX12_grammar 249 = .ok (.istore 4, 2) := by decide +kernel
theorem dX12_grammar_251 : decode cX12_grammar 251 = .ok (.iinc 2 1, 3) := by decide +kernel
theorem dX12_grammar_254 : decode cX12_grammar 254 = .ok (.goto (-179), 3) := by decide +kernel
theorem dX12_grammar_257 : decode cX12_grammar 257 = .ok (.goto (-209), 3) := by decide +kernel
theorem dX12_grammar_260 : decode cX12_grammar 260 = .ok (.aload_n 0, 1) := by decide +kernel
theorem dX12_grammar_261 : decode cX12_grammar 261 = .ok (.iconst 0, 1) := by decide +kernel
theorem dX12_grammar_262 : decode cX12_grammar 262 = .ok (.putfield 97, 3) := by decide +kernel
theorem dX12_grammar_265 : decode cX12_grammar 265 = .ok (.aload_n 0, 1) := by decide +kernel
theorem dX12_grammar_266 : decode cX12_grammar 266 = .ok (.invokevirtual 108, 3) := by decide +kernel
theorem dX12_grammar_269 : decode cX12_grammar 269 = .ok (.iload_n 1, 1) := by decide +kernel
theorem dX12_grammar_270 : decode cX12_grammar 270 = .ok (.ireturn, 1) := by decide +kernel
set_option maxRecDepth 20000 in
theorem ggX12_rule_X12_isName : GoodIn wsX12_rule wsX12_isName := goodIn_r _ [7, 8, 9, 6, 10] (by decide +kernel) (by decide +kernel)
set_option maxRecDepth 20000 in
theorem gX12_rule_X12_isName : GoodIn wsX12_rule (va_wsS RX12 111 yX12_isName wsX12_isName) := goodIn_app (goodIn_of _ (by decide +kernel)) ggX12_rule_X12_isName
set_option maxRecDepth 20000 in
theorem ggX12_rule_X12_in : GoodIn wsX12_rule wsX12_in := goodIn_r _ [10] (by decide +kernel) (by decide +kernel)
set_option maxRecDepth 20000 in
theorem gX12_rule_X12_in : GoodIn wsX12_rule (va_wsS RX12 93 yX12_in wsX12_in) := goodIn_app (goodIn_of _ (by decide +kernel)) ggX12_rule_X12_in
theorem dX12_rule_0 : decode cX12_rule 0 = .ok (.iload_n 1, 1) := by decide +kernel
theorem dX12_rule_1 : decode cX12_rule 1 = .ok (.invokestatic 111, 3) := by decide +kernel
theorem dX12_rule_4 : decode cX12_rule 4 = .ok (.ifCond .eq 19, 3) := by decide +kernel
theorem dX12_rule_7 : decode cX12_rule 7 = .ok (.iload_n 2, 1) := by decide +kernel
theorem dX12_rule_8 : decode cX12_rule 8 = .ok (.iconst 0, 1) := by decide +kernel
theorem dX12_rule_9 : decode cX12_rule 9 = .ok (.aload_n 0, 1) := by decide +kernel
theorem dX12_rule_10 : decode cX12_rule 10 = .ok (.getfield 13, 3) := by decide +kernel
theorem dX12_rule_13 : decode cX12_rule 13 = .ok (.iload_n 1, 1) := by decide +kernel
theorem dX12_rule_14 : decode cX12_rule 14 = .ok (.iaload, 1) := by decide +kernel
theorem dX12_rule_15 : decode cX12_rule 15 = .ok (.iconst 1, 1) := by decide +kernel
theorem dX12_rule_16 : decode cX12_rule 16 = .ok (.isub, 1) := by decide +kernel
theorem dX12_rule_17 : decode cX12_rule 17 = .ok (.invokestatic 93, 3) := by decide +kernel
theorem dX12_rule_20 : decode cX12_rule 20 = .ok (.ifCond .ne 5, 3) := by decide +kernel
theorem dX12_rule_23 : decode cX12_rule 23 = .ok (.iconst (-1), 1) := by decide +kernel
theorem dX12_rule_24 : decode cX12_rule 24 = .ok (.ireturn, 1) := by decide +kernel
theorem dX12_rule_25 : decode cX12_rule 25 = .ok (.iconst 5, 1) := by decide +kernel
theorem dX12_rule_26 : decode cX12_rule 26 = .ok (.iload_n 1, 1) := by decide +kernel
theorem dX12_rule_27 : decode cX12_rule 27 = .ok (.imul, 1) := by decide +kernel
theorem dX12_rule_28 : decode cX12_rule 28 = .ok (.iload_n 2, 1) := by decide +kernel
theorem dX12_rule_29 : decode cX12_rule 29 = .ok (.iadd, 1) := by decide +kernel
theorem dX12_rule_30 : decode cX12_rule 30 = .ok (.istore 4, 2) := by decide +kernel
theorem dX12_rule_32 : decode cX12_rule 32 = .ok (.iload_n 3, 1) := by decide +kernel
theorem dX12_rule_33 : decode cX12_rule 33 = .ok (.iconst (-1), 1) := by decide +kernel
theorem dX12_rule_34 : decode cX12_rule 34 = .ok (.if_icmp .ne 13, 3) := by decide +kernel
theorem dX12_rule_37 : decode cX12_rule 37 = .ok (.aload_n 0, 1) := by decide +kernel
theorem dX12_rule_38 : decode cX12_rule 38 = .ok (.getfield 16, 3) := by decide +kernel
theorem dX12_rule_41 : decode cX12_rule 41 = .ok (.iload 4, 2) := by decide +kernel
theorem dX12_rule_43 : decode cX12_rule 43 = .ok (.iaload, 1) := by decide +kernel
theorem dX12_rule_44 : decode cX12_rule 44 = .ok (.goto 36, 3) := by decide +kernel
theorem dX12_rule_47 : decode cX12_rule 47 = .ok (.iload_n 3, 1) := by decide +kernel
theorem dX12_rule_48 : decode cX12_rule 48 = .ok (.iconst 0, 1) := by decide +kernel
theorem dX12_rule_49 : decode cX12_rule 49 = .ok (.aload_n 0, 1) := by decide +kernel
theorem dX12_rule_50 : decode cX12_rule 50 = .ok (.getfield 16, 3) := by decide +kernel
theorem dX12_rule_53 : decode cX12_rule 53 = .ok (.iload 4, 2) := by decide +kernel
theorem dX12_rule_55 : decode cX12_rule 55 = .ok (.iaload, 1) := by decide +kernel
theorem dX12_rule_56 : decode cX12_rule 56 = .ok (.iconst 1, 1) := by decide +kernel
theorem dX12_rule_57 : decode cX12_rule 57 = .ok (.isub, 1) := by decide +kernel
theorem dX12_rule_58 : decode cX12_rule 58 = .ok (.invokestatic 93, 3) := by decide +kernel
theorem dX12_rule_61 : decode cX12_rule 61 = .ok (.ifCond .eq 17, 3) := by decide +kernel
theorem dX12_rule_64 : decode cX12_rule 64 = .ok (.aload_n 0, 1) := by decide +kernel
theorem dX12_rule_65 : decode cX12_rule 65 = .ok (.getfield 19, 3) := by decide +kernel
theorem dX12_rule_68 : decode cX12_rule 68 = .ok (.iconst 4, 1) := by decide +kernel
theorem dX12_rule_69 : decode cX12_rule 69 = .ok (.iload 4, 2) := by decide +kernel
theorem dX12_rule_71 : decode cX12_rule 71 = .ok (.imul, 1) := by decide +kernel
theorem dX12_rule_72 : decode cX12_rule 72 = .ok (.iload_n 3, 1) := by decide +kernel
theorem dX12_rule_73 : decode cX12_rule 73 = .ok (.iadd, 1) := by decide +kernel
theorem dX12_rule_74 : decode cX12_rule 74 = .ok (.iaload, 1) := by decide +kernel
theorem dX12_rule_75 : decode cX12_rule 75 = .ok (.goto 5, 3) := by decide +kernel
theorem dX12_rule_78 : decode cX12_rule 78 = .ok (.bipush (-6), 2) := by decide +kernel
theorem dX12_rule_80 : decode cX12_rule 80 = .ok (.ireturn, 1) := by decide +kernel
theorem dX12_one_0 : decode cX12_one 0 = .ok (.iload_n 1, 1) := by decide +kernel
theorem dX12_one_1 : decode cX12_one 1 = .ok (.bipush 10, 2) := by decide +kernel
theorem dX12_one_3 : decode cX12_one 3 = .ok (.if_icmp .lt 53, 3) := by decide +kernel
theorem dX12_one_6 : decode cX12_one 6 = .ok (.bipush 49, 2) := by decide +kernel
theorem dX12_one_8 : decode cX12_one 8 = .ok (.iload_n 1, 1) := by decide +kernel
theorem dX12_one_9 : decode cX12_one 9 = .ok (.bipush 10, 2) := by decide +kernel
theorem dX12_one_11 : decode cX12_one 11 = .ok (.isub, 1) := by decide +kernel
theorem dX12_one_12 : decode cX12_one 12 = .ok (.imul, 1) := by decide +kernel
theorem dX12_one_13 : decode cX12_one 13 = .ok (.bipush 7, 2) := by decide +kernel
theorem dX12_one_15 : decode cX12_one 15 = .ok (.iload_n 2, 1) := by decide +kernel
theorem dX12_one_16 : decode cX12_one 16 = .ok (.imul, 1) := by decide +kernel
theorem dX12_one_17 : decode cX12_one 17 = .ok (.iadd, 1) := by decide +kernel
theorem dX12_one_18 : decode cX12_one 18 = .ok (.iload_n 3, 1) := by decide +kernel
theorem dX12_one_19 : decode cX12_one 19 = .ok (.iadd, 1) := by decide +kernel
theorem dX12_one_20 : decode cX12_one 20 = .ok (.istore 4, 2) := by decide +kernel
theorem dX12_one_22 : decode cX12_one 22 = .ok (.aload_n 0, 1) := by decide +kernel
theorem dX12_one_23 : decode cX12_one 23 = .ok (.aload_n 0, 1) := by decide +kernel
theorem dX12_one_24 : decode cX12_one 24 = .ok (.getfield 37, 3) := by decide +kernel
theorem dX12_one_27 : decode cX12_one 27 = .ok (.iload 4, 2) := by decide +kernel
theorem dX12_one_29 : decode cX12_one 29 = .ok (.iaload, 1) := by decide +kernel
theorem dX12_one_30 : decode cX12_one 30 = .ok (.putfield 115, 3) := by decide +kernel
theorem dX12_one_33 : decode cX12_one 33 = .ok (.aload_n 0, 1) := by decide +kernel
theorem dX12_one_34 : decode cX12_one 34 = .ok (.aload_n 0, 1) := by decide +kernel
theorem dX12_one_35 : decode cX12_one 35 = .ok (.getfield 40, 3) := by decide +kernel
theorem dX12_one_38 : decode cX12_one 38 = .ok (.iload 4, 2) := by decide +kernel
theorem dX12_one_40 : decode cX12_one 40 = .ok (.iaload, 1) := by decide +kernel
theorem dX12_one_41 : decode cX12_one 41 = .ok (.putfield 118, 3) := by decide +kernel
theorem dX12_one_44 : decode cX12_one 44 = .ok (.aload_n 0, 1) := by decide +kernel
theorem dX12_one_45 : decode cX12_one 45 = .ok (.aload_n 0, 1) := by decide +kernel
theorem dX12_one_46 : decode cX12_one 46 = .ok (.getfield 43, 3) := by decide +kernel
theorem dX12_one_49 : decode cX12_one 49 = .ok (.iload 4, 2) := by decide +kernel
theorem dX12_one_51 : decode cX12_one 51 = .ok (.iaload, 1) := by decide +kernel
theorem dX12_one_52 : decode cX12_one 52 = .ok (.putfield 121, 3) := by decide +kernel
theorem dX12_one_55 : decode cX12_one 55 = .ok (.return_, 1) := by decide +kernel
theorem dX12_one_56 : decode cX12_one 56 = .ok (.aload_n 0, 1) := by decide +kernel
theorem dX12_one_57 : decode cX12_one 57 = .ok (.iload_n 3, 1) := by decide +kernel
theorem dX12_one_58 : decode cX12_one 58 = .ok (.iload_n 2, 1) := by decide +kernel
theorem dX12_one_59 : decode cX12_one 59 = .ok (.isub, 1) := by decide +kernel
theorem dX12_one_60 : decode cX12_one 60 = .ok (.aload_n 0, 1) := by decide +kernel
theorem dX12_one_61 : decode cX12_one 61 = .ok (.getfield 31, 3) := by decide +kernel
theorem dX12_one_64 : decode cX12_one 64 = .ok (.iconst 0, 1) := by decide +kernel
theorem dX12_one_65 : decode cX12_one 65 = .ok (.iaload, 1) := by decide +kernel
theorem dX12_one_66 : decode cX12_one 66 = .ok (.imul, 1) := by decide +kernel
theorem dX12_one_67 : decode cX12_one 67 = .ok (.aload_n 0, 1) := by decide +kernel
theorem dX12_one_68 : decode cX12_one 68 = .ok (.getfield 31, 3) := by decide +kernel
theorem dX12_one_71 : decode cX12_one 71 = .ok (.iconst 1, 1) := by decide +kernel
theorem dX12_one_72 : decode cX12_one 72 = .ok (.iaload, 1) := by decide +kernel
theorem dX12_one_73 : decode cX12_one 73 = .ok (.iadd, 1) := by decide +kernel
theorem dX12_one_74 : decode cX12_one 74 = .ok (.putfield 115, 3) := by decide +kernel
theorem dX12_one_77 : decode cX12_one 77 = .ok (.iload_n 2, 1) := by decide +kernel
theorem dX12_one_78 : decode cX12_one 78 = .ok (.istore 4, 2) := by decide +kernel
theorem dX12_one_80 : decode cX12_one 80 = .ok (.iload 4, 2) := by decide +kernel
theorem dX12_one_82 : decode cX12_one 82 = .ok (.iload_n 3, 1) := by decide +kernel
theorem dX12_one_83 : decode cX12_one 83 = .ok (.if_icmp .ge 67, 3) := by decide +kernel
theorem dX12_one_86 : decode cX12_one 86 = .ok (.iload_n 3, 1) := by decide +kernel
theorem dX12_one_87 : decode cX12_one 87 = .ok (.iload_n 2, 1) := by decide +kernel
theorem dX12_one_88 : decode cX12_one 88 = .ok (.isub, 1) := by decide +kernel
theorem dX12_one_89 : decode cX12_one 89 = .ok (.iconst 1, 1) := by decide +kernel
theorem dX12_one_90 : decode cX12_one 90 = .ok (.isub, 1) := by decide +kernel
theorem dX12_one_91 : decode cX12_one 91 = .ok (.aload_n 0, 1) := by decide +kernel
theorem dX12_one_92 : decode cX12_one 92 = .ok (.getfield 31, 3) := by decide +kernel
theorem dX12_one_95 : decode cX12_one 95 = .ok (.iconst 0, 1) := by decide +kernel
theorem dX12_one_96 : decode cX12_one 96 = .ok (.iaload, 1) := by decide +kernel
theorem dX12_one_97 : decode cX12_one 97 = .ok (.imul, 1) := by decide +kernel
theorem dX12_one_98 : decode cX12_one 98 = .ok (.aload_n 0, 1) := by decide +kernel
theorem dX12_one_99 : decode cX12_one 99 = .ok (.getfield 34, 3) := by decide +kernel
theorem dX12_one_102 : decode cX12_one 102 = .ok (.iload 4, 2) := by decide +kernel
theorem dX12_one_104 : decode cX12_one 104 = .ok (.iaload, 1) := by decide +kernel
theorem dX12_one_105 : decode cX12_one 105 = .ok (.iload_n 1, 1) := by decide +kernel
theorem dX12_one_106 : decode cX12_one 106 = .ok (.if_icmp .ne 7, 3) := by decide +kernel
theorem dX12_one_109 : decode cX12_one 109 = .ok (.iconst 0, 1) := by decide +kernel
theorem dX12_one_110 : decode cX12_one 110 = .ok (.goto 9, 3) := by decide +kernel
theorem dX12_one_113 : decode cX12_one 113 = .ok (.aload_n 0, 1) := by decide +kernel
theorem dX12_one_114 : decode cX12_one 114 = .ok (.getfield 31, 3) := by decide +kernel
theorem dX12_one_117 : decode cX12_one 117 = .ok (.iconst 2, 1) := by decide +kernel
theorem dX12_one_118 : decode cX12_one 118 = .ok (.iaload, 1) := by decide +kernel
theorem dX12_one_119 : decode cX12_one 119 = .ok (.iadd, 1) := by decide +kernel
theorem dX12_one_120 : decode cX12_one 120 = .ok (.istore 5, 2) := by decide +kernel
theorem dX12_one_122 : decode cX12_one 122 = .ok (.aload_n 0, 1) := by decide +kernel
theorem dX12_one_123 : decode cX12_one 123 = .ok (.iload 5, 2) := by decide +kernel
theorem dX12_one_125 : decode cX12_one 125 = .ok (.aload_n 0, 1) := by decide +kernel
theorem dX12_one_126 : decode cX12_one 126 = .ok (.getfield 115, 3) := by decide +kernel
theorem dX12_one_129 : decode cX12_one 129 = .ok (.if_icmp .ge 8, 3) := by decide +kernel
theorem dX12_one_132 : decode cX12_one 132 = .ok (.iload 5, 2) := by decide +kernel
theorem dX12_one_134 : decode cX12_one 134 = .ok (.goto 7, 3) := by decide +kernel
theorem dX12_one_137 : decode cX12_one 137 = .ok (.aload_n 0, 1) := by decide +kernel
theorem dX12_one_138 : decode cX12_one 138 = .ok (.getfield 115, 3) := by decide +kernel
theorem dX12_one_141 : decode cX12_one 141 = .ok (.putfield 115, 3) := by decide +kernel
theorem dX12_one_144 : decode cX12_one 144 = .ok (.iinc 4 1, 3) := by decide +kernel
theorem dX12_one_147 : decode cX12_one 147 = .ok (.goto (-67), 3) := by decide +kernel
theorem dX12_one_150 : decode cX12_one 150 = .ok (.aload_n 0, 1) := by decide +kernel
theorem dX12_one_151 : decode cX12_one 151 = .ok (.iconst 1, 1) := by decide +kernel
theorem dX12_one_152 : decode cX12_one 152 = .ok (.putfield 118, 3) := by decide +kernel
theorem dX12_one_155 : decode cX12_one 155 = .ok (.aload_n 0, 1) := by decide +kernel
theorem dX12_one_156 : decode cX12_one 156 = .ok (.iload_n 1, 1) := by decide +kernel
theorem dX12_one_157 : decode cX12_one 157 = .ok (.putfield 121, 3) := by decide +kernel
theorem dX12_one_160 : decode cX12_one 160 = .ok (.return_, 1) := by decide +kernel
theorem dX12_isBetter_0 : decode cX12_isBetter 0 = .ok (.iload_n 0, 1) := by decide +kernel
theorem dX12_isBetter_1 : decode cX12_isBetter 1 = .ok (.iload_n 3, 1) := by decide +kernel
theorem dX12_isBetter_2 : decode cX12_isBetter 2 = .ok (.if_icmp .eq 14, 3) := by decide +kernel
theorem dX12_isBetter_5 : decode cX12_isBetter 5 = .ok (.iload_n 0, 1) := by decide +kernel
theorem dX12_isBetter_6 : decode cX12_isBetter 6 = .ok (.iload_n 3, 1) := by decide +kernel
theorem dX12_isBetter_7 : decode cX12_isBetter 7 = .ok (.if_icmp .ge 7, 3) := by decide +kernel
theorem dX12_isBetter_10 : decode cX12_isBetter 10 = .ok (.iconst 1, 1) := by decide +kernel
theorem dX12_isBetter_11 : decode cX12_isBetter 11 = .ok (.goto 4, 3) := by decide +kernel
theorem dX12_isBetter_14 : decode cX12_isBetter 14 = .ok (.iconst 0, 1) := by decide +kernel
theorem dX12_isBetter_15 : decode cX12_isBetter 15 = .ok (.ireturn, 1) := by decide +kernel
theorem dX12_isBetter_16 : decode cX12_isBetter 16 = .ok (.iload_n 1, 1) := by decide +kernel
theorem dX12_isBetter_17 : decode cX12_isBetter 17 = .ok (.iload 4, 2) := by decide +kernel
theorem dX12_isBetter_19 : decode cX12_isBetter 19 = .ok (.if_icmp .eq 17, 3) := by decide +kernel
theorem dX12_isBetter_22 : decode cX12_isBetter 22 = .ok (.iload_n 1, 1) := by decide +kernel
theorem dX12_isBetter_23 : decode cX12_isBetter 23 = .ok (.iload 4, 2) := by decide +kernel
theorem dX12_isBetter_25 : decode cX12_isBetter 25 = .ok (.if_icmp .ge 7, 3) := by decide +kernel
theorem dX12_isBetter_28 : decode cX12_isBetter 28 = .ok (.iconst 1, 1) := by decide +kernel
theorem dX12_isBetter_29 : decode cX12_isBetter 29 = .ok (.goto 24, 3) := by decide +kernel
theorem dX12_isBetter_32 : decode cX12_isBetter 32 = .ok (.iconst 0, 1) := by decide +kernel
theorem dX12_isBetter_33 : decode cX12_isBetter 33 = .ok (.goto 20, 3) := by decide +kernel
theorem dX12_isBetter_36 : decode cX12_isBetter 36 = .ok (.iload_n 1, 1) := by decide +kernel
theorem dX12_isBetter_37 : decode cX12_isBetter 37 = .ok (.bipush 12, 2) := by decide +kernel
theorem dX12_isBetter_39 : decode cX12_isBetter 39 = .ok (.if_icmp .gt 13, 3) := by decide +kernel
theorem dX12_isBetter_42 : decode cX12_isBetter 42 = .ok (.iload_n 2, 1) := by decide +kernel
theorem dX12_isBetter_43 : decode cX12_isBetter 43 = .ok (.iload 5, 2) := by decide +kernel
theorem dX12_isBetter_45 : decode cX12_isBetter 45 = .ok (.if_icmp .ge 7, 3) := by decide +kernel
theorem dX12_isBetter_48 : decode cX12_isBetter 48 = .ok (.iconst 1, 1) := by decide +kernel
theorem dX12_isBetter_49 : decode cX12_isBetter 49 = .ok (.goto 4, 3) := by decide +kernel
theorem dX12_isBetter_52 : decode cX12_isBetter 52 = .ok (.iconst 0, 1) := by decide +kernel
theorem dX12_isBetter_53 : decode cX12_isBetter 53 = .ok (.ireturn, 1) := by decide +kernel
set_option maxRecDepth 20000 in
theorem ggX12_better_X12_one : GoodIn wsX12_better wsX12_one := goodIn_r _ [18, 11, 7, 12, 8, 13, 9, 10, 19, 23, 24, 25, 26, 27, 28, 29, 30, 31, 32, 33, 34, 35, 36, 37, 38, 39, 40, 41, 42, 43, 44, 45, 46, 47, 48, 49, 50, 51, 52, 53, 54, 55, 56, 57, 58] (by decide +kernel) (by decide +kernel)
set_option maxRecDepth 20000 in
theorem gX12_better_X12_one : GoodIn wsX12_better (wsV RX12 125 RX12 yX12_one wsX12_one) := goodIn_app (goodIn_of _ (by decide +kernel)) ggX12_better_X12_one
set_option maxRecDepth 20000 in
theorem ggX12_better_X12_isBetter : GoodIn wsX12_better wsX12_isBetter := goodIn_r _ [22] (by decide +kernel) (by decide +kernel)
set_option maxRecDepth 20000 in
theorem gX12_better_X12_isBetter : GoodIn wsX12_better (va_wsS RX12 129 yX12_isBetter wsX12_isBetter) := goodIn_app (goodIn_of _ (by decide +kernel)) ggX12_better_X12_isBetter
theorem dX12_better_0 : decode cX12_better 0 = .ok (.iconst 5, 1) := by decide +kernel
theorem dX12_better_1 : decode cX12_better 1 = .ok (.iload_n 1, 1) := by decide +kernel
theorem dX12_better_2 : decode cX12_better 2 = .ok (.imul, 1) := by decide +kernel
theorem dX12_better_3 : decode cX12_better 3 = .ok (.iload_n 2, 1) := by decide +kernel
theorem dX12_better_4 : decode cX12_better 4 = .ok (.iadd, 1) := by decide +kernel
theorem dX12_better_5 : decode cX12_better 5 = .ok (.istore 5, 2) := by decide +kernel
theorem dX12_better_7 : decode cX12_better 7 = .ok (.aload_n 0, 1) := by decide +kernel
theorem dX12_better_8 : decode cX12_better 8 = .ok (.getfield 16, 3) := by decide +kernel
theorem dX12_better_11 : decode cX12_better 11 = .ok (.iload 5, 2) := by decide +kernel
theorem dX12_better_13 : decode cX12_better 13 = .ok (.iaload, 1) := by decide +kernel
theorem dX12_better_14 : decode cX12_better 14 = .ok (.istore 6, 2) := by decide +kernel
theorem dX12_better_16 : decode cX12_better 16 = .ok (.iconst 0, 1) := by decide +kernel
theorem dX12_better_17 : decode cX12_better 17 = .ok (.istore 7, 2) := by decide +kernel
theorem dX12_better_19 : decode cX12_better 19 = .ok (.iload 7, 2) := by decide +kernel
theorem dX12_better_21 : decode cX12_better 21 = .ok (.bipush 7, 2) := by decide +kernel
theorem dX12_better_23 : decode cX12_better 23 = .ok (.iload 6, 2) := by decide +kernel
theorem dX12_better_25 : decode cX12_better 25 = .ok (.iconst 1, 1) := by decide +kernel
theorem dX12_better_26 : decode cX12_better 26 = .ok (.iadd, 1) := by decide +kernel
theorem dX12_better_27 : decode cX12_better 27 = .ok (.imul, 1) := by decide +kernel
theorem dX12_better_28 : decode cX12_better 28 = .ok (.if_icmp .ge 18, 3) := by decide +kernel
theorem dX12_better_31 : decode cX12_better 31 = .ok (.aload_n 0, 1) := by decide +kernel
theorem dX12_better_32 : decode cX12_better 32 = .ok (.getfield 46, 3) := by decide +kernel
theorem dX12_better_35 : decode cX12_better 35 = .ok (.iload 7, 2) := by decide +kernel
theorem dX12_better_37 : decode cX12_better 37 = .ok (.ldc 124, 2) := by decide +kernel
theorem dX12_better_39 : decode cX12_better 39 = .ok (.iastore, 1) := by decide +kernel
theorem dX12_better_40 : decode cX12_better 40 = .ok (.iinc 7 1, 3) := by decide +kernel
theorem dX12_better_43 : decode cX12_better 43 = .ok (.goto (-24), 3) := by decide +kernel
theorem dX12_better_46 : decode cX12_better 46 = .ok (.aload_n 0, 1) := by decide +kernel
theorem dX12_better_47 : decode cX12_better 47 = .ok (.getfield 46, 3) := by decide +kernel
theorem dX12_better_50 : decode cX12_better 50 = .ok (.iload_n 3, 1) := by decide +kernel
theorem dX12_better_51 : decode cX12_better 51 = .ok (.iconst 0, 1) := by decide +kernel
theorem dX12_better_52 : decode cX12_better 52 = .ok (.iastore, 1) := by decide +kernel
theorem dX12_better_53 : decode cX12_better 53 = .ok (.aload_n 0, 1) := by decide +kernel
theorem dX12_better_54 : decode cX12_better 54 = .ok (.getfield 49, 3) := by decide +kernel
theorem dX12_better_57 : decode cX12_better 57 = .ok (.iload_n 3, 1) := by decide +kernel
theorem dX12_better_58 : decode cX12_better 58 = .ok (.iconst 0, 1) := by decide +kernel
theorem dX12_better_59 : decode cX12_better 59 = .ok (.iastore, 1) := by decide +kernel
theorem dX12_better_60 : decode cX12_better 60 = .ok (.aload_n 0, 1) := by decide +kernel
theorem dX12_better_61 : decode cX12_better 61 = .ok (.getfield 52, 3) := by decide +kernel
theorem dX12_better_64 : decode cX12_better 64 = .ok (.iload_n 3, 1) := by decide +kernel
theorem dX12_better_65 : decode cX12_better 65 = .ok (.iconst 0, 1) := by decide +kernel
theorem dX12_better_66 : decode cX12_better 66 = .ok (.iastore, 1) := by decide +kernel
theorem dX12_better_67 : decode cX12_better 67 = .ok (.iconst 0, 1) := by decide +kernel
theorem dX12_better_68 : decode cX12_better 68 = .ok (.istore 7, 2) := by decide +kernel
theorem dX12_better_70 : decode cX12_better 70 = .ok (.iload 7, 2) := by decide +kernel
theorem dX12_better_72 : decode cX12_better 72 = .ok (.iload 6, 2) := by decide +kernel
theorem dX12_better_74 : decode cX12_better 74 = .ok (.if_icmp .ge 251, 3) := by decide +kernel
theorem dX12_better_77 : decode cX12_better 77 = .ok (.iload_n 3, 1) := by decide +kernel
theorem dX12_better_78 : decode cX12_better 78 = .ok (.istore 8, 2) := by decide +kernel
theorem dX12_better_80 : decode cX12_better 80 = .ok (.iload 8, 2) := by decide +kernel
theorem dX12_better_82 : decode cX12_better 82 = .ok (.iload 4, 2) := by decide +kernel
theorem dX12_better_84 : decode cX12_better 84 = .ok (.if_icmp .gt 235, 3) := by decide +kernel
theorem dX12_better_87 : decode cX12_better 87 = .ok (.iload 8, 2) := by decide +kernel
theorem dX12_better_89 : decode cX12_better 89 = .ok (.istore 9, 2) := by decide +kernel
theorem dX12_better_91 : decode cX12_better 91 = .ok (.iload 9, 2) := by decide +kernel
theorem dX12_better_93 : decode cX12_better 93 = .ok (.iload 4, 2) := by decide +kernel
theorem dX12_better_95 : decode cX12_better 95 = .ok (.if_icmp .gt 218, 3) := by decide +kernel
theorem dX12_better_98 : decode cX12_better 98 = .ok (.aload_n 0, 1) := by decide +kernel
theorem dX12_better_99 : decode cX12_better 99 = .ok (.getfield 46, 3) := by decide +kernel
theorem dX12_better_102 : decode cX12_better 102 = .ok (.bipush 7, 2) := by decide +kernel
theorem dX12_better_104 : decode cX12_better 104 = .ok (.iload 7, 2) := by decide +kernel
theorem dX12_better_106 : decode cX12_better 106 = .ok (.imul, 1) := by decide +kernel
theorem dX12_better_107 : decode cX12_better 107 = .ok (.iload 8, 2) := by decide +kernel
theorem dX12_better_109 : decode cX12_better 109 = .ok (.iadd, 1) := by decide +kernel
theorem dX12_better_110 : decode cX12_better 110 = .ok (.iaload, 1) := by decide +kernel
theorem dX12_better_111 : decode cX12_better 111 = .ok (.ldc 124, 2) := by decide +kernel
theorem dX12_better_113 : decode cX12_better 113 = .ok (.if_icmp .ge 200, 3) := by decide +kernel
theorem dX12_better_116 : decode cX12_better 116 = .ok (.aload_n 0, 1) := by decide +kernel
theorem dX12_better_117 : decode cX12_better 117 = .ok (.aload_n 0, 1) := by decide +kernel
theorem dX12_better_118 : decode cX12_better 118 = .ok (.getfield 19, 3) := by decide +kernel
theorem dX12_better_121 : decode cX12_better 121 = .ok (.iconst 4, 1) := by decide +kernel
theorem dX12_better_122 : decode cX12_better 122 = .ok (.iload 5, 2) := by decide +kernel
theorem dX12_better_124 : decode cX12_better 124 = .ok (.imul, 1) := by decide +kernel
theorem dX12_better_125 : decode cX12_better 125 = .ok (.iload 7, 2) := by decide +kernel
theorem dX12_better_127 : decode cX12_better 127 = .ok (.iadd, 1) := by decide +kernel
theorem dX12_better_128 : decode cX12_better 128 = .ok (.iaload, 1) := by decide +kernel
theorem dX12_better_129 : decode cX12_better 129 = .ok (.iload 8, 2) := by decide +kernel
theorem dX12_better_131 : decode cX12_better 131 = .ok (.iload 9, 2) := by decide +kernel
theorem dX12_better_133 : decode cX12_better 133 = .ok (.invokevirtual 125, 3) := by decide +kernel
theorem dX12_better_136 : decode cX12_better 136 = .ok (.bipush 7, 2) := by decide +kernel
theorem dX12_better_138 : decode cX12_better 138 = .ok (.iload 7, 2) := by decide +kernel
theorem dX12_better_140 : decode cX12_better 140 = .ok (.iconst 1, 1) := by decide +kernel
theorem dX12_better_141 : decode cX12_better 141 = .ok (.iadd, 1) := by decide +kernel
theorem dX12_better_142 : decode cX12_better 142 = .ok (.imul, 1) := by decide +kernel
theorem dX12_better_143 : decode cX12_better 143 = .ok (.iload 9, 2) := by decide +kernel
theorem dX12_better_145 : decode cX12_better 145 = .ok (.iadd, 1) := by decide +kernel
theorem dX12_better_146 : decode cX12_better 146 = .ok (.istore 10, 2) := by decide +kernel
theorem dX12_better_148 : decode cX12_better 148 = .ok (.aload_n 0, 1) := by decide +kernel
theorem dX12_better_149 : decode cX12_better 149 = .ok (.getfield 46, 3) := by decide +kernel
theorem dX12_better_152 : decode cX12_better 152 = .ok (.bipush 7, 2) := by decide +kernel
theorem dX12_better_154 : decode cX12_better 154 = .ok (.iload 7, 2) := by decide +kernel
theorem dX12_better_156 : decode cX12_better 156 = .ok (.imul, 1) := by decide +kernel
theorem dX12_better_157 : decode cX12_better 157 = .ok (.iload 8, 2) := by decide +kernel
theorem dX12_better_159 : decode cX12_better 159 = .ok (.iadd, 1) := by decide +kernel
theorem dX12_better_160 : decode cX12_better 160 = .ok (.iaload, 1) := by decide +kernel
theorem dX12_better_161 : decode cX12_better 161 = .ok (.aload_n 0, 1) := by decide +kernel
theorem dX12_better_162 : decode cX12_better 162 = .ok (.getfield 115, 3) := by decide +kernel
theorem dX12_better_165 : decode cX12_better 165 = .ok (.iadd, 1) := by decide +kernel
theorem dX12_better_166 : decode cX12_better 166 = .ok (.istore 11, 2) := by decide +kernel
theorem dX12_better_168 : decode cX12_better 168 = .ok (.aload_n 0, 1) := by decide +kernel
theorem dX12_better_169 : decode cX12_better 169 = .ok (.getfield 49, 3) := by decide +kernel
theorem dX12_better_172 : decode cX12_better 172 = .ok (.bipush 7, 2) := by decide +kernel
theorem dX12_better_174 : decode cX12_better 174 = .ok (.iload 7, 2) := by decide +kernel
theorem dX12_better_176 : decode cX12_better 176 = .ok (.imul, 1) := by decide +kernel
theorem dX12_better_177 : decode cX12_better 177 = .ok (.iload 8, 2) := by decide +kernel
theorem dX12_better_179 : decode cX12_better 179 = .ok (.iadd, 1) := by decide +kernel
theorem dX12_better_180 : decode cX12_better 180 = .ok (.iaload, 1) := by decide +kernel
theorem dX12_better_181 : decode cX12_better 181 = .ok (.aload_n 0, 1) := by decide +kernel
theorem dX12_better_182 : decode cX12_better 182 = .ok (.getfield 118, 3) := by decide +kernel
theorem dX12_better_185 : decode cX12_better 185 = .ok (.iadd, 1) := by decide +kernel
theorem dX12_better_186 : decode cX12_better 186 = .ok (.istore 12, 2) := by decide +kernel
theorem dX12_better_188 : decode cX12_better 188 = .ok (.iload 12, 2) := by decide +kernel
theorem dX12_better_190 : decode cX12_better 190 = .ok (.bipush 12, 2) := by decide +kernel
theorem dX12_better_192 : decode cX12_better 192 = .ok (.if_icmp .le 7, 3) := by decide +kernel
theorem dX12_better_195 : decode cX12_better 195 = .ok (.iconst 0, 1) := by decide +kernel
theorem dX12_better_196 : decode cX12_better 196 = .ok (.goto 28, 3) := by decide +kernel
theorem dX12_better_199 : decode cX12_better 199 = .ok (.aload_n 0, 1) := by decide +kernel
theorem dX12_better_200 : decode cX12_better 200 = .ok (.getfield 52, 3) := by decide +kernel
theorem dX12_better_203 : decode cX12_better 203 = .ok (.bipush 7, 2) := by decide +kernel
theorem dX12_better_205 : decode cX12_better 205 = .ok (.iload 7, 2) := by decide +kernel
theorem dX12_better_207 : decode cX12_better 207 = .ok (.imul, 1) := by decide +kernel
theorem dX12_better_208 : decode cX12_better 208 = .ok (.iload 8, 2) := by decide +kernel
theorem dX12_better_210 : decode cX12_better 210 = .ok (.iadd, 1) := by decide +kernel
theorem dX12_better_211 : decode cX12_better 211 = .ok (.iaload, 1) := by decide +kernel
theorem dX12_better_212 : decode cX12_better 212 = .ok (.iconst 2, 1) := by decide +kernel
theorem dX12_better_213 : decode cX12_better 213 = .ok (.aload_n 0, 1) := by decide +kernel
theorem dX12_better_214 : decode cX12_better 214 = .ok (.getfield 118, 3) := by decide +kernel
theorem dX12_better_217 : decode cX12_better 217 = .ok (.imul, 1) := by decide +kernel
theorem dX12_better_218 : decode cX12_better 218 = .ok (.ishl, 1) := by decide +kernel
theorem dX12_better_219 : decode cX12_better 219 = .ok (.aload_n 0, 1) := by decide +kernel
theorem dX12_better_220 : decode cX12_better 220 = .ok (.getfield 121, 3) := by decide +kernel
theorem dX12_better_223 : decode cX12_better 223 = .ok (.ior, 1) := by decide +kernel
theorem dX12_better_224 : decode cX12_better 224 = .ok (.istore 13, 2) := by decide +kernel
theorem dX12_better_226 : decode cX12_better 226 = .ok (.aload_n 0, 1) := by decide +kernel
theorem dX12_better_227 : decode cX12_better 227 = .ok (.getfield 115, 3) := by decide +kernel
theorem dX12_better_230 : decode cX12_better 230 = .ok (.ldc 124, 2) := by decide +kernel
theorem dX12_better_232 : decode cX12_better 232 = .ok (.if_icmp .ge 75, 3) := by decide +kernel
theorem dX12_better_235 : decode cX12_better 235 = .ok (.aload_n 0, 1) := by decide +kernel
theorem dX12_better_236 : decode cX12_better 236 = .ok (.getfield 46, 3) := by decide +kernel
theorem dX12_better_239 : decode cX12_better 239 = .ok (.iload 10, 2) := by decide +kernel
theorem dX12_better_241 : decode cX12_better 241 = .ok (.iaload, 1) := by decide +kernel
theorem dX12_better_242 : decode cX12_better 242 = .ok (.ldc 124, 2) := by decide +kernel
theorem dX12_better_244 : decode cX12_better 244 = .ok (.if_icmp .eq 36, 3) := by decide +kernel
theorem dX12_better_247 : decode cX12_better 247 = .ok (.iload 11, 2) := by decide +kernel
theorem dX12_better_249 : decode cX12_better 249 = .ok (.iload 12, 2) := by decide +kernel
theorem dX12_better_251 : decode cX12_better 251 = .ok (.iload 13, 2) := by decide +kernel
theorem dX12_better_253 : decode cX12_better 253 = .ok (.aload_n 0, 1) := by decide +kernel
theorem dX12_better_254 : decode cX12_better 254 = .ok (.getfield 46, 3) := by decide +kernel
theorem dX12_better_257 : decode cX12_better 257 = .ok (.iload 10, 2) := by decide +kernel
theorem dX12_better_259 : decode cX12_better 259 = .ok (.iaload, 1) := by decide +kernel
theorem dX12_better_260 : decode cX12_better 260 = .ok (.aload_n 0, 1) := by decide +kernel
theorem dX12_better_261 : decode cX12_better 261 = .ok (.getfield 49, 3) := by decide +kernel
theorem dX12_better_264 : decode cX12_better 264 = .ok (.iload 10, 2) := by decide +kernel
theorem dX12_better_266 : decode cX12_better 266 = .ok (.iaload, 1) := by decide +kernel
theorem dX12_better_267 : decode cX12_better 267 = .ok (.aload_n 0, 1) := by decide +kernel
theorem dX12_better_268 : decode cX12_better 268 = .ok (.getfield 52, 3) := by decide +kernel
theorem dX12_better_271 : decode cX12_better 271 = .ok (.iload 10, 2) := by decide +kernel
theorem dX12_better_273 : decode cX12_better 273 = .ok (.iaload, 1) := by decide +kernel
theorem dX12_better_274 : decode cX12_better 274 = .ok (.invokestatic 129, 3) := by decide +kernel
theorem dX12_better_277 : decode cX12_better 277 = .ok (.ifCond .eq 30, 3) := by decide +kernel
theorem dX12_better_280 : decode cX12_better 280 = .ok (.aload_n 0, 1) := by decide +kernel
theorem dX12_better_281 : decode cX12_better 281 = .ok (.getfield 46, 3) := by decide +kernel
theorem dX12_better_284 : decode cX12_better 284 = .ok (.iload 10, 2) := by decide +kernel
theorem dX12_better_286 : decode cX12_better 286 = .ok (.iload 11, 2) := by decide +kernel
theorem dX12_better_288 : decode cX12_better 288 = .ok (.iastore, 1) := by decide +kernel
theorem dX12_better_289 : decode cX12_better 289 = .ok (.aload_n 0, 1) := by decide +kernel
theorem dX12_better_290 : decode cX12_better 290 = .ok (.getfield 49, 3) := by decide +kernel
theorem dX12_better_293 : decode cX12_better 293 = .ok (.iload 10, 2) := by decide +kernel
theorem dX12_better_295 : decode cX12_better 295 = .ok (.iload 12, 2) := by decide +kernel
theorem dX12_better_297 : decode cX12_better 297 = .ok (.iastore, 1) := by decide +kernel
theorem dX12_better_298 : decode cX12_better 298 = .ok (.aload_n 0, 1) := by decide +kernel
theorem dX12_better_299 : decode cX12_better 299 = .ok (.getfield 52, 3) := by decide +kernel
theorem dX12_better_302 : decode cX12_better 302 = .ok (.iload 10, 2) := by decide +kernel
theorem dX12_better_304 : decode cX12_better 304 = .ok (.iload 13, 2) := by decide +kernel
theorem dX12_better_306 : decode cX12_better 306 = .ok (.iastore, 1) := by decide +kernel
theorem dX12_better_307 : decode cX12_better 307 = .ok (.iinc 9 1, 3) := by decide +kernel
theorem dX12_better_310 : decode cX12_better 310 = .ok (.goto (-219), 3) := by decide +kernel
theorem dX12_better_313 : decode cX12_better 313 = .ok (.iinc 8 1, 3) := by decide +kernel
theorem dX12_better_316 : decode cX12_better 316 = .ok (.goto (-236), 3) := by decide +kernel
theorem dX12_better_319 : decode cX12_better 319 = .ok (.iinc 7 1, 3) := by decide +kernel
theorem dX12_better_322 : decode cX12_better 322 = .ok (.goto (-252), 3) := by decide +kernel
theorem dX12_better_325 : decode cX12_better 325 = .ok (.iload 6, 2) := by decide +kernel
theorem dX12_better_327 : decode cX12_better 327 = .ok (.ifCond .ne 7, 3) := by decide +kernel
theorem dX12_better_330 : decode cX12_better 330 = .ok (.iload_n 3, 1) := by decide +kernel
theorem dX12_better_331 : decode cX12_better 331 = .ok (.goto 11, 3) := by decide +kernel
theorem dX12_better_334 : decode cX12_better 334 = .ok (.bipush 7, 2) := by decide +kernel
theorem dX12_better_336 : decode cX12_better 336 = .ok (.iload 6, 2) := by decide +kernel
theorem dX12_better_338 : decode cX12_better 338 = .ok (.imul, 1) := by decide +kernel
theorem dX12_better_339 : decode cX12_better 339 = .ok (.iload 4, 2) := by decide +kernel
theorem dX12_better_341 : decode cX12_better 341 = .ok (.iadd, 1) := by decide +kernel
theorem dX12_better_342 : decode cX12_better 342 = .ok (.istore 7, 2) := by decide +kernel
theorem dX12_better_344 : decode cX12_better 344 = .ok (.iload 6, 2) := by decide +kernel
theorem dX12_better_346 : decode cX12_better 346 = .ok (.ifCond .ne 17, 3) := by decide +kernel
theorem dX12_better_349 : decode cX12_better 349 = .ok (.iload 4, 2) := by decide +kernel
theorem dX12_better_351 : decode cX12_better 351 = .ok (.iload_n 3, 1) := by decide +kernel
theorem dX12_better_352 : decode cX12_better 352 = .ok (.isub, 1) := by decide +kernel
theorem dX12_better_353 : decode cX12_better 353 = .ok (.aload_n 0, 1) := by decide +kernel
theorem dX12_better_354 : decode cX12_better 354 = .ok (.getfield 31, 3) := by decide +kernel
theorem dX12_better_357 : decode cX12_better 357 = .ok (.iconst 0, 1) := by decide +kernel
theorem dX12_better_358 : decode cX12_better 358 = .ok (.iaload, 1) := by decide +kernel
theorem dX12_better_359 : decode cX12_better 359 = .ok (.imul, 1) := by decide +kernel
theorem dX12_better_360 : decode cX12_better 360 = .ok (.goto 10, 3) := by decide +kernel
theorem dX12_better_363 : decode cX12_better 363 = .ok (.aload_n 0, 1) := by decide +kernel
theorem dX12_better_364 : decode cX12_better 364 = .ok (.getfield 46, 3) := by decide +kernel
theorem dX12_better_367 : decode cX12_better 367 = .ok (.iload 7, 2) := by decide +kernel
theorem dX12_better_369 : decode cX12_better 369 = .ok (.iaload, 1) := by decide +kernel
theorem dX12_better_370 : decode cX12_better 370 = .ok (.istore 8, 2) := by decide +kernel
theorem dX12_better_372 : decode cX12_better 372 = .ok (.bipush 49, 2) := by decide +kernel
theorem dX12_better_374 : decode cX12_better 374 = .ok (.iload_n 1, 1) := by decide +kernel
theorem dX12_better_375 : decode cX12_better 375 = .ok (.imul, 1) := by decide +kernel
theorem dX12_better_376 : decode cX12_better 376 = .ok (.bipush 7, 2) := by decide +kernel
theorem dX12_better_378 : decode cX12_better 378 = .ok (.iload_n 3, 1) := by decide +kernel
theorem dX12_better_379 : decode cX12_better 379 = .ok (.imul, 1) := by decide +kernel
theorem dX12_better_380 : decode cX12_better 380 = .ok (.iadd, 1) := by decide +kernel
theorem dX12_better_381 : decode cX12_better 381 = .ok (.iload 4, 2) := by decide +kernel
theorem dX12_better_383 : decode cX12_better 383 = .ok (.iadd, 1) := by decide +kernel
theorem dX12_better_384 : decode cX12_better 384 = .ok (.istore 9, 2) := by decide +kernel
theorem dX12_better_386 : decode cX12_better 386 = .ok (.iload 8, 2) := by decide +kernel
theorem dX12_better_388 : decode cX12_better 388 = .ok (.ldc 124, 2) := by decide +kernel
theorem dX12_better_390 : decode cX12_better 390 = .ok (.if_icmp .ge 58, 3) := by decide +kernel
theorem dX12_better_393 : decode cX12_better 393 = .ok (.aload_n 0, 1) := by decide +kernel
theorem dX12_better_394 : decode cX12_better 394 = .ok (.getfield 37, 3) := by decide +kernel
theorem dX12_better_397 : decode cX12_better 397 = .ok (.iload 9, 2) := by decide +kernel
theorem dX12_better_399 : decode cX12_better 399 = .ok (.iaload, 1) := by decide +kernel
theorem dX12_better_400 : decode cX12_better 400 = .ok (.ldc 124, 2) := by decide +kernel
theorem dX12_better_402 : decode cX12_better 402 = .ok (.if_icmp .ge 48, 3) := by decide +kernel
theorem dX12_better_405 : decode cX12_better 405 = .ok (.iload 8, 2) := by decide +kernel
theorem dX12_better_407 : decode cX12_better 407 = .ok (.aload_n 0, 1) := by decide +kernel
theorem dX12_better_408 : decode cX12_better 408 = .ok (.getfield 49, 3) := by decide +kernel
theorem dX12_better_411 : decode cX12_better 411 = .ok (.iload 7, 2) := by decide +kernel
theorem dX12_better_413 : decode cX12_better 413 = .ok (.iaload, 1) := by decide +kernel
theorem dX12_better_414 : decode cX12_better 414 = .ok (.aload_n 0, 1) := by decide +kernel
theorem dX12_better_415 : decode cX12_better 415 = .ok (.getfield 52, 3) := by decide +kernel
theorem dX12_better_418 : decode cX12_better 418 = .ok (.iload 7, 2) := by decide +kernel
theorem dX12_better_420 : decode cX12_better 420 = .ok (.iaload, 1) := by decide +kernel
theorem dX12_better_421 : decode cX12_better 421 = .ok (.aload_n 0, 1) := by decide +kernel
theorem dX12_better_422 : decode cX12_better 422 = .ok (.getfield 37, 3) := by decide +kernel
theorem dX12_better_425 : decode cX12_better 425 = .ok (.iload 9, 2) := by decide +kernel
theorem dX12_better_427 : decode cX12_better 427 = .ok (.iaload, 1) := by decide +kernel
theorem dX12_better_428 : decode cX12_better 428 = .ok (.aload_n 0, 1) := by decide +kernel
theorem dX12_better_429 : decode cX12_better 429 = .ok (.getfield 40, 3) := by decide +kernel
theorem dX12_better_432 : decode cX12_better 432 = .ok (.iload 9, 2) := by decide +kernel
theorem dX12_better_434 : decode cX12_better 434 = .ok (.iaload, 1) := by decide +kernel
theorem dX12_better_435 : decode cX12_better 435 = .ok (.aload_n 0, 1) := by decide +kernel
theorem dX12_better_436 : decode cX12_better 436 = .ok (.getfield 43, 3) := by decide +kernel
theorem dX12_better_439 : decode cX12_better 439 = .ok (.iload 9, 2) := by decide +kernel
theorem dX12_better_441 : decode cX12_better 441 = .ok (.iaload, 1) := by decide +kernel
theorem dX12_better_442 : decode cX12_better 442 = .ok (.invokestatic 129, 3) := by decide +kernel
theorem dX12_better_445 : decode cX12_better 445 = .ok (.ifCond .ne 5, 3) := by decide +kernel
theorem dX12_better_448 : decode cX12_better 448 = .ok (.iconst 0, 1) := by decide +kernel
theorem dX12_better_449 : decode cX12_better 449 = .ok (.ireturn, 1) := by decide +kernel
theorem dX12_better_450 : decode cX12_better 450 = .ok (.aload_n 0, 1) := by decide +kernel
theorem dX12_better_451 : decode cX12_better 451 = .ok (.getfield 37, 3) := by decide +kernel
theorem dX12_better_454 : decode cX12_better 454 = .ok (.iload 9, 2) := by decide +kernel
theorem dX12_better_456 : decode cX12_better 456 = .ok (.iload 8, 2) := by decide +kernel
theorem dX12_better_458 : decode cX12_better 458 = .ok (.iastore, 1) := by decide +kernel
theorem dX12_better_459 : decode cX12_better 459 = .ok (.aload_n 0, 1) := by decide +kernel
theorem dX12_better_460 : decode cX12_better 460 = .ok (.getfield 40, 3) := by decide +kernel
theorem dX12_better_463 : decode cX12_better 463 = .ok (.iload 9, 2) := by decide +kernel
theorem dX12_better_465 : decode cX12_better 465 = .ok (.aload_n 0, 1) := by decide +kernel
theorem dX12_better_466 : decode cX12_better 466 = .ok (.getfield 49, 3) := by decide +kernel
theorem dX12_better_469 : decode cX12_better 469 = .ok (.iload 7, 2) := by decide +kernel
theorem dX12_better_471 : decode cX12_better 471 = .ok (.iaload, 1) := by decide +kernel
theorem dX12_better_472 : decode cX12_better 472 = .ok (.iastore, 1) := by decide +kernel
theorem dX12_better_473 : decode cX12_better 473 = .ok (.aload_n 0, 1) := by decide +kernel
theorem dX12_better_474 : decode cX12_better 474 = .ok (.getfield 43, 3) := by decide +kernel
theorem dX12_better_477 : decode cX12_better 477 = .ok (.iload 9, 2) := by decide +kernel
theorem dX12_better_479 : decode cX12_better 479 = .ok (.aload_n 0, 1) := by decide +kernel
theorem dX12_better_480 : decode cX12_better 480 = .ok (.getfield 52, 3) := by decide +kernel
theorem dX12_better_483 : decode cX12_better 483 = .ok (.iload 7, 2) := by decide +kernel
theorem dX12_better_485 : decode cX12_better 485 = .ok (.iaload, 1) := by decide +kernel
theorem dX12_better_486 : decode cX12_better 486 = .ok (.iastore, 1) := by decide +kernel
theorem dX12_better_487 : decode cX12_better 487 = .ok (.iconst 1, 1) := by decide +kernel
theorem dX12_better_488 : decode cX12_better 488 = .ok (.ireturn, 1) := by decide +kernel
set_option maxRecDepth 20000 in
theorem ggX12_layMends_X12_better : GoodIn wsX12_layMends wsX12_better := goodIn_r _ [11, 12, 13, 2, 14, 15, 16, 17, 18, 19, 20, 1, 3, 4, 21, 22, 23, 10, 24, 25, 26, 27, 28, 29, 30, 31, 32, 33, 34, 35, 36, 37, 38, 39, 40, 41, 42, 43, 44, 45, 46, 47, 48, 49, 50, 51, 52, 53, 54, 55, 56, 57, 58, 59, 60, 61, 62, 63, 64] (by decide +kernel) (by decide +kernel)
set_option maxRecDepth 20000 in
theorem gX12_layMends_X12_better : GoodIn wsX12_layMends (wsV RX12 136 RX12 yX12_better wsX12_better) := goodIn_app (goodIn_of _ (by decide +kernel)) ggX12_layMends_X12_better
theorem dX12_layMends_0 : decode cX12_layMends 0 = .ok (.iconst 0, 1) := by decide +kernel
theorem dX12_layMends_1 : decode cX12_layMends 1 = .ok (.istore_n 1, 1) := by decide +kernel
theorem dX12_layMends_2 : decode cX12_layMends 2 = .ok (.iload_n 1, 1) := by decide +kernel
theorem dX12_layMends_3 : decode cX12_layMends 3 = .ok (.sipush 294, 3) := by decide +kernel
theorem dX12_layMends_6 : decode cX12_layMends 6 = .ok (.if_icmp .ge 31, 3) := by decide +kernel
theorem dX12_layMends_9 : decode cX12_layMends 9 = .ok (.aload_n 0, 1) := by decide +kernel
theorem dX12_layMends_10 : decode cX12_layMends 10 = .ok (.getfield 37, 3) := by decide +kernel
theorem dX12_layMends_13 : decode cX12_layMends 13 = .ok (.iload_n 1, 1) := by decide +kernel
theorem dX12_layMends_14 : decode cX12_layMends 14 = .ok (.ldc 124, 2) := by decide +kernel
theorem dX12_layMends_16 : decode cX12_layMends 16 = .ok (.iastore, 1) := by decide +kernel
theorem dX12_layMends_17 : decode cX12_layMends 17 = .ok (.aload_n 0, 1) := by decide +kernel
theorem dX12_layMends_18 : decode cX12_layMends 18 = .ok (.getfield 40, 3) := by decide +kernel
theorem dX12_layMends_21 : decode cX12_layMends 21 = .ok (.iload_n 1, 1) := by decide +kernel
theorem dX12_layMends_22 : decode cX12_layMends 22 = .ok (.iconst 0, 1) := by decide +kernel
theorem dX12_layMends_23 : decode cX12_layMends 23 = .ok (.iastore, 1) := by decide +kernel
theorem dX12_layMends_24 : decode cX12_layMends 24 = .ok (.aload_n 0, 1) := by decide +kernel
theorem dX12_layMends_25 : decode cX12_layMends 25 = .ok (.getfield 43, 3) := by decide +kernel
theorem dX12_layMends_28 : decode cX12_layMends 28 = .ok (.iload_n 1, 1) := by decide +kernel
theorem dX12_layMends_29 : decode cX12_layMends 29 = .ok (.iconst 0, 1) := by decide +kernel
theorem dX12_layMends_30 : decode cX12_layMends 30 = .ok (.iastore, 1) := by decide +kernel
theorem dX12_layMends_31 : decode cX12_layMends 31 = .ok (.iinc 1 1, 3) := by decide +kernel
theorem dX12_layMends_34 : decode cX12_layMends 34 = .ok (.goto (-32), 3) := by decide +kernel
theorem dX12_layMends_37 : decode cX12_layMends 37 = .ok (.iconst 1, 1) := by decide +kernel
theorem dX12_layMends_38 : decode cX12_layMends 38 = .ok (.istore_n 1, 1) := by decide +kernel
theorem dX12_layMends_39 : decode cX12_layMends 39 = .ok (.iload_n 1, 1) := by decide +kernel
theorem dX12_layMends_40 : decode cX12_layMends 40 = .ok (.ifCond .eq 99, 3) := by decide +kernel
theorem dX12_layMends_43 : decode cX12_layMends 43 = .ok (.iconst 0, 1) := by decide +kernel
theorem dX12_layMends_44 : decode cX12_layMends 44 = .ok (.istore_n 1, 1) := by decide +kernel
theorem dX12_layMends_45 : decode cX12_layMends 45 = .ok (.iconst 0, 1) := by decide +kernel
theorem dX12_layMends_46 : decode cX12_layMends 46 = .ok (.istore_n 2, 1) := by decide +kernel
theorem dX12_layMends_47 : decode cX12_layMends 47 = .ok (.iload_n 2, 1) := by decide +kernel
theorem dX12_layMends_48 : decode cX12_layMends 48 = .ok (.bipush 6, 2) := by decide +kernel
theorem dX12_layMends_50 : decode cX12_layMends 50 = .ok (.if_icmp .ge 86, 3) := by decide +kernel
theorem dX12_layMends_53 : decode cX12_layMends 53 = .ok (.iconst 0, 1) := by decide +kernel
theorem dX12_layMends_54 : decode cX12_layMends 54 = .ok (.istore_n 3, 1) := by decide +kernel
theorem dX12_layMends_55 : decode cX12_layMends 55 = .ok (.iload_n 3, 1) := by decide +kernel
theorem dX12_layMends_56 : decode cX12_layMends 56 = .ok (.aload_n 0, 1) := by decide +kernel
theorem dX12_layMends_57 : decode cX12_layMends 57 = .ok (.getfield 133, 3) := by decide +kernel
theorem dX12_layMends_60 : decode cX12_layMends 60 = .ok (.if_icmp .gt 70, 3) := by decide +kernel
theorem dX12_layMends_63 : decode cX12_layMends 63 = .ok (.iload_n 3, 1) := by decide +kernel
theorem dX12_layMends_64 : decode cX12_layMends 64 = .ok (.istore 4, 2) := by decide +kernel
theorem dX12_layMends_66 : decode cX12_layMends 66 = .ok (.iload 4, 2) := by decide +kernel
theorem dX12_layMends_68 : decode cX12_layMends 68 = .ok (.aload_n 0, 1) := by decide +kernel
theorem dX12_layMends_69 : decode cX12_layMends 69 = .ok (.getfield 133, 3) := by decide +kernel
theorem dX12_layMends_72 : decode cX12_layMends 72 = .ok (.if_icmp .gt 52, 3) := by decide +kernel
theorem dX12_layMends_75 : decode cX12_layMends 75 = .ok (.iconst 0, 1) := by decide +kernel
theorem dX12_layMends_76 : decode cX12_layMends 76 = .ok (.istore 5, 2) := by decide +kernel
theorem dX12_layMends_78 : decode cX12_layMends 78 = .ok (.iload 5, 2) := by decide +kernel
theorem dX12_layMends_80 : decode cX12_layMends 80 = .ok (.aload_n 0, 1) := by decide +kernel
theorem dX12_layMends_81 : decode cX12_layMends 81 = .ok (.getfield 13, 3) := by decide +kernel
theorem dX12_layMends_84 : decode cX12_layMends 84 = .ok (.iload_n 2, 1) := by decide +kernel
theorem dX12_layMends_85 : decode cX12_layMends 85 = .ok (.iaload, 1) := by decide +kernel
theorem dX12_layMends_86 : decode cX12_layMends 86 = .ok (.if_icmp .ge 32, 3) := by decide +kernel
theorem dX12_layMends_89 : decode cX12_layMends 89 = .ok (.aload_n 0, 1) := by decide +kernel
theorem dX12_layMends_90 : decode cX12_layMends 90 = .ok (.iload_n 2, 1) := by decide +kernel
theorem dX12_layMends_91 : decode cX12_layMends 91 = .ok (.iload 5, 2) := by decide +kernel
theorem dX12_layMends_93 : decode cX12_layMends 93 = .ok (.iload_n 3, 1) := by decide +kernel
theorem dX12_layMends_94 : decode cX12_layMends 94 = .ok (.iload 4, 2) := by decide +kernel
theorem dX12_layMends_96 : decode cX12_layMends 96 = .ok (.invokevirtual 136, 3) := by decide +kernel
theorem dX12_layMends_99 : decode cX12_layMends 99 = .ok (.ifCond .ne 7, 3) := by decide +kernel
theorem dX12_layMends_102 : decode cX12_layMends 102 = .ok (.iload_n 1, 1) := by decide +kernel
theorem dX12_layMends_103 : decode cX12_layMends 103 = .ok (.ifCond .eq 7, 3) := by decide +kernel
theorem dX12_layMends_106 : decode cX12_layMends 106 = .ok (.iconst 1, 1) := by decide +kernel
theorem dX12_layMends_107 : decode cX12_layMends 107 = .ok (.goto 4, 3) := by decide +kernel
theorem dX12_layMends_110 : decode cX12_layMends 110 = .ok (.iconst 0, 1) := by decide +kernel
theorem dX12_layMends_111 : decode cX12_layMends 111 = .ok (.istore_n 1, 1) := by decide +kernel
theorem dX12_layMends_112 : decode cX12_layMends 112 = .ok (.iinc 5 1, 3) := by decide +kernel
theorem dX12_layMends_115 : decode cX12_layMends 115 = .ok (.goto (-37), 3) := by decide +kernel
theorem dX12_layMends_118 : decode cX12_layMends 118 = .ok (.iinc 4 1, 3) := by decide +kernel
theorem dX12_layMends_121 : decode cX12_layMends 121 = .ok (.goto (-55), 3) := by decide +kernel
theorem dX12_layMends_124 : decode cX12_layMends 124 = .ok (.iinc 3 1, 3) := by decide +kernel
theorem dX12_layMends_127 : decode cX12_layMends 127 = .ok (.goto (-72), 3) := by decide +kernel
theorem dX12_layMends_130 : decode cX12_layMends 130 = .ok (.iinc 2 1, 3) := by decide +kernel
theorem dX12_layMends_133 : decode cX12_layMends 133 = .ok (.goto (-86), 3) := by decide +kernel
theorem dX12_layMends_136 : decode cX12_layMends 136 = .ok (.goto (-97), 3) := by decide +kernel
theorem dX12_layMends_139 : decode cX12_layMends 139 = .ok (.return_, 1) := by decide +kernel
theorem dX12_take_0 : decode cX12_take 0 = .ok (.aload_n 0, 1) := by decide +kernel
theorem dX12_take_1 : decode cX12_take 1 = .ok (.iload_n 1, 1) := by decide +kernel
theorem dX12_take_2 : decode cX12_take 2 = .ok (.ifCond .ge 10, 3) := by decide +kernel
theorem dX12_take_5 : decode cX12_take 5 = .ok (.aload_n 0, 1) := by decide +kernel
theorem dX12_take_6 : decode cX12_take 6 = .ok (.getfield 140, 3) := by decide +kernel
theorem dX12_take_9 : decode cX12_take 9 = .ok (.goto 9, 3) := by decide +kernel
theorem dX12_take_12 : decode cX12_take 12 = .ok (.aload_n 0, 1) := by decide +kernel
theorem dX12_take_13 : decode cX12_take 13 = .ok (.getfield 25, 3) := by decide +kernel
theorem dX12_take_16 : decode cX12_take 16 = .ok (.iload_n 1, 1) := by decide +kernel
theorem dX12_take_17 : decode cX12_take 17 = .ok (.iaload, 1) := by decide +kernel
theorem dX12_take_18 : decode cX12_take 18 = .ok (.putfield 133, 3) := by decide +kernel
theorem dX12_take_21 : decode cX12_take 21 = .ok (.iconst 0, 1) := by decide +kernel
theorem dX12_take_22 : decode cX12_take 22 = .ok (.istore_n 2, 1) := by decide +kernel
theorem dX12_take_23 : decode cX12_take 23 = .ok (.iload_n 2, 1) := by decide +kernel
theorem dX12_take_24 : decode cX12_take 24 = .ok (.aload_n 0, 1) := by decide +kernel
theorem dX12_take_25 : decode cX12_take 25 = .ok (.getfield 133, 3) := by decide +kernel
theorem dX12_take_28 : decode cX12_take 28 = .ok (.if_icmp .ge 39, 3) := by decide +kernel
theorem dX12_take_31 : decode cX12_take 31 = .ok (.aload_n 0, 1) := by decide +kernel
theorem dX12_take_32 : decode cX12_take 32 = .ok (.getfield 34, 3) := by decide +kernel
theorem dX12_take_35 : decode cX12_take 35 = .ok (.iload_n 2, 1) := by decide +kernel
theorem dX12_take_36 : decode cX12_take 36 = .ok (.iload_n 1, 1) := by decide +kernel
theorem dX12_take_37 : decode cX12_take 37 = .ok (.ifCond .ge 12, 3) := by decide +kernel
theorem dX12_take_40 : decode cX12_take 40 = .ok (.aload_n 0, 1) := by decide +kernel
theorem dX12_take_41 : decode cX12_take 41 = .ok (.getfield 22, 3) := by decide +kernel
theorem dX12_take_44 : decode cX12_take 44 = .ok (.iload_n 2, 1) := by decide +kernel
theorem dX12_take_45 : decode cX12_take 45 = .ok (.iaload, 1) := by decide +kernel
theorem dX12_take_46 : decode cX12_take 46 = .ok (.goto 14, 3) := by decide +kernel
theorem dX12_take_49 : decode cX12_take 49 = .ok (.aload_n 0, 1) := by decide +kernel
theorem dX12_take_50 : decode cX12_take 50 = .ok (.getfield 28, 3) := by decide +kernel
theorem dX12_take_53 : decode cX12_take 53 = .ok (.bipush 6, 2) := by decide +kernel
theorem dX12_take_55 : decode cX12_take 55 = .ok (.iload_n 1, 1) := by decide +kernel
theorem dX12_take_56 : decode cX12_take 56 = .ok (.imul, 1) := by decide +kernel
theorem dX12_take_57 : decode cX12_take 57 = .ok (.iload_n 2, 1) := by decide +kernel
theorem dX12_take_58 : decode cX12_take 58 = .ok (.iadd, 1) := by decide +kernel
theorem dX12_take_59 : decode cX12_take 59 = .ok (.iaload, 1) := by decide +kernel
theorem dX12_take_60 : decode cX12_take 60 = .ok (.iastore, 1) := by decide +kernel
theorem dX12_take_61 : decode cX12_take 61 = .ok (.iinc 2 1, 3) := by decide +kernel
theorem dX12_take_64 : decode cX12_take 64 = .ok (.goto (-41), 3) := by decide +kernel
theorem dX12_take_67 : decode cX12_take 67 = .ok (.return_, 1) := by decide +kernel
set_option maxRecDepth 20000 in
theorem ggX12_least_X12_isName : GoodIn wsX12_least wsX12_isName := goodIn_r _ [9, 10, 11, 8, 12] (by decide +kernel) (by decide +kernel)
set_option maxRecDepth 20000 in
theorem gX12_least_X12_isName : GoodIn wsX12_least (va_wsS RX12 111 yX12_isName wsX12_isName) := goodIn_app (goodIn_of _ (by decide +kernel)) ggX12_least_X12_isName
set_option maxRecDepth 20000 in
theorem ggX12_least_X12_layMends : GoodIn wsX12_least wsX12_layMends := goodIn_r _ [16, 3, 4, 2, 5, 1, 17, 18, 19, 20, 8, 21, 22, 23, 24, 25, 26, 27, 28, 29, 30, 31, 32, 33, 34, 35, 36, 37, 38, 39, 40, 41, 42, 43, 44, 45, 46, 47, 48, 49, 50, 51, 52, 53, 54, 55, 56, 57, 58, 59, 60, 61, 62, 63, 64, 65, 66, 67, 68, 69, 70, 71, 72, 73, 74] (by decide +kernel) (by decide +kernel)
set_option maxRecDepth 20000 in
theorem gX12_least_X12_layMends : GoodIn wsX12_least (wsV RX12 143 RX12 yX12_layMends wsX12_layMends) := goodIn_app (goodIn_of _ (by decide +kernel)) ggX12_least_X12_layMends
set_option maxRecDepth 20000 in
theorem ggX12_least_X12_in : GoodIn wsX12_least wsX12_in := goodIn_r _ [12] (by decide +kernel) (by decide +kernel)
set_option maxRecDepth 20000 in
theorem gX12_least_X12_in : GoodIn wsX12_least (va_wsS RX12 93 yX12_in wsX12_in) := goodIn_app (goodIn_of _ (by decide +kernel)) ggX12_least_X12_in
theorem dX12_least_0 : decode cX12_least 0 = .ok (.iload_n 1, 1) := by decide +kernel
theorem dX12_least_1 : decode cX12_least 1 = .ok (.invokestatic 111, 3) := by decide +kernel
theorem dX12_least_4 : decode cX12_least 4 = .ok (.ifCond .ne 5, 3) := by decide +kernel
theorem dX12_least_7 : decode cX12_least 7 = .ok (.iconst (-1), 1) := by decide +kernel
theorem dX12_least_8 : decode cX12_least 8 = .ok (.ireturn, 1) := by decide +kernel
theorem dX12_least_9 : decode cX12_least 9 = .ok (.aload_n 0, 1) := by decide +kernel
theorem dX12_least_10 : decode cX12_least 10 = .ok (.iconst 0, 1) := by decide +kernel
theorem dX12_least_11 : decode cX12_least 11 = .ok (.putfield 133, 3) := by decide +kernel
theorem dX12_least_14 : decode cX12_least 14 = .ok (.aload_n 0, 1) := by decide +kernel
theorem dX12_least_15 : decode cX12_least 15 = .ok (.invokevirtual 143, 3) := by decide +kernel
theorem dX12_least_18 : decode cX12_least 18 = .ok (.aload_n 0, 1) := by decide +kernel
theorem dX12_least_19 : decode cX12_least 19 = .ok (.getfield 40, 3) := by decide +kernel
theorem dX12_least_22 : decode cX12_least 22 = .ok (.bipush 49, 2) := by decide +kernel
theorem dX12_least_24 : decode cX12_least 24 = .ok (.iload_n 1, 1) := by decide +kernel
theorem dX12_least_25 : decode cX12_least 25 = .ok (.imul, 1) := by decide +kernel
theorem dX12_least_26 : decode cX12_least 26 = .ok (.iaload, 1) := by decide +kernel
theorem dX12_least_27 : decode cX12_least 27 = .ok (.istore_n 3, 1) := by decide +kernel
theorem dX12_least_28 : decode cX12_least 28 = .ok (.aload_n 0, 1) := by decide +kernel
theorem dX12_least_29 : decode cX12_least 29 = .ok (.getfield 37, 3) := by decide +kernel
theorem dX12_least_32 : decode cX12_least 32 = .ok (.bipush 49, 2) := by decide +kernel
theorem dX12_least_34 : decode cX12_least 34 = .ok (.iload_n 1, 1) := by decide +kernel
theorem dX12_least_35 : decode cX12_least 35 = .ok (.imul, 1) := by decide +kernel
theorem dX12_least_36 : decode cX12_least 36 = .ok (.iaload, 1) := by decide +kernel
theorem dX12_least_37 : decode cX12_least 37 = .ok (.ldc 124, 2) := by decide +kernel
theorem dX12_least_39 : decode cX12_least 39 = .ok (.if_icmp .ge 9, 3) := by decide +kernel
theorem dX12_least_42 : decode cX12_least 42 = .ok (.iload_n 3, 1) := by decide +kernel
theorem dX12_least_43 : decode cX12_least 43 = .ok (.bipush 12, 2) := by decide +kernel
theorem dX12_least_45 : decode cX12_least 45 = .ok (.if_icmp .le 6, 3) := by decide +kernel
theorem dX12_least_48 : decode cX12_least 48 = .ok (.bipush (-6), 2) := by decide +kernel
theorem dX12_least_50 : decode cX12_least 50 = .ok (.ireturn, 1) := by decide +kernel
theorem dX12_least_51 : decode cX12_least 51 = .ok (.iload_n 2, 1) := by decide +kernel
theorem dX12_least_52 : decode cX12_least 52 = .ok (.iconst (-1), 1) := by decide +kernel
theorem dX12_least_53 : decode cX12_least 53 = .ok (.if_icmp .ne 7, 3) := by decide +kernel
theorem dX12_least_56 : decode cX12_least 56 = .ok (.iload_n 3, 1) := by decide +kernel
theorem dX12_least_57 : decode cX12_least 57 = .ok (.goto 38, 3) := by decide +kernel
theorem dX12_least_60 : decode cX12_least 60 = .ok (.iload_n 2, 1) := by decide +kernel
theorem dX12_least_61 : decode cX12_least 61 = .ok (.iconst 0, 1) := by decide +kernel
theorem dX12_least_62 : decode cX12_least 62 = .ok (.iload_n 3, 1) := by decide +kernel
theorem dX12_least_63 : decode cX12_least 63 = .ok (.iconst 1, 1) := by decide +kernel
theorem dX12_least_64 : decode cX12_least 64 = .ok (.isub, 1) := by decide +kernel
theorem dX12_least_65 : decode cX12_least 65 = .ok (.invokestatic 93, 3) := by decide +kernel
theorem dX12_least_68 : decode cX12_least 68 = .ok (.ifCond .eq 25, 3) := by decide +kernel
theorem dX12_least_71 : decode cX12_least 71 = .ok (.aload_n 0, 1) := by decide +kernel
theorem dX12_least_72 : decode cX12_least 72 = .ok (.getfield 43, 3) := by decide +kernel
theorem dX12_least_75 : decode cX12_least 75 = .ok (.bipush 49, 2) := by decide +kernel
theorem dX12_least_77 : decode cX12_least 77 = .ok (.iload_n 1, 1) := by decide +kernel
theorem dX12_least_78 : decode cX12_least 78 = .ok (.imul, 1) := by decide +kernel
theorem dX12_least_79 : decode cX12_least 79 = .ok (.iaload, 1) := by decide +kernel
theorem dX12_least_80 : decode cX12_least 80 = .ok (.iconst 2, 1) := by decide +kernel
theorem dX12_least_81 : decode cX12_least 81 = .ok (.iload_n 3, 1) := by decide +kernel
theorem dX12_least_82 : decode cX12_least 82 = .ok (.iconst 1, 1) := by decide +kernel
theorem dX12_least_83 : decode cX12_least 83 = .ok (.isub, 1) := by decide +kernel
theorem dX12_least_84 : decode cX12_least 84 = .ok (.iload_n 2, 1) := by decide +kernel
theorem dX12_least_85 : decode cX12_least 85 = .ok (.isub, 1) := by decide +kernel
theorem dX12_least_86 : decode cX12_least 86 = .ok (.imul, 1) := by decide +kernel
theorem dX12_least_87 : decode cX12_least 87 = .ok (.ishr, 1) := by decide +kernel
theorem dX12_least_88 : decode cX12_least 88 = .ok (.iconst 3, 1) := by decide +kernel
theorem dX12_least_89 : decode cX12_least 89 = .ok (.iand, 1) := by decide +kernel
theorem dX12_least_90 : decode cX12_least 90 = .ok (.goto 5, 3) := by decide +kernel
theorem dX12_least_93 : decode cX12_least 93 = .ok (.bipush (-6), 2) := by decide +kernel
theorem dX12_least_95 : decode cX12_least 95 = .ok (.ireturn, 1) := by decide +kernel
set_option maxRecDepth 20000 in
theorem ggX12_nothing_X12_layMends : GoodIn wsX12_nothing wsX12_layMends := goodIn_r _ [8, 2, 3, 9, 10, 1, 11, 12, 13, 14, 7, 15, 16, 17, 18, 19, 20, 21, 22, 23, 24, 25, 26, 27, 28, 29, 30, 31, 32, 33, 34, 35, 36, 37, 38, 39, 40, 41, 42, 43, 44, 45, 46, 47, 48, 49, 50, 51, 52, 53, 54, 55, 56, 57, 58, 59, 60, 61, 62, 63, 64, 65, 66, 67, 68] (by decide +kernel) (by decide +kernel)
set_option maxRecDepth 20000 in
theorem gX12_nothing_X12_layMends : GoodIn wsX12_nothing (wsV RX12 143 RX12 yX12_layMends wsX12_layMends) := goodIn_app (goodIn_of _ (by decide +kernel)) ggX12_nothing_X12_layMends
theorem dX12_nothing_0 : decode cX12_nothing 0 = .ok (.aload_n 0, 1) := by decide +kernel
theorem dX12_nothing_1 : decode cX12_nothing 1 = .ok (.iconst 0, 1) := by decide +kernel
theorem dX12_nothing_2 : decode cX12_nothing 2 = .ok (.putfield 133, 3) := by decide +kernel
theorem dX12_nothing_5 : decode cX12_nothing 5 = .ok (.aload_n 0, 1) := by decide +kernel
theorem dX12_nothing_6 : decode cX12_nothing 6 = .ok (.invokevirtual 143, 3) := by decide +kernel
theorem dX12_nothing_9 : decode cX12_nothing 9 = .ok (.iconst 0, 1) := by decide +kernel
theorem dX12_nothing_10 : decode cX12_nothing 10 = .ok (.istore_n 1, 1) := by decide +kernel
theorem dX12_nothing_11 : decode cX12_nothing 11 = .ok (.iconst 0, 1) := by decide +kernel
theorem dX12_nothing_12 : decode cX12_nothing 12 = .ok (.istore_n 2, 1) := by decide +kernel
theorem dX12_nothing_13 : decode cX12_nothing 13 = .ok (.iload_n 2, 1) := by decide +kernel
theorem dX12_nothing_14 : decode cX12_nothing 14 = .ok (.bipush 6, 2) := by decide +kernel
theorem dX12_nothing_16 : decode cX12_nothing 16 = .ok (.if_icmp .ge 33, 3) := by decide +kernel
theorem dX12_nothing_19 : decode cX12_nothing 19 = .ok (.iload_n 1, 1) := by decide +kernel
theorem dX12_nothing_20 : decode cX12_nothing 20 = .ok (.aload_n 0, 1) := by decide +kernel
theorem dX12_nothing_21 : decode cX12_nothing 21 = .ok (.getfield 37, 3) := by decide +kernel
theorem dX12_nothing_24 : decode cX12_nothing 24 = .ok (.bipush 49, 2) := by decide +kernel
theorem dX12_nothing_26 : decode cX12_nothing 26 = .ok (.iload_n 2, 1) := by decide +kernel
theorem dX12_nothing_27 : decode cX12_nothing 27 = .ok (.imul, 1) := by decide +kernel
theorem dX12_nothing_28 : decode cX12_nothing 28 = .ok (.iaload, 1) := by decide +kernel
theorem dX12_nothing_29 : decode cX12_nothing 29 = .ok (.ldc 124, 2) := by decide +kernel
theorem dX12_nothing_31 : decode cX12_nothing 31 = .ok (.if_icmp .lt 9, 3) := by decide +kernel
theorem dX12_nothing_34 : decode cX12_nothing 34 = .ok (.iconst 1, 1) := by decide +kernel
theorem dX12_nothing_35 : decode cX12_nothing 35 = .ok (.iload_n 2, 1) := by decide +kernel
theorem dX12_nothing_36 : decode cX12_nothing 36 = .ok (.ishl, 1) := by decide +kernel
theorem dX12_nothing_37 : decode cX12_nothing 37 = .ok (.goto 4, 3) := by decide +kernel
theorem dX12_nothing_40 : decode cX12_nothing 40 = .ok (.iconst 0, 1) := by decide +kernel
theorem dX12_nothing_41 : decode cX12_nothing 41 = .ok (.ior, 1) := by decide +kernel
theorem dX12_nothing_42 : decode cX12_nothing 42 = .ok (.istore_n 1, 1) := by decide +kernel
theorem dX12_nothing_43 : decode cX12_nothing 43 = .ok (.iinc 2 1, 3) := by decide +kernel
theorem dX12_nothing_46 : decode cX12_nothing 46 = .ok (.goto (-33), 3) := by decide +kernel
theorem dX12_nothing_49 : decode cX12_nothing 49 = .ok (.iload_n 1, 1) := by decide +kernel
theorem dX12_nothing_50 : decode cX12_nothing 50 = .ok (.ireturn, 1) := by decide +kernel
set_option maxRecDepth 20000 in
theorem ggX12_word_X12_in : GoodIn wsX12_word wsX12_in := goodIn_r _ [8] (by decide +kernel) (by decide +kernel)
set_option maxRecDepth 20000 in
theorem gX12_word_X12_in : GoodIn wsX12_word (va_wsS RX12 93 yX12_in wsX12_in) := goodIn_app (goodIn_of _ (by decide +kernel)) ggX12_word_X12_in
theorem dX12_word_0 : decode cX12_word 0 = .ok (.aload_n 0, 1) := by decide +kernel
theorem dX12_word_1 : decode cX12_word 1 = .ok (.getfield 97, 3) := by decide +kernel
theorem dX12_word_4 : decode cX12_word 4 = .ok (.bipush 6, 2) := by decide +kernel
theorem dX12_word_6 : decode cX12_word 6 = .ok (.if_icmp .gt 7, 3) := by decide +kernel
theorem dX12_word_9 : decode cX12_word 9 = .ok (.iconst 1, 1) := by decide +kernel
theorem dX12_word_10 : decode cX12_word 10 = .ok (.goto 4, 3) := by decide +kernel
theorem dX12_word_13 : decode cX12_word 13 = .ok (.iconst 0, 1) := by decide +kernel
theorem dX12_word_14 : decode cX12_word 14 = .ok (.istore_n 1, 1) := by decide +kernel
theorem dX12_word_15 : decode cX12_word 15 = .ok (.iconst 0, 1) := by decide +kernel
theorem dX12_word_16 : decode cX12_word 16 = .ok (.istore_n 2, 1) := by decide +kernel
theorem dX12_word_17 : decode cX12_word 17 = .ok (.iload_n 2, 1) := by decide +kernel
theorem dX12_word_18 : decode cX12_word 18 = .ok (.aload_n 0, 1) := by decide +kernel
theorem dX12_word_19 : decode cX12_word 19 = .ok (.getfield 97, 3) := by decide +kernel
theorem dX12_word_22 : decode cX12_word 22 = .ok (.if_icmp .ge 35, 3) := by decide +kernel
theorem dX12_word_25 : decode cX12_word 25 = .ok (.iload_n 1, 1) := by decide +kernel
theorem dX12_word_26 : decode cX12_word 26 = .ok (.ifCond .eq 23, 3) := by decide +kernel
theorem dX12_word_29 : decode cX12_word 29 = .ok (.aload_n 0, 1) := by decide +kernel
theorem dX12_word_30 : decode cX12_word 30 = .ok (.getfield 7, 3) := by decide +kernel
theorem dX12_word_33 : decode cX12_word 33 = .ok (.iload_n 2, 1) := by decide +kernel
theorem dX12_word_34 : decode cX12_word 34 = .ok (.iaload, 1) := by decide +kernel
theorem dX12_word_35 : decode cX12_word 35 = .ok (.bipush 97, 2) := by decide +kernel
theorem dX12_word_37 : decode cX12_word 37 = .ok (.bipush 100, 2) := by decide +kernel
theorem dX12_word_39 : decode cX12_word 39 = .ok (.invokestatic 93, 3) := by decide +kernel
theorem dX12_word_42 : decode cX12_word 42 = .ok (.ifCond .eq 7, 3) := by decide +kernel
theorem dX12_word_45 : decode cX12_word 45 = .ok (.iconst 1, 1) := by decide +kernel
theorem dX12_word_46 : decode cX12_word 46 = .ok (.goto 4, 3) := by decide +kernel
theorem dX12_word_49 : decode cX12_word 49 = .ok (.iconst 0, 1) := by decide +kernel
theorem dX12_word_50 : decode cX12_word 50 = .ok (.istore_n 1, 1) := by decide +kernel
theorem dX12_word_51 : decode cX12_word 51 = .ok (.iinc 2 1, 3) := by decide +kernel
theorem dX12_word_54 : decode cX12_word 54 = .ok (.goto (-37), 3) := by decide +kernel
theorem dX12_word_57 : decode cX12_word 57 = .ok (.iload_n 1, 1) := by decide +kernel
theorem dX12_word_58 : decode cX12_word 58 = .ok (.ifCond .ne 6, 3) := by decide +kernel
theorem dX12_word_61 : decode cX12_word 61 = .ok (.bipush (-5), 2) := by decide +kernel
theorem dX12_word_63 : decode cX12_word 63 = .ok (.ireturn, 1) := by decide +kernel
theorem dX12_word_64 : decode cX12_word 64 = .ok (.aload_n 0, 1) := by decide +kernel
theorem dX12_word_65 : decode cX12_word 65 = .ok (.aload_n 0, 1) := by decide +kernel
theorem dX12_word_66 : decode cX12_word 66 = .ok (.getfield 97, 3) := by decide +kernel
theorem dX12_word_69 : decode cX12_word 69 = .ok (.putfield 140, 3) := by decide +kernel
theorem dX12_word_72 : decode cX12_word 72 = .ok (.iconst 0, 1) := by decide +kernel
theorem dX12_word_73 : decode cX12_word 73 = .ok (.istore_n 2, 1) := by decide +kernel
theorem dX12_word_74 : decode cX12_word 74 = .ok (.iload_n 2, 1) := by decide +kernel
theorem dX12_word_75 : decode cX12_word 75 = .ok (.aload_n 0, 1) := by decide +kernel
theorem dX12_word_76 : decode cX12_word 76 = .ok (.getfield 97, 3) := by decide +kernel
theorem dX12_word_79 : decode cX12_word 79 = .ok (.if_icmp .ge 24, 3) := by decide +kernel
theorem dX12_word_82 : decode cX12_word 82 = .ok (.aload_n 0, 1) := by decide +kernel
theorem dX12_word_83 : decode cX12_word 83 = .ok (.getfield 22, 3) := by decide +kernel
theorem dX12_word_86 : decode cX12_word 86 = .ok (.iload_n 2, 1) := by decide +kernel
theorem dX12_word_87 : decode cX12_word 87 = .ok (.aload_n 0, 1) := by decide +kernel
theorem dX12_word_88 : decode cX12_word 88 = .ok (.getfield 7, 3) := by decide +kernel
theorem dX12_word_91 : decode cX12_word 91 = .ok (.iload_n 2, 1) := by decide +kernel
theorem dX12_word_92 : decode cX12_word 92 = .ok (.iaload, 1) := by decide +kernel
theorem dX12_word_93 : decode cX12_word 93 = .ok (.bipush 97, 2) := by decide +kernel
theorem dX12_word_95 : decode cX12_word 95 = .ok (.isub, 1) := by decide +kernel
theorem dX12_word_96 : decode cX12_word 96 = .ok (.iastore, 1) := by decide +kernel
theorem dX12_word_97 : decode cX12_word 97 = .ok (.iinc 2 1, 3) := by decide +kernel
theorem dX12_word_100 : decode cX12_word 100 = .ok (.goto (-26), 3) := by decide +kernel
theorem dX12_word_103 : decode cX12_word 103 = .ok (.aload_n 0, 1) := by decide +kernel
theorem dX12_word_104 : decode cX12_word 104 = .ok (.iconst 0, 1) := by decide +kernel
theorem dX12_word_105 : decode cX12_word 105 = .ok (.putfield 97, 3) := by decide +kernel
theorem dX12_word_108 : decode cX12_word 108 = .ok (.aload_n 0, 1) := by decide +kernel
theorem dX12_word_109 : decode cX12_word 109 = .ok (.getfield 140, 3) := by decide +kernel
theorem dX12_word_112 : decode cX12_word 112 = .ok (.ireturn, 1) := by decide +kernel
set_option maxRecDepth 20000 in
theorem ggX12_is_X12_isName : GoodIn wsX12_is wsX12_isName := goodIn_r _ [6, 7, 8, 5, 9] (by decide +kernel) (by decide +kernel)
set_option maxRecDepth 20000 in
theorem gX12_is_X12_isName : GoodIn wsX12_is (va_wsS RX12 111 yX12_isName wsX12_isName) := goodIn_app (goodIn_of _ (by decide +kernel)) ggX12_is_X12_isName
set_option maxRecDepth 20000 in
theorem ggX12_is_X12_take : GoodIn wsX12_is wsX12_take := goodIn_r _ [13, 2, 14, 15, 16, 17, 18, 47, 48, 49, 50, 51, 52, 53, 54, 55, 56, 57, 58, 59, 60, 61, 62, 63, 64, 65, 66, 67, 68, 69, 70, 71, 72, 73, 74, 75, 76, 77, 78, 79, 80, 81, 82] (by decide +kernel) (by decide +kernel)
set_option maxRecDepth 20000 in
theorem gX12_is_X12_take : GoodIn wsX12_is (wsV RX12 146 RX12 yX12_take wsX12_take) := goodIn_app (goodIn_of _ (by decide +kernel)) ggX12_is_X12_take
set_option maxRecDepth 20000 in
theorem ggX12_is_X12_layMends : GoodIn wsX12_is wsX12_layMends := goodIn_r _ [22, 1, 23, 24, 25, 15, 26, 27, 28, 29, 5, 30, 31, 32, 33, 34, 35, 36, 37, 38, 39, 40, 41, 42, 43, 16, 44, 45, 46, 47, 48, 49, 50, 51, 52, 53, 54, 55, 56, 57, 58, 59, 60, 61, 62, 63, 64, 65, 66, 67, 68, 69, 70, 71, 72, 73, 74, 75, 76, 77, 78, 79, 80, 81, 82] (by decide +kernel) (by decide +kernel)
set_option maxRecDepth 20000 in
theorem gX12_is_X12_layMends : GoodIn wsX12_is (wsV RX12 143 RX12 yX12_layMends wsX12_layMends) := goodIn_app (goodIn_of _ (by decide +kernel)) ggX12_is_X12_layMends
theorem dX12_is_0 : decode cX12_is 0 = .ok (.iload_n 1, 1) := by decide +kernel
theorem dX12_is_1 : decode cX12_is 1 = .ok (.invokestatic 111, 3) := by decide +kernel
theorem dX12_is_4 : decode cX12_is 4 = .ok (.ifCond .ne 5, 3) := by decide +kernel
theorem dX12_is_7 : decode cX12_is 7 = .ok (.iconst (-1), 1) := by decide +kernel
theorem dX12_is_8 : decode cX12_is 8 = .ok (.ireturn, 1) := by decide +kernel
theorem dX12_is_9 : decode cX12_is 9 = .ok (.aload_n 0, 1) := by decide +kernel
theorem dX12_is_10 : decode cX12_is 10 = .ok (.bipush (-6), 2) := by decide +kernel
theorem dX12_is_12 : decode cX12_is 12 = .ok (.invokevirtual 146, 3) := by decide +kernel
theorem dX12_is_15 : decode cX12_is 15 = .ok (.aload_n 0, 1) := by decide +kernel
theorem dX12_is_16 : decode cX12_is 16 = .ok (.invokevirtual 143, 3) := by decide +kernel
theorem dX12_is_19 : decode cX12_is 19 = .ok (.aload_n 0, 1) := by decide +kernel
theorem dX12_is_20 : decode cX12_is 20 = .ok (.getfield 37, 3) := by decide +kernel
theorem dX12_is_23 : decode cX12_is 23 = .ok (.bipush 49, 2) := by decide +kernel
theorem dX12_is_25 : decode cX12_is 25 = .ok (.iload_n 1, 1) := by decide +kernel
theorem dX12_is_26 : decode cX12_is 26 = .ok (.imul, 1) := by decide +kernel
theorem dX12_is_27 : decode cX12_is 27 = .ok (.aload_n 0, 1) := by decide +kernel
theorem dX12_is_28 : decode cX12_is 28 = .ok (.getfield 140, 3) := by decide +kernel
theorem dX12_is_31 : decode cX12_is 31 = .ok (.iadd, 1) := by decide +kernel
theorem dX12_is_32 : decode cX12_is 32 = .ok (.iaload, 1) := by decide +kernel
theorem dX12_is_33 : decode cX12_is 33 = .ok (.ifCond .ne 7, 3) := by decide +kernel
theorem dX12_is_36 : decode cX12_is 36 = .ok (.iconst 1, 1) := by decide +kernel
theorem dX12_is_37 : decode cX12_is 37 = .ok (.goto 4, 3) := by decide +kernel
theorem dX12_is_40 : decode cX12_is 40 = .ok (.iconst 0, 1) := by decide +kernel
theorem dX12_is_41 : decode cX12_is 41 = .ok (.ireturn, 1) := by decide +kernel
theorem dX12_comes_0 : decode cX12_comes 0 = .ok (.iload_n 1, 1) := by decide +kernel
theorem dX12_comes_1 : decode cX12_comes 1 = .ok (.bipush 10, 2) := by decide +kernel
theorem dX12_comes_3 : decode cX12_comes 3 = .ok (.if_icmp .lt 20, 3) := by decide +kernel
theorem dX12_comes_6 : decode cX12_comes 6 = .ok (.aload_n 0, 1) := by decide +kernel
theorem dX12_comes_7 : decode cX12_comes 7 = .ok (.getfield 37, 3) := by decide +kernel
theorem dX12_comes_10 : decode cX12_comes 10 = .ok (.bipush 49, 2) := by decide +kernel
theorem dX12_comes_12 : decode cX12_comes 12 = .ok (.iload_n 1, 1) := by decide +kernel
theorem dX12_comes_13 : decode cX12_comes 13 = .ok (.bipush 10, 2) := by decide +kernel
theorem dX12_comes_15 : decode cX12_comes 15 = .ok (.isub, 1) := by decide +kernel
theorem dX12_comes_16 : decode cX12_comes 16 = .ok (.imul, 1) := by decide +kernel
theorem dX12_comes_17 : decode cX12_comes 17 = .ok (.iaload, 1) := by decide +kernel
theorem dX12_comes_18 : decode cX12_comes 18 = .ok (.ldc 124, 2) := by decide +kernel
theorem dX12_comes_20 : decode cX12_comes 20 = .ok (.if_icmp .ge 7, 3) := by decide +kernel
theorem dX12_comes_23 : decode cX12_comes 23 = .ok (.iconst 1, 1) := by decide +kernel
theorem dX12_comes_24 : decode cX12_comes 24 = .ok (.goto 4, 3) := by decide +kernel
theorem dX12_comes_27 : decode cX12_comes 27 = .ok (.iconst 0, 1) := by decide +kernel
theorem dX12_comes_28 : decode cX12_comes 28 = .ok (.ireturn, 1) := by decide +kernel
theorem dX12_makes_0 : decode cX12_makes 0 = .ok (.iload_n 1, 1) := by decide +kernel
theorem dX12_makes_1 : decode cX12_makes 1 = .ok (.bipush 10, 2) := by decide +kernel
theorem dX12_makes_3 : decode cX12_makes 3 = .ok (.if_icmp .lt 33, 3) := by decide +kernel
theorem dX12_makes_6 : decode cX12_makes 6 = .ok (.aload_n 0, 1) := by decide +kernel
theorem dX12_makes_7 : decode cX12_makes 7 = .ok (.getfield 37, 3) := by decide +kernel
theorem dX12_makes_10 : decode cX12_makes 10 = .ok (.bipush 49, 2) := by decide +kernel
theorem dX12_makes_12 : decode cX12_makes 12 = .ok (.iload_n 1, 1) := by decide +kernel
theorem dX12_makes_13 : decode cX12_makes 13 = .ok (.bipush 10, 2) := by decide +kernel
theorem dX12_makes_15 : decode cX12_makes 15 = .ok (.isub, 1) := by decide +kernel
theorem dX12_makes_16 : decode cX12_makes 16 = .ok (.imul, 1) := by decide +kernel
theorem dX12_makes_17 : decode cX12_makes 17 = .ok (.bipush 7, 2) := by decide +kernel
theorem dX12_makes_19 : decode cX12_makes 19 = .ok (.iload_n 2, 1) := by decide +kernel
theorem dX12_makes_20 : decode cX12_makes 20 = .ok (.imul, 1) := by decide +kernel
theorem dX12_makes_21 : decode cX12_makes 21 = .ok (.iadd, 1) := by decide +kernel
theorem dX12_makes_22 : decode cX12_makes 22 = .ok (.iload_n 3, 1) := by decide +kernel
theorem dX12_makes_23 : decode cX12_makes 23 = .ok (.iadd, 1) := by decide +kernel
theorem dX12_makes_24 : decode cX12_makes 24 = .ok (.iaload, 1) := by decide +kernel
theorem dX12_makes_25 : decode cX12_makes 25 = .ok (.ifCond .ne 7, 3) := by decide +kernel
theorem dX12_makes_28 : decode cX12_makes 28 = .ok (.iconst 1, 1) := by decide +kernel
theorem dX12_makes_29 : decode cX12_makes 29 = .ok (.goto 29, 3) := by decide +kernel
theorem dX12_makes_32 : decode cX12_makes 32 = .ok (.iconst 0, 1) := by decide +kernel
theorem dX12_makes_33 : decode cX12_makes 33 = .ok (.goto 25, 3) := by decide +kernel
theorem dX12_makes_36 : decode cX12_makes 36 = .ok (.iload_n 3, 1) := by decide +kernel
theorem dX12_makes_37 : decode cX12_makes 37 = .ok (.iload_n 2, 1) := by decide +kernel
theorem dX12_makes_38 : decode cX12_makes 38 = .ok (.iconst 1, 1) := by decide +kernel
theorem dX12_makes_39 : decode cX12_makes 39 = .ok (.iadd, 1) := by decide +kernel
theorem dX12_makes_40 : decode cX12_makes 40 = .ok (.if_icmp .ne 17, 3) := by decide +kernel
theorem dX12_makes_43 : decode cX12_makes 43 = .ok (.aload_n 0, 1) := by decide +kernel
theorem dX12_makes_44 : decode cX12_makes 44 = .ok (.getfield 34, 3) := by decide +kernel
theorem dX12_makes_47 : decode cX12_makes 47 = .ok (.iload_n 2, 1) := by decide +kernel
theorem dX12_makes_48 : decode cX12_makes 48 = .ok (.iaload, 1) := by decide +kernel
theorem dX12_makes_49 : decode cX12_makes 49 = .ok (.iload_n 1, 1) := by decide +kernel
theorem dX12_makes_50 : decode cX12_makes 50 = .ok (.if_icmp .ne 7, 3) := by decide +kernel
theorem dX12_makes_53 : decode cX12_makes 53 = .ok (.iconst 1, 1) := by decide +kernel
theorem dX12_makes_54 : decode cX12_makes 54 = .ok (.goto 4, 3) := by decide +kernel
theorem dX12_makes_57 : decode cX12_makes 57 = .ok (.iconst 0, 1) := by decide +kernel
theorem dX12_makes_58 : decode cX12_makes 58 = .ok (.ireturn, 1) := by decide +kernel
theorem dX12_beginsOne_0 : decode cX12_beginsOne 0 = .ok (.iload_n 1, 1) := by decide +kernel
theorem dX12_beginsOne_1 : decode cX12_beginsOne 1 = .ok (.bipush 10, 2) := by decide +kernel
theorem dX12_beginsOne_3 : decode cX12_beginsOne 3 = .ok (.if_icmp .lt 25, 3) := by decide +kernel
theorem dX12_beginsOne_6 : decode cX12_beginsOne 6 = .ok (.aload_n 0, 1) := by decide +kernel
theorem dX12_beginsOne_7 : decode cX12_beginsOne 7 = .ok (.getfield 55, 3) := by decide +kernel
theorem dX12_beginsOne_10 : decode cX12_beginsOne 10 = .ok (.bipush 49, 2) := by decide +kernel
theorem dX12_beginsOne_12 : decode cX12_beginsOne 12 = .ok (.iload_n 1, 1) := by decide +kernel
theorem dX12_beginsOne_13 : decode cX12_beginsOne 13 = .ok (.bipush 10, 2) := by decide +kernel
theorem dX12_beginsOne_15 : decode cX12_beginsOne 15 = .ok (.isub, 1) := by decide +kernel
theorem dX12_beginsOne_16 : decode cX12_beginsOne 16 = .ok (.imul, 1) := by decide +kernel
theorem dX12_beginsOne_17 : decode cX12_beginsOne 17 = .ok (.bipush 7, 2) := by decide +kernel
theorem dX12_beginsOne_19 : decode cX12_beginsOne 19 = .ok (.iload_n 2, 1) := by decide +kernel
theorem dX12_beginsOne_20 : decode cX12_beginsOne 20 = .ok (.imul, 1) := by decide +kernel
theorem dX12_beginsOne_21 : decode cX12_beginsOne 21 = .ok (.iadd, 1) := by decide +kernel
theorem dX12_beginsOne_22 : decode cX12_beginsOne 22 = .ok (.iload_n 3, 1) := by decide +kernel
theorem dX12_beginsOne_23 : decode cX12_beginsOne 23 = .ok (.iadd, 1) := by decide +kernel
theorem dX12_beginsOne_24 : decode cX12_beginsOne 24 = .ok (.baload, 1) := by decide +kernel
theorem dX12_beginsOne_25 : decode cX12_beginsOne 25 = .ok (.goto 30, 3) := by decide +kernel
theorem dX12_beginsOne_28 : decode cX12_beginsOne 28 = .ok (.iload_n 3, 1) := by decide +kernel
theorem dX12_beginsOne_29 : decode cX12_beginsOne 29 = .ok (.iload_n 2, 1) := by decide +kernel
theorem dX12_beginsOne_30 : decode cX12_beginsOne 30 = .ok (.if_icmp .eq 20, 3) := by decide +kernel
theorem dX12_beginsOne_33 : decode cX12_beginsOne 33 = .ok (.iload_n 3, 1) := by decide +kernel
theorem dX12_beginsOne_34 : decode cX12_beginsOne 34 = .ok (.iload_n 2, 1) := by decide +kernel
theorem dX12_beginsOne_35 : decode cX12_beginsOne 35 = .ok (.iconst 1, 1) := by decide +kernel
theorem dX12_beginsOne_36 : decode cX12_beginsOne 36 = .ok (.iadd, 1) := by decide +kernel
theorem dX12_beginsOne_37 : decode cX12_beginsOne 37 = .ok (.if_icmp .ne 17, 3) := by decide +kernel
theorem dX12_beginsOne_40 : decode cX12_beginsOne 40 = .ok (.aload_n 0, 1) := by decide +kernel
theorem dX12_beginsOne_41 : decode cX12_beginsOne 41 = .ok (.getfield 34, 3) := by decide +kernel
theorem dX12_beginsOne_44 : decode cX12_beginsOne 44 = .ok (.iload_n 2, 1) := by decide +kernel
theorem dX12_beginsOne_45 : decode cX12_beginsOne 45 = .ok (.iaload, 1) := by decide +kernel
theorem dX12_beginsOne_46 : decode cX12_beginsOne 46 = .ok (.iload_n 1, 1) := by decide +kernel
theorem dX12_beginsOne_47 : decode cX12_beginsOne 47 = .ok (.if_icmp .ne 7, 3) := by decide +kernel
theorem dX12_beginsOne_50 : decode cX12_beginsOne 50 = .ok (.iconst 1, 1) := by decide +kernel
theorem dX12_beginsOne_51 : decode cX12_beginsOne 51 = .ok (.goto 4, 3) := by decide +kernel
theorem dX12_beginsOne_54 : decode cX12_beginsOne 54 = .ok (.iconst 0, 1) := by decide +kernel
theorem dX12_beginsOne_55 : decode cX12_beginsOne 55 = .ok (.ireturn, 1) := by decide +kernel
set_option maxRecDepth 20000 in
theorem ggX12_beginsRule_X12_comes : GoodIn wsX12_beginsRule wsX12_comes := goodIn_r _ [8, 9, 10, 21, 22, 23, 24, 25, 26, 27, 28, 29, 30, 31, 32, 33, 34, 35, 36, 37, 38, 39, 40, 41, 42, 43, 44, 45, 46, 47, 48, 49, 50, 51, 52, 53, 54, 55, 56] (by decide +kernel) (by decide +kernel)
set_option maxRecDepth 20000 in
theorem gX12_beginsRule_X12_comes : GoodIn wsX12_beginsRule (wsV RX12 150 RX12 yX12_comes wsX12_comes) := goodIn_app (goodIn_of _ (by decide +kernel)) ggX12_beginsRule_X12_comes
set_option maxRecDepth 20000 in
theorem ggX12_beginsRule_X12_beginsOne : GoodIn wsX12_beginsRule wsX12_beginsOne := goodIn_r _ [14, 15, 16, 21, 22, 23, 24, 25, 26, 27, 28, 29, 30, 31, 32, 33, 34, 35, 36, 37, 38, 39, 40, 41, 42, 43, 44, 45, 46, 47, 48, 49, 50, 51, 52, 53, 54, 55, 56] (by decide +kernel) (by decide +kernel)
set_option maxRecDepth 20000 in
theorem gX12_beginsRule_X12_beginsOne : GoodIn wsX12_beginsRule (wsV RX12 153 RX12 yX12_beginsOne wsX12_beginsOne) := goodIn_app (goodIn_of _ (by decide +kernel)) ggX12_beginsRule_X12_beginsOne
set_option maxRecDepth 20000 in
theorem ggX12_beginsRule_X12_makes : GoodIn wsX12_beginsRule wsX12_makes := goodIn_r _ [20, 9, 16, 21, 22, 23, 24, 25, 26, 27, 28, 29, 30, 31, 32, 33, 34, 35, 36, 37, 38, 39, 40, 41, 42, 43, 44, 45, 46, 47, 48, 49, 50, 51, 52, 53, 54, 55, 56] (by decide +kernel) (by decide +kernel)
set_option maxRecDepth 20000 in
theorem gX12_beginsRule_X12_makes : GoodIn wsX12_beginsRule (wsV RX12 156 RX12 yX12_makes wsX12_makes) := goodIn_app (goodIn_of _ (by decide +kernel)) ggX12_beginsRule_X12_makes
theorem dX12_beginsRule_0 : decode cX12_beginsRule 0 = .ok (.iconst 5, 1) := by decide +kernel
theorem dX12_beginsRule_1 : decode cX12_beginsRule 1 = .ok (.iload_n 1, 1) := by decide +kernel
theorem dX12_beginsRule_2 : decode cX12_beginsRule 2 = .ok (.imul, 1) := by decide +kernel
theorem dX12_beginsRule_3 : decode cX12_beginsRule 3 = .ok (.iload_n 2, 1) := by decide +kernel
theorem dX12_beginsRule_4 : decode cX12_beginsRule 4 = .ok (.iadd, 1) := by decide +kernel
theorem dX12_beginsRule_5 : decode cX12_beginsRule 5 = .ok (.istore 5, 2) := by decide +kernel
theorem dX12_beginsRule_7 : decode cX12_beginsRule 7 = .ok (.aload_n 0, 1) := by decide +kernel
theorem dX12_beginsRule_8 : decode cX12_beginsRule 8 = .ok (.getfield 16, 3) := by decide +kernel
theorem dX12_beginsRule_11 : decode cX12_beginsRule 11 = .ok (.iload 5, 2) := by decide +kernel
theorem dX12_beginsRule_13 : decode cX12_beginsRule 13 = .ok (.iaload, 1) := by decide +kernel
theorem dX12_beginsRule_14 : decode cX12_beginsRule 14 = .ok (.istore 6, 2) := by decide +kernel
theorem dX12_beginsRule_16 : decode cX12_beginsRule 16 = .ok (.iconst 0, 1) := by decide +kernel
theorem dX12_beginsRule_17 : decode cX12_beginsRule 17 = .ok (.istore 7, 2) := by decide +kernel
theorem dX12_beginsRule_19 : decode cX12_beginsRule 19 = .ok (.iload 7, 2) := by decide +kernel
theorem dX12_beginsRule_21 : decode cX12_beginsRule 21 = .ok (.bipush 35, 2) := by decide +kernel
theorem dX12_beginsRule_23 : decode cX12_beginsRule 23 = .ok (.if_icmp .ge 27, 3) := by decide +kernel
theorem dX12_beginsRule_26 : decode cX12_beginsRule 26 = .ok (.aload_n 0, 1) := by decide +kernel
theorem dX12_beginsRule_27 : decode cX12_beginsRule 27 = .ok (.getfield 59, 3) := by decide +kernel
theorem dX12_beginsRule_30 : decode cX12_beginsRule 30 = .ok (.iload 7, 2) := by decide +kernel
theorem dX12_beginsRule_32 : decode cX12_beginsRule 32 = .ok (.iload 7, 2) := by decide +kernel
theorem dX12_beginsRule_34 : decode cX12_beginsRule 34 = .ok (.iload_n 3, 1) := by decide +kernel
theorem dX12_beginsRule_35 : decode cX12_beginsRule 35 = .ok (.if_icmp .ne 7, 3) := by decide +kernel
theorem dX12_beginsRule_38 : decode cX12_beginsRule 38 = .ok (.iconst 1, 1) := by decide +kernel
theorem dX12_beginsRule_39 : decode cX12_beginsRule 39 = .ok (.goto 4, 3) := by decide +kernel
theorem dX12_beginsRule_42 : decode cX12_beginsRule 42 = .ok (.iconst 0, 1) := by decide +kernel
theorem dX12_beginsRule_43 : decode cX12_beginsRule 43 = .ok (.bastore, 1) := by decide +kernel
theorem dX12_beginsRule_44 : decode cX12_beginsRule 44 = .ok (.iinc 7 1, 3) := by decide +kernel
theorem dX12_beginsRule_47 : decode cX12_beginsRule 47 = .ok (.goto (-28), 3) := by decide +kernel
theorem dX12_beginsRule_50 : decode cX12_beginsRule 50 = .ok (.iconst 0, 1) := by decide +kernel
theorem dX12_beginsRule_51 : decode cX12_beginsRule 51 = .ok (.istore 7, 2) := by decide +kernel
theorem dX12_beginsRule_53 : decode cX12_beginsRule 53 = .ok (.iload 7, 2) := by decide +kernel
theorem dX12_beginsRule_55 : decode cX12_beginsRule 55 = .ok (.iload 6, 2) := by decide +kernel
theorem dX12_beginsRule_57 : decode cX12_beginsRule 57 = .ok (.if_icmp .ge 30, 3) := by decide +kernel
theorem dX12_beginsRule_60 : decode cX12_beginsRule 60 = .ok (.aload_n 0, 1) := by decide +kernel
theorem dX12_beginsRule_61 : decode cX12_beginsRule 61 = .ok (.aload_n 0, 1) := by decide +kernel
theorem dX12_beginsRule_62 : decode cX12_beginsRule 62 = .ok (.getfield 19, 3) := by decide +kernel
theorem dX12_beginsRule_65 : decode cX12_beginsRule 65 = .ok (.iconst 4, 1) := by decide +kernel
theorem dX12_beginsRule_66 : decode cX12_beginsRule 66 = .ok (.iload 5, 2) := by decide +kernel
theorem dX12_beginsRule_68 : decode cX12_beginsRule 68 = .ok (.imul, 1) := by decide +kernel
theorem dX12_beginsRule_69 : decode cX12_beginsRule 69 = .ok (.iload 7, 2) := by decide +kernel
theorem dX12_beginsRule_71 : decode cX12_beginsRule 71 = .ok (.iadd, 1) := by decide +kernel
theorem dX12_beginsRule_72 : decode cX12_beginsRule 72 = .ok (.iaload, 1) := by decide +kernel
theorem dX12_beginsRule_73 : decode cX12_beginsRule 73 = .ok (.invokevirtual 150, 3) := by decide +kernel
theorem dX12_beginsRule_76 : decode cX12_beginsRule 76 = .ok (.ifCond .ne 5, 3) := by decide +kernel
theorem dX12_beginsRule_79 : decode cX12_beginsRule 79 = .ok (.iconst 0, 1) := by decide +kernel
theorem dX12_beginsRule_80 : decode cX12_beginsRule 80 = .ok (.ireturn, 1) := by decide +kernel
theorem dX12_beginsRule_81 : decode cX12_beginsRule 81 = .ok (.iinc 7 1, 3) := by decide +kernel
theorem dX12_beginsRule_84 : decode cX12_beginsRule 84 = .ok (.goto (-31), 3) := by decide +kernel
theorem dX12_beginsRule_87 : decode cX12_beginsRule 87 = .ok (.iconst 0, 1) := by decide +kernel
theorem dX12_beginsRule_88 : decode cX12_beginsRule 88 = .ok (.istore 7, 2) := by decide +kernel
theorem dX12_beginsRule_90 : decode cX12_beginsRule 90 = .ok (.iload 7, 2) := by decide +kernel
theorem dX12_beginsRule_92 : decode cX12_beginsRule 92 = .ok (.iload 6, 2) := by decide +kernel
theorem dX12_beginsRule_94 : decode cX12_beginsRule 94 = .ok (.if_icmp .ge 160, 3) := by decide +kernel
theorem dX12_beginsRule_97 : decode cX12_beginsRule 97 = .ok (.iload_n 3, 1) := by decide +kernel
theorem dX12_beginsRule_98 : decode cX12_beginsRule 98 = .ok (.istore 8, 2) := by decide +kernel
theorem dX12_beginsRule_100 : decode cX12_beginsRule 100 = .ok (.iload 8, 2) := by decide +kernel
theorem dX12_beginsRule_102 : decode cX12_beginsRule 102 = .ok (.iload 4, 2) := by decide +kernel
theorem dX12_beginsRule_104 : decode cX12_beginsRule 104 = .ok (.if_icmp .gt 144, 3) := by decide +kernel
theorem dX12_beginsRule_107 : decode cX12_beginsRule 107 = .ok (.aload_n 0, 1) := by decide +kernel
theorem dX12_beginsRule_108 : decode cX12_beginsRule 108 = .ok (.getfield 59, 3) := by decide +kernel
theorem dX12_beginsRule_111 : decode cX12_beginsRule 111 = .ok (.bipush 7, 2) := by decide +kernel
theorem dX12_beginsRule_113 : decode cX12_beginsRule 113 = .ok (.iload 7, 2) := by decide +kernel
theorem dX12_beginsRule_115 : decode cX12_beginsRule 115 = .ok (.imul, 1) := by decide +kernel
theorem dX12_beginsRule_116 : decode cX12_beginsRule 116 = .ok (.iload 8, 2) := by decide +kernel
theorem dX12_beginsRule_118 : decode cX12_beginsRule 118 = .ok (.iadd, 1) := by decide +kernel
theorem dX12_beginsRule_119 : decode cX12_beginsRule 119 = .ok (.baload, 1) := by decide +kernel
theorem dX12_beginsRule_120 : decode cX12_beginsRule 120 = .ok (.ifCond .eq 28, 3) := by decide +kernel
theorem dX12_beginsRule_123 : decode cX12_beginsRule 123 = .ok (.aload_n 0, 1) := by decide +kernel
theorem dX12_beginsRule_124 : decode cX12_beginsRule 124 = .ok (.aload_n 0, 1) := by decide +kernel
theorem dX12_beginsRule_125 : decode cX12_beginsRule 125 = .ok (.getfield 19, 3) := by decide +kernel
theorem dX12_beginsRule_128 : decode cX12_beginsRule 128 = .ok (.iconst 4, 1) := by decide +kernel
theorem dX12_beginsRule_129 : decode cX12_beginsRule 129 = .ok (.iload 5, 2) := by decide +kernel
theorem dX12_beginsRule_131 : decode cX12_beginsRule 131 = .ok (.imul, 1) := by decide +kernel
theorem dX12_beginsRule_132 : decode cX12_beginsRule 132 = .ok (.iload 7, 2) := by decide +kernel
theorem dX12_beginsRule_134 : decode cX12_beginsRule 134 = .ok (.iadd, 1) := by decide +kernel
theorem dX12_beginsRule_135 : decode cX12_beginsRule 135 = .ok (.iaload, 1) := by decide +kernel
theorem dX12_beginsRule_136 : decode cX12_beginsRule 136 = .ok (.iload 8, 2) := by decide +kernel
theorem dX12_beginsRule_138 : decode cX12_beginsRule 138 = .ok (.iload 4, 2) := by decide +kernel
theorem dX12_beginsRule_140 : decode cX12_beginsRule 140 = .ok (.invokevirtual 153, 3) := by decide +kernel
theorem dX12_beginsRule_143 : decode cX12_beginsRule 143 = .ok (.ifCond .eq 5, 3) := by decide +kernel
theorem dX12_beginsRule_146 : decode cX12_beginsRule 146 = .ok (.iconst 1, 1) := by decide +kernel
theorem dX12_beginsRule_147 : decode cX12_beginsRule 147 = .ok (.ireturn, 1) := by decide +kernel
theorem dX12_beginsRule_148 : decode cX12_beginsRule 148 = .ok (.iload 8, 2) := by decide +kernel
theorem dX12_beginsRule_150 : decode cX12_beginsRule 150 = .ok (.istore 9, 2) := by decide +kernel
theorem dX12_beginsRule_152 : decode cX12_beginsRule 152 = .ok (.iload 9, 2) := by decide +kernel
theorem dX12_beginsRule_154 : decode cX12_beginsRule 154 = .ok (.iload 4, 2) := by decide +kernel
theorem dX12_beginsRule_156 : decode cX12_beginsRule 156 = .ok (.if_icmp .gt 86, 3) := by decide +kernel
theorem dX12_beginsRule_159 : decode cX12_beginsRule 159 = .ok (.aload_n 0, 1) := by decide +kernel
theorem dX12_beginsRule_160 : decode cX12_beginsRule 160 = .ok (.getfield 59, 3) := by decide +kernel
theorem dX12_beginsRule_163 : decode cX12_beginsRule 163 = .ok (.bipush 7, 2) := by decide +kernel
theorem dX12_beginsRule_165 : decode cX12_beginsRule 165 = .ok (.iload 7, 2) := by decide +kernel
theorem dX12_beginsRule_167 : decode cX12_beginsRule 167 = .ok (.imul, 1) := by decide +kernel
theorem dX12_beginsRule_168 : decode cX12_beginsRule 168 = .ok (.iload 8, 2) := by decide +kernel
theorem dX12_beginsRule_170 : decode cX12_beginsRule 170 = .ok (.iadd, 1) := by decide +kernel
theorem dX12_beginsRule_171 : decode cX12_beginsRule 171 = .ok (.baload, 1) := by decide +kernel
theorem dX12_beginsRule_172 : decode cX12_beginsRule 172 = .ok (.ifCond .eq 70, 3) := by decide +kernel
theorem dX12_beginsRule_175 : decode cX12_beginsRule 175 = .ok (.aload_n 0, 1) := by decide +kernel
theorem dX12_beginsRule_176 : decode cX12_beginsRule 176 = .ok (.getfield 59, 3) := by decide +kernel
theorem dX12_beginsRule_179 : decode cX12_beginsRule 179 = .ok (.bipush 7, 2) := by decide +kernel
theorem dX12_beginsRule_181 : decode cX12_beginsRule 181 = .ok (.iload 7, 2) := by decide +kernel
theorem dX12_beginsRule_183 : decode cX12_beginsRule 183 = .ok (.iconst 1, 1) := by decide +kernel
theorem dX12_beginsRule_184 : decode cX12_beginsRule 184 = .ok (.iadd, 1) := by decide +kernel
theorem dX12_beginsRule_185 : decode cX12_beginsRule 185 = .ok (.imul, 1) := by decide +kernel
theorem dX12_beginsRule_186 : decode cX12_beginsRule 186 = .ok (.iload 9, 2) := by decide +kernel
theorem dX12_beginsRule_188 : decode cX12_beginsRule 188 = .ok (.iadd, 1) := by decide +kernel
theorem dX12_beginsRule_189 : decode cX12_beginsRule 189 = .ok (.aload_n 0, 1) := by decide +kernel
theorem dX12_beginsRule_190 : decode cX12_beginsRule 190 = .ok (.getfield 59, 3) := by decide +kernel
theorem dX12_beginsRule_193 : decode cX12_beginsRule 193 = .ok (.bipush 7, 2) := by decide +kernel
theorem dX12_beginsRule_195 : decode cX12_beginsRule 195 = .ok (.iload 7, 2) := by decide +kernel
theorem dX12_beginsRule_197 : decode cX12_beginsRule 197 = .ok (.iconst 1, 1) := by decide +kernel
theorem dX12_beginsRule_198 : decode cX12_beginsRule 198 = .ok (.iadd, 1) := by decide +kernel
theorem dX12_beginsRule_199 : decode cX12_beginsRule 199 = .ok (.imul, 1) := by decide +kernel
theorem dX12_beginsRule_200 : decode cX12_beginsRule 200 = .ok (.iload 9, 2) := by decide +kernel
theorem dX12_beginsRule_202 : decode cX12_beginsRule 202 = .ok (.iadd, 1) := by decide +kernel
theorem dX12_beginsRule_203 : decode cX12_beginsRule 203 = .ok (.baload, 1) := by decide +kernel
theorem dX12_beginsRule_204 : decode cX12_beginsRule 204 = .ok (.ifCond .ne 26, 3) := by decide +kernel
theorem dX12_beginsRule_207 : decode cX12_beginsRule 207 = .ok (.aload_n 0, 1) := by decide +kernel
theorem dX12_beginsRule_208 : decode cX12_beginsRule 208 = .ok (.aload_n 0, 1) := by decide +kernel
theorem dX12_beginsRule_209 : decode cX12_beginsRule 209 = .ok (.getfield 19, 3) := by decide +kernel
theorem dX12_beginsRule_212 : decode cX12_beginsRule 212 = .ok (.iconst 4, 1) := by decide +kernel
theorem dX12_beginsRule_213 : decode cX12_beginsRule 213 = .ok (.iload 5, 2) := by decide +kernel
theorem dX12_beginsRule_215 : decode cX12_beginsRule 215 = .ok (.imul, 1) := by decide +kernel
theorem dX12_beginsRule_216 : decode cX12_beginsRule 216 = .ok (.iload 7, 2) := by decide +kernel
theorem dX12_beginsRule_218 : decode cX12_beginsRule 218 = .ok (.iadd, 1) := by decide +kernel
theorem dX12_beginsRule_219 : decode cX12_beginsRule 219 = .ok (.iaload, 1) := by decide +kernel
theorem dX12_beginsRule_220 : decode cX12_beginsRule 220 = .ok (.iload 8, 2) := by decide +kernel
theorem dX12_beginsRule_222 : decode cX12_beginsRule 222 = .ok (.iload 9, 2) := by decide +kernel
theorem dX12_beginsRule_224 : decode cX12_beginsRule 224 = .ok (.invokevirtual 156, 3) := by decide +kernel
theorem dX12_beginsRule_227 : decode cX12_beginsRule 227 = .ok (.ifCond .eq 7, 3) := by decide +kernel
theorem dX12_beginsRule_230 : decode cX12_beginsRule 230 = .ok (.iconst 1, 1) := by decide +kernel
theorem dX12_beginsRule_231 : decode cX12_beginsRule 231 = .ok (.goto 4, 3) := by decide +kernel
theorem dX12_beginsRule_234 : decode cX12_beginsRule 234 = .ok (.iconst 0, 1) := by decide +kernel
theorem dX12_beginsRule_235 : decode cX12_beginsRule 235 = .ok (.bastore, 1) := by decide +kernel
theorem dX12_beginsRule_236 : decode cX12_beginsRule 236 = .ok (.iinc 9 1, 3) := by decide +kernel
theorem dX12_beginsRule_239 : decode cX12_beginsRule 239 = .ok (.goto (-87), 3) := by decide +kernel
theorem dX12_beginsRule_242 : decode cX12_beginsRule 242 = .ok (.iinc 8 1, 3) := by decide +kernel
theorem dX12_beginsRule_245 : decode cX12_beginsRule 245 = .ok (.goto (-145), 3) := by decide +kernel
theorem dX12_beginsRule_248 : decode cX12_beginsRule 248 = .ok (.iinc 7 1, 3) := by decide +kernel
theorem dX12_beginsRule_251 : decode cX12_beginsRule 251 = .ok (.goto (-161), 3) := by decide +kernel
theorem dX12_beginsRule_254 : decode cX12_beginsRule 254 = .ok (.aload_n 0, 1) := by decide +kernel
theorem dX12_beginsRule_255 : decode cX12_beginsRule 255 = .ok (.getfield 59, 3) := by decide +kernel
theorem dX12_beginsRule_258 : decode cX12_beginsRule 258 = .ok (.bipush 7, 2) := by decide +kernel
theorem dX12_beginsRule_260 : decode cX12_beginsRule 260 = .ok (.iload 6, 2) := by decide +kernel
theorem dX12_beginsRule_262 : decode cX12_beginsRule 262 = .ok (.imul, 1) := by decide +kernel
theorem dX12_beginsRule_263 : decode cX12_beginsRule 263 = .ok (.iload 4, 2) := by decide +kernel
theorem dX12_beginsRule_265 : decode cX12_beginsRule 265 = .ok (.iadd, 1) := by decide +kernel
theorem dX12_beginsRule_266 : decode cX12_beginsRule 266 = .ok (.baload, 1) := by decide +kernel
theorem dX12_beginsRule_267 : decode cX12_beginsRule 267 = .ok (.ireturn, 1) := by decide +kernel
set_option maxRecDepth 20000 in
theorem ggX12_first_X12_isName : GoodIn wsX12_first wsX12_isName := goodIn_r _ [8, 9, 10, 7, 11] (by decide +kernel) (by decide +kernel)
set_option maxRecDepth 20000 in
theorem gX12_first_X12_isName : GoodIn wsX12_first (va_wsS RX12 111 yX12_isName wsX12_isName) := goodIn_app (goodIn_of _ (by decide +kernel)) ggX12_first_X12_isName
set_option maxRecDepth 20000 in
theorem ggX12_first_X12_take : GoodIn wsX12_first wsX12_take := goodIn_r _ [15, 4, 16, 2, 17, 18, 19, 65, 66, 67, 68, 69, 70, 71, 72, 73, 74, 75, 76, 77, 78, 79, 80, 81, 82, 83, 84, 85, 86, 87, 88, 89, 90, 91, 92, 93, 94, 95, 96, 97, 98, 99, 100] (by decide +kernel) (by decide +kernel)
set_option maxRecDepth 20000 in
theorem gX12_first_X12_take : GoodIn wsX12_first (wsV RX12 146 RX12 yX12_take wsX12_take) := goodIn_app (goodIn_of _ (by decide +kernel)) ggX12_first_X12_take
set_option maxRecDepth 20000 in
theorem ggX12_first_X12_layMends : GoodIn wsX12_first wsX12_layMends := goodIn_r _ [23, 24, 25, 26, 27, 2, 3, 28, 29, 30, 7, 31, 32, 33, 34, 35, 36, 37, 38, 39, 40, 41, 42, 43, 44, 17, 45, 46, 47, 65, 66, 67, 68, 69, 70, 71, 72, 73, 74, 75, 76, 77, 78, 79, 80, 81, 82, 83, 84, 85, 86, 87, 88, 89, 90, 91, 92, 93, 94, 95, 96, 97, 98, 99, 100] (by decide +kernel) (by decide +kernel)
set_option maxRecDepth 20000 in
theorem gX12_first_X12_layMends : GoodIn wsX12_first (wsV RX12 143 RX12 yX12_layMends wsX12_layMends) := goodIn_app (goodIn_of _ (by decide +kernel)) ggX12_first_X12_layMends
set_option maxRecDepth 20000 in
theorem ggX12_first_X12_beginsRule : GoodIn wsX12_first wsX12_beginsRule := goodIn_r _ [51, 32, 52, 36, 53, 54, 55, 7, 56, 24, 25, 57, 58, 59, 60, 1, 17, 61, 62, 63, 64, 65, 66, 67, 68, 69, 70, 71, 72, 73, 74, 75, 76, 77, 78, 79, 80, 81, 82, 83, 84, 85, 86, 87, 88, 89, 90, 91, 92, 93, 94, 95, 96, 97, 98, 99, 100] (by decide +kernel) (by decide +kernel)
set_option maxRecDepth 20000 in
theorem gX12_first_X12_beginsRule : GoodIn wsX12_first (wsV RX12 159 RX12 yX12_beginsRule wsX12_beginsRule) := goodIn_app (goodIn_of _ (by decide +kernel)) ggX12_first_X12_beginsRule
theorem dX12_first_0 : decode cX12_first 0 = .ok (.iload_n 1, 1) := by decide +kernel
theorem dX12_first_1 : decode cX12_first 1 = .ok (.invokestatic 111, 3) := by decide +kernel
theorem dX12_first_4 : decode cX12_first 4 = .ok (.ifCond .ne 5, 3) := by decide +kernel
theorem dX12_first_7 : decode cX12_first 7 = .ok (.iconst (-1), 1) := by decide +kernel
theorem dX12_first_8 : decode cX12_first 8 = .ok (.ireturn, 1) := by decide +kernel
theorem dX12_first_9 : decode cX12_first 9 = .ok (.aload_n 0, 1) := by decide +kernel
theorem dX12_first_10 : decode cX12_first 10 = .ok (.bipush (-6), 2) := by decide +kernel
theorem dX12_first_12 : decode cX12_first 12 = .ok (.invokevirtual 146, 3) := by decide +kernel
theorem dX12_first_15 : decode cX12_first 15 = .ok (.aload_n 0, 1) := by decide +kernel
theorem dX12_first_16 : decode cX12_first 16 = .ok (.invokevirtual 143, 3) := by decide +kernel
theorem dX12_first_19 : decode cX12_first 19 = .ok (.iconst 0, 1) := by decide +kernel
theorem dX12_first_20 : decode cX12_first 20 = .ok (.istore_n 2, 1) := by decide +kernel
theorem dX12_first_21 : decode cX12_first 21 = .ok (.iload_n 2, 1) := by decide +kernel
theorem dX12_first_22 : decode cX12_first 22 = .ok (.sipush 294, 3) := by decide +kernel
theorem dX12_first_25 : decode cX12_first 25 = .ok (.if_icmp .ge 16, 3) := by decide +kernel
theorem dX12_first_28 : decode cX12_first 28 = .ok (.aload_n 0, 1) := by decide +kernel
theorem dX12_first_29 : decode cX12_first 29 = .ok (.getfield 55, 3) := by decide +kernel
theorem dX12_first_32 : decode cX12_first 32 = .ok (.iload_n 2, 1) := by decide +kernel
theorem dX12_first_33 : decode cX12_first 33 = .ok (.iconst 0, 1) := by decide +kernel
theorem dX12_first_34 : decode cX12_first 34 = .ok (.bastore, 1) := by decide +kernel
theorem dX12_first_35 : decode cX12_first 35 = .ok (.iinc 2 1, 3) := by decide +kernel
theorem dX12_first_38 : decode cX12_first 38 = .ok (.goto (-17), 3) := by decide +kernel
theorem dX12_first_41 : decode cX12_first 41 = .ok (.iconst 1, 1) := by decide +kernel
theorem dX12_first_42 : decode cX12_first 42 = .ok (.istore_n 2, 1) := by decide +kernel
theorem dX12_first_43 : decode cX12_first 43 = .ok (.iload_n 2, 1) := by decide +kernel
theorem dX12_first_44 : decode cX12_first 44 = .ok (.ifCond .eq 142, 3) := by decide +kernel
theorem dX12_first_47 : decode cX12_first 47 = .ok (.iconst 0, 1) := by decide +kernel
theorem dX12_first_48 : decode cX12_first 48 = .ok (.istore_n 2, 1) := by decide +kernel
theorem dX12_first_49 : decode cX12_first 49 = .ok (.iconst 0, 1) := by decide +kernel
theorem dX12_first_50 : decode cX12_first 50 = .ok (.istore_n 3, 1) := by decide +kernel
theorem dX12_first_51 : decode cX12_first 51 = .ok (.iload_n 3, 1) := by decide +kernel
theorem dX12_first_52 : decode cX12_first 52 = .ok (.bipush 6, 2) := by decide +kernel
theorem dX12_first_54 : decode cX12_first 54 = .ok (.if_icmp .ge 129, 3) := by decide +kernel
theorem dX12_first_57 : decode cX12_first 57 = .ok (.iconst 0, 1) := by decide +kernel
theorem dX12_first_58 : decode cX12_first 58 = .ok (.istore 4, 2) := by decide +kernel
theorem dX12_first_60 : decode cX12_first 60 = .ok (.iload 4, 2) := by decide +kernel
theorem dX12_first_62 : decode cX12_first 62 = .ok (.aload_n 0, 1) := by decide +kernel
theorem dX12_first_63 : decode cX12_first 63 = .ok (.getfield 133, 3) := by decide +kernel
theorem dX12_first_66 : decode cX12_first 66 = .ok (.if_icmp .gt 111, 3) := by decide +kernel
theorem dX12_first_69 : decode cX12_first 69 = .ok (.iload 4, 2) := by decide +kernel
theorem dX12_first_71 : decode cX12_first 71 = .ok (.istore 5, 2) := by decide +kernel
theorem dX12_first_73 : decode cX12_first 73 = .ok (.iload 5, 2) := by decide +kernel
theorem dX12_first_75 : decode cX12_first 75 = .ok (.aload_n 0, 1) := by decide +kernel
theorem dX12_first_76 : decode cX12_first 76 = .ok (.getfield 133, 3) := by decide +kernel
theorem dX12_first_79 : decode cX12_first 79 = .ok (.if_icmp .gt 92, 3) := by decide +kernel
theorem dX12_first_82 : decode cX12_first 82 = .ok (.bipush 49, 2) := by decide +kernel
theorem dX12_first_84 : decode cX12_first 84 = .ok (.iload_n 3, 1) := by decide +kernel
theorem dX12_first_85 : decode cX12_first 85 = .ok (.imul, 1) := by decide +kernel
theorem dX12_first_86 : decode cX12_first 86 = .ok (.bipush 7, 2) := by decide +kernel
theorem dX12_first_88 : decode cX12_first 88 = .ok (.iload 4, 2) := by decide +kernel
theorem dX12_first_90 : decode cX12_first 90 = .ok (.imul, 1) := by decide +kernel
theorem dX12_first_91 : decode cX12_first 91 = .ok (.iadd, 1) := by decide +kernel
theorem dX12_first_92 : decode cX12_first 92 = .ok (.iload 5, 2) := by decide +kernel
theorem dX12_first_94 : decode cX12_first 94 = .ok (.iadd, 1) := by decide +kernel
theorem dX12_first_95 : decode cX12_first 95 = .ok (.istore 6, 2) := by decide +kernel
theorem dX12_first_97 : decode cX12_first 97 = .ok (.iconst 0, 1) := by decide +kernel
theorem dX12_first_98 : decode cX12_first 98 = .ok (.istore 7, 2) := by decide +kernel
theorem dX12_first_100 : decode cX12_first 100 = .ok (.iload 7, 2) := by decide +kernel
theorem dX12_first_102 : decode cX12_first 102 = .ok (.aload_n 0, 1) := by decide +kernel
theorem dX12_first_103 : decode cX12_first 103 = .ok (.getfield 13, 3) := by decide +kernel
theorem dX12_first_106 : decode cX12_first 106 = .ok (.iload_n 3, 1) := by decide +kernel
theorem dX12_first_107 : decode cX12_first 107 = .ok (.iaload, 1) := by decide +kernel
theorem dX12_first_108 : decode cX12_first 108 = .ok (.if_icmp .ge 57, 3) := by decide +kernel
theorem dX12_first_111 : decode cX12_first 111 = .ok (.aload_n 0, 1) := by decide +kernel
theorem dX12_first_112 : decode cX12_first 112 = .ok (.getfield 55, 3) := by decide +kernel
theorem dX12_first_115 : decode cX12_first 115 = .ok (.iload 6, 2) := by decide +kernel
theorem dX12_first_117 : decode cX12_first 117 = .ok (.baload, 1) := by decide +kernel
theorem dX12_first_118 : decode cX12_first 118 = .ok (.ifCond .ne 47, 3) := by decide +kernel
theorem dX12_first_121 : decode cX12_first 121 = .ok (.aload_n 0, 1) := by decide +kernel
theorem dX12_first_122 : decode cX12_first 122 = .ok (.getfield 55, 3) := by decide +kernel
theorem dX12_first_125 : decode cX12_first 125 = .ok (.iload 6, 2) := by decide +kernel
theorem dX12_first_127 : decode cX12_first 127 = .ok (.aload_n 0, 1) := by decide +kernel
theorem dX12_first_128 : decode cX12_first 128 = .ok (.iload_n 3, 1) := by decide +kernel
theorem dX12_first_129 : decode cX12_first 129 = .ok (.iload 7, 2) := by decide +kernel
theorem dX12_first_131 : decode cX12_first 131 = .ok (.iload 4, 2) := by decide +kernel
theorem dX12_first_133 : decode cX12_first 133 = .ok (.iload 5, 2) := by decide +kernel
theorem dX12_first_135 : decode cX12_first 135 = .ok (.invokevirtual 159, 3) := by decide +kernel
theorem dX12_first_138 : decode cX12_first 138 = .ok (.bastore, 1) := by decide +kernel
theorem dX12_first_139 : decode cX12_first 139 = .ok (.iload_n 2, 1) := by decide +kernel
theorem dX12_first_140 : decode cX12_first 140 = .ok (.ifCond .ne 13, 3) := by decide +kernel
theorem dX12_first_143 : decode cX12_first 143 = .ok (.aload_n 0, 1) := by decide +kernel
theorem dX12_first_144 : decode cX12_first 144 = .ok (.getfield 55, 3) := by decide +kernel
theorem dX12_first_147 : decode cX12_first 147 = .ok (.iload 6, 2) := by decide +kernel
theorem dX12_first_149 : decode cX12_first 149 = .ok (.baload, 1) := by decide +kernel
theorem dX12_first_150 : decode cX12_first 150 = .ok (.ifCond .eq 7, 3) := by decide +kernel
theorem dX12_first_153 : decode cX12_first 153 = .ok (.iconst 1, 1) := by decide +kernel
theorem dX12_first_154 : decode cX12_first 154 = .ok (.goto 4, 3) := by decide +kernel
theorem dX12_first_157 : decode cX12_first 157 = .ok (.iconst 0, 1) := by decide +kernel
theorem dX12_first_158 : decode cX12_first 158 = .ok (.istore_n 2, 1) := by decide +kernel
theorem dX12_first_159 : decode cX12_first 159 = .ok (.iinc 7 1, 3) := by decide +kernel
theorem dX12_first_162 : decode cX12_first 162 = .ok (.goto (-62), 3) := by decide +kernel
theorem dX12_first_165 : decode cX12_first 165 = .ok (.iinc 5 1, 3) := by decide +kernel
theorem dX12_first_168 : decode cX12_first 168 = .ok (.goto (-95), 3) := by decide +kernel
theorem dX12_first_171 : decode cX12_first 171 = .ok (.iinc 4 1, 3) := by decide +kernel
theorem dX12_first_174 : decode cX12_first 174 = .ok (.goto (-114), 3) := by decide +kernel
theorem dX12_first_177 : decode cX12_first 177 = .ok (.iinc 3 1, 3) := by decide +kernel
theorem dX12_first_180 : decode cX12_first 180 = .ok (.goto (-129), 3) := by decide +kernel
theorem dX12_first_183 : decode cX12_first 183 = .ok (.goto (-140), 3) := by decide +kernel
theorem dX12_first_186 : decode cX12_first 186 = .ok (.iconst 0, 1) := by decide +kernel
theorem dX12_first_187 : decode cX12_first 187 = .ok (.istore_n 3, 1) := by decide +kernel
theorem dX12_first_188 : decode cX12_first 188 = .ok (.iload_n 3, 1) := by decide +kernel
theorem dX12_first_189 : decode cX12_first 189 = .ok (.aload_n 0, 1) := by decide +kernel
theorem dX12_first_190 : decode cX12_first 190 = .ok (.getfield 140, 3) := by decide +kernel
theorem dX12_first_193 : decode cX12_first 193 = .ok (.if_icmp .gt 25, 3) := by decide +kernel
theorem dX12_first_196 : decode cX12_first 196 = .ok (.aload_n 0, 1) := by decide +kernel
theorem dX12_first_197 : decode cX12_first 197 = .ok (.getfield 55, 3) := by decide +kernel
theorem dX12_first_200 : decode cX12_first 200 = .ok (.bipush 49, 2) := by decide +kernel
theorem dX12_first_202 : decode cX12_first 202 = .ok (.iload_n 1, 1) := by decide +kernel
theorem dX12_first_203 : decode cX12_first 203 = .ok (.imul, 1) := by decide +kernel
theorem dX12_first_204 : decode cX12_first 204 = .ok (.iload_n 3, 1) := by decide +kernel
theorem dX12_first_205 : decode cX12_first 205 = .ok (.iadd, 1) := by decide +kernel
theorem dX12_first_206 : decode cX12_first 206 = .ok (.baload, 1) := by decide +kernel
theorem dX12_first_207 : decode cX12_first 207 = .ok (.ifCond .ne 5, 3) := by decide +kernel
theorem dX12_first_210 : decode cX12_first 210 = .ok (.iload_n 3, 1) := by decide +kernel
theorem dX12_first_211 : decode cX12_first 211 = .ok (.ireturn, 1) := by decide +kernel
theorem dX12_first_212 : decode cX12_first 212 = .ok (.iinc 3 1, 3) := by decide +kernel
theorem dX12_first_215 : decode cX12_first 215 = .ok (.goto (-27), 3) := by decide +kernel
theorem dX12_first_218 : decode cX12_first 218 = .ok (.bipush (-6), 2) := by decide +kernel
theorem dX12_first_220 : decode cX12_first 220 = .ok (.ireturn, 1) := by decide +kernel
set_option maxRecDepth 20000 in
theorem ggX12_cost_X12_in : GoodIn wsX12_cost wsX12_in := goodIn_r _ [5] (by decide +kernel) (by decide +kernel)
set_option maxRecDepth 20000 in
theorem gX12_cost_X12_in : GoodIn wsX12_cost (va_wsS RX12 93 yX12_in wsX12_in) := goodIn_app (goodIn_of _ (by decide +kernel)) ggX12_cost_X12_in
set_option maxRecDepth 20000 in
theorem ggX12_cost_X12_turn : GoodIn wsX12_cost wsX12_turn := goodIn_r _ [9, 10, 11, 12, 13, 14, 15, 16, 17, 18, 19, 20, 21, 22, 23, 24, 25, 26, 27, 28, 29, 30, 31, 32, 33, 34, 35, 36, 37, 38, 39, 40, 41, 42, 43, 44, 45, 46] (by decide +kernel) (by decide +kernel)
set_option maxRecDepth 20000 in
theorem gX12_cost_X12_turn : GoodIn wsX12_cost (wsV RX12 108 RX12 yX12_turn wsX12_turn) := goodIn_app (goodIn_of _ (by decide +kernel)) ggX12_cost_X12_turn
theorem dX12_cost_0 : decode cX12_cost 0 = .ok (.iload_n 1, 1) := by decide +kernel
theorem dX12_cost_1 : decode cX12_cost 1 = .ok (.iconst 0, 1) := by decide +kernel
theorem dX12_cost_2 : decode cX12_cost 2 = .ok (.iconst 2, 1) := by decide +kernel
theorem dX12_cost_3 : decode cX12_cost 3 = .ok (.invokestatic 93, 3) := by decide +kernel
theorem dX12_cost_6 : decode cX12_cost 6 = .ok (.ifCond .eq 13, 3) := by decide +kernel
theorem dX12_cost_9 : decode cX12_cost 9 = .ok (.iload_n 2, 1) := by decide +kernel
theorem dX12_cost_10 : decode cX12_cost 10 = .ok (.iconst 1, 1) := by decide +kernel
theorem dX12_cost_11 : decode cX12_cost 11 = .ok (.bipush 9, 2) := by decide +kernel
theorem dX12_cost_13 : decode cX12_cost 13 = .ok (.invokestatic 93, 3) := by decide +kernel
theorem dX12_cost_16 : decode cX12_cost 16 = .ok (.ifCond .ne 6, 3) := by decide +kernel
theorem dX12_cost_19 : decode cX12_cost 19 = .ok (.bipush (-2), 2) := by decide +kernel
theorem dX12_cost_21 : decode cX12_cost 21 = .ok (.ireturn, 1) := by decide +kernel
theorem dX12_cost_22 : decode cX12_cost 22 = .ok (.aload_n 0, 1) := by decide +kernel
theorem dX12_cost_23 : decode cX12_cost 23 = .ok (.getfield 31, 3) := by decide +kernel
theorem dX12_cost_26 : decode cX12_cost 26 = .ok (.iload_n 1, 1) := by decide +kernel
theorem dX12_cost_27 : decode cX12_cost 27 = .ok (.iaload, 1) := by decide +kernel
theorem dX12_cost_28 : decode cX12_cost 28 = .ok (.istore_n 3, 1) := by decide +kernel
theorem dX12_cost_29 : decode cX12_cost 29 = .ok (.aload_n 0, 1) := by decide +kernel
theorem dX12_cost_30 : decode cX12_cost 30 = .ok (.getfield 31, 3) := by decide +kernel
theorem dX12_cost_33 : decode cX12_cost 33 = .ok (.iload_n 1, 1) := by decide +kernel
theorem dX12_cost_34 : decode cX12_cost 34 = .ok (.iload_n 2, 1) := by decide +kernel
theorem dX12_cost_35 : decode cX12_cost 35 = .ok (.iastore, 1) := by decide +kernel
theorem dX12_cost_36 : decode cX12_cost 36 = .ok (.aload_n 0, 1) := by decide +kernel
theorem dX12_cost_37 : decode cX12_cost 37 = .ok (.invokevirtual 108, 3) := by decide +kernel
theorem dX12_cost_40 : decode cX12_cost 40 = .ok (.iload_n 3, 1) := by decide +kernel
theorem dX12_cost_41 : decode cX12_cost 41 = .ok (.ireturn, 1) := by decide +kernel
set_option maxRecDepth 20000 in
theorem ggX12_mend_X12_isName : GoodIn wsX12_mend wsX12_isName := goodIn_r _ [7, 8, 9, 6, 10] (by decide +kernel) (by decide +kernel)
set_option maxRecDepth 20000 in
theorem gX12_mend_X12_isName : GoodIn wsX12_mend (va_wsS RX12 111 yX12_isName wsX12_isName) := goodIn_app (goodIn_of _ (by decide +kernel)) ggX12_mend_X12_isName
set_option maxRecDepth 20000 in
theorem ggX12_mend_X12_take : GoodIn wsX12_mend wsX12_take := goodIn_r _ [14, 1, 15, 16, 17, 18, 19, 47, 48, 49, 50, 51, 52, 53, 54, 55, 56, 57, 58, 59, 60, 61, 62, 63, 64, 65, 66, 67, 68, 69, 70, 71, 72, 73, 74, 75, 76, 77, 78, 79, 80, 81, 82] (by decide +kernel) (by decide +kernel)
set_option maxRecDepth 20000 in
theorem gX12_mend_X12_take : GoodIn wsX12_mend (wsV RX12 146 RX12 yX12_take wsX12_take) := goodIn_app (goodIn_of _ (by decide +kernel)) ggX12_mend_X12_take
set_option maxRecDepth 20000 in
theorem ggX12_mend_X12_layMends : GoodIn wsX12_mend wsX12_layMends := goodIn_r _ [23, 2, 3, 24, 25, 16, 26, 27, 28, 29, 6, 30, 31, 32, 33, 34, 35, 36, 37, 38, 39, 40, 41, 42, 43, 17, 44, 45, 46, 47, 48, 49, 50, 51, 52, 53, 54, 55, 56, 57, 58, 59, 60, 61, 62, 63, 64, 65, 66, 67, 68, 69, 70, 71, 72, 73, 74, 75, 76, 77, 78, 79, 80, 81, 82] (by decide +kernel) (by decide +kernel)
set_option maxRecDepth 20000 in
theorem gX12_mend_X12_layMends : GoodIn wsX12_mend (wsV RX12 143 RX12 yX12_layMends wsX12_layMends) := goodIn_app (goodIn_of _ (by decide +kernel)) ggX12_mend_X12_layMends
theorem dX12_mend_0 : decode cX12_mend 0 = .ok (.iload_n 1, 1) := by decide +kernel
theorem dX12_mend_1 : decode cX12_mend 1 = .ok (.invokestatic 111, 3) := by decide +kernel
theorem dX12_mend_4 : decode cX12_mend 4 = .ok (.ifCond .ne 5, 3) := by decide +kernel
theorem dX12_mend_7 : decode cX12_mend 7 = .ok (.iconst (-1), 1) := by decide +kernel
theorem dX12_mend_8 : decode cX12_mend 8 = .ok (.ireturn, 1) := by decide +kernel
theorem dX12_mend_9 : decode cX12_mend 9 = .ok (.iload_n 2, 1) := by decide +kernel
theorem dX12_mend_10 : decode cX12_mend 10 = .ok (.ifCond .lt 16, 3) := by decide +kernel
theorem dX12_mend_13 : decode cX12_mend 13 = .ok (.iload_n 2, 1) := by decide +kernel
theorem dX12_mend_14 : decode cX12_mend 14 = .ok (.iload_n 3, 1) := by decide +kernel
theorem dX12_mend_15 : decode cX12_mend 15 = .ok (.if_icmp .gt 11, 3) := by decide +kernel
theorem dX12_mend_18 : decode cX12_mend 18 = .ok (.iload_n 3, 1) := by decide +kernel
theorem dX12_mend_19 : decode cX12_mend 19 = .ok (.aload_n 0, 1) := by decide +kernel
theorem dX12_mend_20 : decode cX12_mend 20 = .ok (.getfield 140, 3) := by decide +kernel
theorem dX12_mend_23 : decode cX12_mend 23 = .ok (.if_icmp .le 6, 3) := by decide +kernel
theorem dX12_mend_26 : decode cX12_mend 26 = .ok (.bipush (-2), 2) := by decide +kernel
theorem dX12_mend_28 : decode cX12_mend 28 = .ok (.ireturn, 1) := by decide +kernel
theorem dX12_mend_29 : decode cX12_mend 29 = .ok (.aload_n 0, 1) := by decide +kernel
theorem dX12_mend_30 : decode cX12_mend 30 = .ok (.bipush (-6), 2) := by decide +kernel
theorem dX12_mend_32 : decode cX12_mend 32 = .ok (.invokevirtual 146, 3) := by decide +kernel
theorem dX12_mend_35 : decode cX12_mend 35 = .ok (.aload_n 0, 1) := by decide +kernel
theorem dX12_mend_36 : decode cX12_mend 36 = .ok (.invokevirtual 143, 3) := by decide +kernel
theorem dX12_mend_39 : decode cX12_mend 39 = .ok (.aload_n 0, 1) := by decide +kernel
theorem dX12_mend_40 : decode cX12_mend 40 = .ok (.getfield 37, 3) := by decide +kernel
theorem dX12_mend_43 : decode cX12_mend 43 = .ok (.bipush 49, 2) := by decide +kernel
theorem dX12_mend_45 : decode cX12_mend 45 = .ok (.iload_n 1, 1) := by decide +kernel
theorem dX12_mend_46 : decode cX12_mend 46 = .ok (.imul, 1) := by decide +kernel
theorem dX12_mend_47 : decode cX12_mend 47 = .ok (.bipush 7, 2) := by decide +kernel
theorem dX12_mend_49 : decode cX12_mend 49 = .ok (.iload_n 2, 1) := by decide +kernel
theorem dX12_mend_50 : decode cX12_mend 50 = .ok (.imul, 1) := by decide +kernel
theorem dX12_mend_51 : decode cX12_mend 51 = .ok (.iadd, 1) := by decide +kernel
theorem dX12_mend_52 : decode cX12_mend 52 = .ok (.iload_n 3, 1) := by decide +kernel
theorem dX12_mend_53 : decode cX12_mend 53 = .ok (.iadd, 1) := by decide +kernel
theorem dX12_mend_54 : decode cX12_mend 54 = .ok (.iaload, 1) := by decide +kernel
theorem dX12_mend_55 : decode cX12_mend 55 = .ok (.istore 4, 2) := by decide +kernel
theorem dX12_mend_57 : decode cX12_mend 57 = .ok (.iload 4, 2) := by decide +kernel
theorem dX12_mend_59 : decode cX12_mend 59 = .ok (.ldc 124, 2) := by decide +kernel
theorem dX12_mend_61 : decode cX12_mend 61 = .ok (.if_icmp .lt 8, 3) := by decide +kernel
theorem dX12_mend_64 : decode cX12_mend 64 = .ok (.bipush (-5), 2) := by decide +kernel
theorem dX12_mend_66 : decode cX12_mend 66 = .ok (.goto 5, 3) := by decide +kernel
theorem dX12_mend_69 : decode cX12_mend 69 = .ok (.iload 4, 2) := by decide +kernel
theorem dX12_mend_71 : decode cX12_mend 71 = .ok (.ireturn, 1) := by decide +kernel
set_option maxRecDepth 20000 in
theorem ggX12_layText_X12_take : GoodIn wsX12_layText wsX12_take := goodIn_r _ [10, 2, 11, 12, 13, 14, 15, 42, 43, 44, 45, 46, 47, 48, 49, 50, 51, 52, 53, 54, 55, 56, 57, 58, 59, 60, 61, 62, 63, 64, 65, 66, 67, 68, 69, 70, 71, 72, 73, 74, 75, 76, 77] (by decide +kernel) (by decide +kernel)
set_option maxRecDepth 20000 in
theorem gX12_layText_X12_take : GoodIn wsX12_layText (wsV RX12 146 RX12 yX12_take wsX12_take) := goodIn_app (goodIn_of _ (by decide +kernel)) ggX12_layText_X12_take
set_option maxRecDepth 20000 in
theorem ggX12_layText_X12_layMends : GoodIn wsX12_layText wsX12_layMends := goodIn_r _ [19, 3, 4, 5, 20, 12, 21, 22, 23, 24, 9, 25, 26, 27, 28, 29, 30, 31, 32, 33, 34, 35, 36, 37, 38, 13, 39, 40, 41, 42, 43, 44, 45, 46, 47, 48, 49, 50, 51, 52, 53, 54, 55, 56, 57, 58, 59, 60, 61, 62, 63, 64, 65, 66, 67, 68, 69, 70, 71, 72, 73, 74, 75, 76, 77] (by decide +kernel) (by decide +kernel)
set_option maxRecDepth 20000 in
theorem gX12_layText_X12_layMends : GoodIn wsX12_layText (wsV RX12 143 RX12 yX12_layMends wsX12_layMends) := goodIn_app (goodIn_of _ (by decide +kernel)) ggX12_layText_X12_layMends
theorem dX12_layText_0 : decode cX12_layText 0 = .ok (.aload_n 0, 1) := by decide +kernel
theorem dX12_layText_1 : decode cX12_layText 1 = .ok (.bipush (-6), 2) := by decide +kernel
theorem dX12_layText_3 : decode cX12_layText 3 = .ok (.invokevirtual 146, 3) := by decide +kernel
theorem dX12_layText_6 : decode cX12_layText 6 = .ok (.aload_n 0, 1) := by decide +kernel
theorem dX12_layText_7 : decode cX12_layText 7 = .ok (.invokevirtual 143, 3) := by decide +kernel
theorem dX12_layText_10 : decode cX12_layText 10 = .ok (.bipush 49, 2) := by decide +kernel
theorem dX12_layText_12 : decode cX12_layText 12 = .ok (.aload_n 0, 1) := by decide +kernel
theorem dX12_layText_13 : decode cX12_layText 13 = .ok (.getfield 105, 3) := by decide +kernel
theorem dX12_layText_16 : decode cX12_layText 16 = .ok (.imul, 1) := by decide +kernel
theorem dX12_layText_17 : decode cX12_layText 17 = .ok (.aload_n 0, 1) := by decide +kernel
theorem dX12_layText_18 : decode cX12_layText 18 = .ok (.getfield 140, 3) := by decide +kernel
theorem dX12_layText_21 : decode cX12_layText 21 = .ok (.iadd, 1) := by decide +kernel
theorem dX12_layText_22 : decode cX12_layText 22 = .ok (.istore_n 1, 1) := by decide +kernel
theorem dX12_layText_23 : decode cX12_layText 23 = .ok (.aload_n 0, 1) := by decide +kernel
theorem dX12_layText_24 : decode cX12_layText 24 = .ok (.getfield 37, 3) := by decide +kernel
theorem dX12_layText_27 : decode cX12_layText 27 = .ok (.iload_n 1, 1) := by decide +kernel
theorem dX12_layText_28 : decode cX12_layText 28 = .ok (.iaload, 1) := by decide +kernel
theorem dX12_layText_29 : decode cX12_layText 29 = .ok (.ldc 124, 2) := by decide +kernel
theorem dX12_layText_31 : decode cX12_layText 31 = .ok (.if_icmp .lt 8, 3) := by decide +kernel
theorem dX12_layText_34 : decode cX12_layText 34 = .ok (.bipush (-5), 2) := by decide +kernel
theorem dX12_layText_36 : decode cX12_layText 36 = .ok (.goto 20, 3) := by decide +kernel
theorem dX12_layText_39 : decode cX12_layText 39 = .ok (.aload_n 0, 1) := by decide +kernel
theorem dX12_layText_40 : decode cX12_layText 40 = .ok (.getfield 40, 3) := by decide +kernel
theorem dX12_layText_43 : decode cX12_layText 43 = .ok (.iload_n 1, 1) := by decide +kernel
theorem dX12_layText_44 : decode cX12_layText 44 = .ok (.iaload, 1) := by decide +kernel
theorem dX12_layText_45 : decode cX12_layText 45 = .ok (.bipush 12, 2) := by decide +kernel
theorem dX12_layText_47 : decode cX12_layText 47 = .ok (.if_icmp .le 8, 3) := by decide +kernel
theorem dX12_layText_50 : decode cX12_layText 50 = .ok (.bipush (-3), 2) := by decide +kernel
theorem dX12_layText_52 : decode cX12_layText 52 = .ok (.goto 4, 3) := by decide +kernel
theorem dX12_layText_55 : decode cX12_layText 55 = .ok (.iconst 0, 1) := by decide +kernel
theorem dX12_layText_56 : decode cX12_layText 56 = .ok (.ireturn, 1) := by decide +kernel
set_option maxRecDepth 20000 in
theorem ggX12_text_X12_layText : GoodIn wsX12_text wsX12_layText := goodIn_r _ [9, 1, 2, 10, 11, 3, 12, 13, 14, 8, 15, 16, 17, 18, 19, 20, 21, 22, 23, 24, 4, 25, 26, 27, 28, 29, 30, 31, 32, 33, 34, 35, 36, 37, 38, 39, 40, 41, 42, 43, 44, 45, 49, 50, 51, 52, 53, 54, 55, 56, 57, 58, 59, 60, 61, 62, 63, 64, 65, 66, 67, 68, 69, 70, 71, 72, 73, 74, 75, 76, 77, 78, 79, 80, 81, 82, 83, 84] (by decide +kernel) (by decide +kernel)
set_option maxRecDepth 20000 in
theorem gX12_text_X12_layText : GoodIn wsX12_text (wsV RX12 162 RX12 yX12_layText wsX12_layText) := goodIn_app (goodIn_of _ (by decide +kernel)) ggX12_text_X12_layText
set_option maxRecDepth 20000 in
theorem ggX12_text_X12_in : GoodIn wsX12_text wsX12_in := goodIn_r _ [48] (by decide +kernel) (by decide +kernel)
set_option maxRecDepth 20000 in
theorem gX12_text_X12_in : GoodIn wsX12_text (va_wsS RX12 93 yX12_in wsX12_in) := goodIn_app (goodIn_of _ (by decide +kernel)) ggX12_text_X12_in
theorem dX12_text_0 : decode cX12_text 0 = .ok (.aload_n 0, 1) := by decide +kernel
theorem dX12_text_1 : decode cX12_text 1 = .ok (.invokevirtual 162, 3) := by decide +kernel
theorem dX12_text_4 : decode cX12_text 4 = .ok (.istore_n 2, 1) := by decide +kernel
theorem dX12_text_5 : decode cX12_text 5 = .ok (.iload_n 2, 1) := by decide +kernel
theorem dX12_text_6 : decode cX12_text 6 = .ok (.ifCond .ge 5, 3) := by decide +kernel
theorem dX12_text_9 : decode cX12_text 9 = .ok (.iload_n 2, 1) := by decide +kernel
theorem dX12_text_10 : decode cX12_text 10 = .ok (.ireturn, 1) := by decide +kernel
theorem dX12_text_11 : decode cX12_text 11 = .ok (.bipush 49, 2) := by decide +kernel
theorem dX12_text_13 : decode cX12_text 13 = .ok (.aload_n 0, 1) := by decide +kernel
theorem dX12_text_14 : decode cX12_text 14 = .ok (.getfield 105, 3) := by decide +kernel
theorem dX12_text_17 : decode cX12_text 17 = .ok (.imul, 1) := by decide +kernel
theorem dX12_text_18 : decode cX12_text 18 = .ok (.aload_n 0, 1) := by decide +kernel
theorem dX12_text_19 : decode cX12_text 19 = .ok (.getfield 140, 3) := by decide +kernel
theorem dX12_text_22 : decode cX12_text 22 = .ok (.iadd, 1) := by decide +kernel
theorem dX12_text_23 : decode cX12_text 23 = .ok (.istore_n 3, 1) := by decide +kernel
theorem dX12_text_24 : decode cX12_text 24 = .ok (.iload_n 1, 1) := by decide +kernel
theorem dX12_text_25 : decode cX12_text 25 = .ok (.iconst (-1), 1) := by decide +kernel
theorem dX12_text_26 : decode cX12_text 26 = .ok (.if_icmp .ne 12, 3) := by decide +kernel
theorem dX12_text_29 : decode cX12_text 29 = .ok (.aload_n 0, 1) := by decide +kernel
theorem dX12_text_30 : decode cX12_text 30 = .ok (.getfield 40, 3) := by decide +kernel
theorem dX12_text_33 : decode cX12_text 33 = .ok (.iload_n 3, 1) := by decide +kernel
theorem dX12_text_34 : decode cX12_text 34 = .ok (.iaload, 1) := by decide +kernel
theorem dX12_text_35 : decode cX12_text 35 = .ok (.goto 45, 3) := by decide +kernel
theorem dX12_text_38 : decode cX12_text 38 = .ok (.iload_n 1, 1) := by decide +kernel
theorem dX12_text_39 : decode cX12_text 39 = .ok (.iconst 0, 1) := by decide +kernel
theorem dX12_text_40 : decode cX12_text 40 = .ok (.aload_n 0, 1) := by decide +kernel
theorem dX12_text_41 : decode cX12_text 41 = .ok (.getfield 40, 3) := by decide +kernel
theorem dX12_text_44 : decode cX12_text 44 = .ok (.iload_n 3, 1) := by decide +kernel
theorem dX12_text_45 : decode cX12_text 45 = .ok (.iaload, 1) := by decide +kernel
theorem dX12_text_46 : decode cX12_text 46 = .ok (.iconst 1, 1) := by decide +kernel
theorem dX12_text_47 : decode cX12_text 47 = .ok (.isub, 1) := by decide +kernel
theorem dX12_text_48 : decode cX12_text 48 = .ok (.invokestatic 93, 3) := by decide +kernel
theorem dX12_text_51 : decode cX12_text 51 = .ok (.ifCond .eq 27, 3) := by decide +kernel
theorem dX12_text_54 : decode cX12_text 54 = .ok (.aload_n 0, 1) := by decide +kernel
theorem dX12_text_55 : decode cX12_text 55 = .ok (.getfield 43, 3) := by decide +kernel
theorem dX12_text_58 : decode cX12_text 58 = .ok (.iload_n 3, 1) := by decide +kernel
theorem dX12_text_59 : decode cX12_text 59 = .ok (.iaload, 1) := by decide +kernel
theorem dX12_text_60 : decode cX12_text 60 = .ok (.iconst 2, 1) := by decide +kernel
theorem dX12_text_61 : decode cX12_text 61 = .ok (.aload_n 0, 1) := by decide +kernel
theorem dX12_text_62 : decode cX12_text 62 = .ok (.getfield 40, 3) := by decide +kernel
theorem dX12_text_65 : decode cX12_text 65 = .ok (.iload_n 3, 1) := by decide +kernel
theorem dX12_text_66 : decode cX12_text 66 = .ok (.iaload, 1) := by decide +kernel
theorem dX12_text_67 : decode cX12_text 67 = .ok (.iconst 1, 1) := by decide +kernel
theorem dX12_text_68 : decode cX12_text 68 = .ok (.isub, 1) := by decide +kernel
theorem dX12_text_69 : decode cX12_text 69 = .ok (.iload_n 1, 1) := by decide +kernel
theorem dX12_text_70 : decode cX12_text 70 = .ok (.isub, 1) := by decide +kernel
theorem dX12_text_71 : decode cX12_text 71 = .ok (.imul, 1) := by decide +kernel
theorem dX12_text_72 : decode cX12_text 72 = .ok (.ishr, 1) := by decide +kernel
theorem dX12_text_73 : decode cX12_text 73 = .ok (.iconst 3, 1) := by decide +kernel
theorem dX12_text_74 : decode cX12_text 74 = .ok (.iand, 1) := by decide +kernel
theorem dX12_text_75 : decode cX12_text 75 = .ok (.goto 5, 3) := by decide +kernel
theorem dX12_text_78 : decode cX12_text 78 = .ok (.bipush (-6), 2) := by decide +kernel
theorem dX12_text_80 : decode cX12_text 80 = .ok (.ireturn, 1) := by decide +kernel
theorem dX12_pairCost_0 : decode cX12_pairCost 0 = .ok (.aload_n 0, 1) := by decide +kernel
theorem dX12_pairCost_1 : decode cX12_pairCost 1 = .ok (.getfield 34, 3) := by decide +kernel
theorem dX12_pairCost_4 : decode cX12_pairCost 4 = .ok (.iload_n 1, 1) := by decide +kernel
theorem dX12_pairCost_5 : decode cX12_pairCost 5 = .ok (.iaload, 1) := by decide +kernel
theorem dX12_pairCost_6 : decode cX12_pairCost 6 = .ok (.aload_n 0, 1) := by decide +kernel
theorem dX12_pairCost_7 : decode cX12_pairCost 7 = .ok (.getfield 62, 3) := by decide +kernel
theorem dX12_pairCost_10 : decode cX12_pairCost 10 = .ok (.iload_n 2, 1) := by decide +kernel
theorem dX12_pairCost_11 : decode cX12_pairCost 11 = .ok (.iaload, 1) := by decide +kernel
theorem dX12_pairCost_12 : decode cX12_pairCost 12 = .ok (.if_icmp .ne 7, 3) := by decide +kernel
theorem dX12_pairCost_15 : decode cX12_pairCost 15 = .ok (.iconst 0, 1) := by decide +kernel
theorem dX12_pairCost_16 : decode cX12_pairCost 16 = .ok (.goto 9, 3) := by decide +kernel
theorem dX12_pairCost_19 : decode cX12_pairCost 19 = .ok (.aload_n 0, 1) := by decide +kernel
theorem dX12_pairCost_20 : decode cX12_pairCost 20 = .ok (.getfield 31, 3) := by decide +kernel
theorem dX12_pairCost_23 : decode cX12_pairCost 23 = .ok (.iconst 2, 1) := by decide +kernel
theorem dX12_pairCost_24 : decode cX12_pairCost 24 = .ok (.iaload, 1) := by decide +kernel
theorem dX12_pairCost_25 : decode cX12_pairCost 25 = .ok (.ireturn, 1) := by decide +kernel
theorem dX12_addAhead_0 : decode cX12_addAhead 0 = .ok (.aload_n 0, 1) := by decide +kernel
theorem dX12_addAhead_1 : decode cX12_addAhead 1 = .ok (.getfield 65, 3) := by decide +kernel
theorem dX12_addAhead_4 : decode cX12_addAhead 4 = .ok (.iload_n 2, 1) := by decide +kernel
theorem dX12_addAhead_5 : decode cX12_addAhead 5 = .ok (.iaload, 1) := by decide +kernel
theorem dX12_addAhead_6 : decode cX12_addAhead 6 = .ok (.iload_n 3, 1) := by decide +kernel
theorem dX12_addAhead_7 : decode cX12_addAhead 7 = .ok (.iadd, 1) := by decide +kernel
theorem dX12_addAhead_8 : decode cX12_addAhead 8 = .ok (.istore 4, 2) := by decide +kernel
theorem dX12_addAhead_10 : decode cX12_addAhead 10 = .ok (.iload 4, 2) := by decide +kernel
theorem dX12_addAhead_12 : decode cX12_addAhead 12 = .ok (.aload_n 0, 1) := by decide +kernel
theorem dX12_addAhead_13 : decode cX12_addAhead 13 = .ok (.getfield 65, 3) := by decide +kernel
theorem dX12_addAhead_16 : decode cX12_addAhead 16 = .ok (.iload_n 1, 1) := by decide +kernel
theorem dX12_addAhead_17 : decode cX12_addAhead 17 = .ok (.iaload, 1) := by decide +kernel
theorem dX12_addAhead_18 : decode cX12_addAhead 18 = .ok (.if_icmp .ge 26, 3) := by decide +kernel
theorem dX12_addAhead_21 : decode cX12_addAhead 21 = .ok (.aload_n 0, 1) := by decide +kernel
theorem dX12_addAhead_22 : decode cX12_addAhead 22 = .ok (.getfield 65, 3) := by decide +kernel
theorem dX12_addAhead_25 : decode cX12_addAhead 25 = .ok (.iload_n 1, 1) := by decide +kernel
theorem dX12_addAhead_26 : decode cX12_addAhead 26 = .ok (.iload 4, 2) := by decide +kernel
theorem dX12_addAhead_28 : decode cX12_addAhead 28 = .ok (.iastore, 1) := by decide +kernel
theorem dX12_addAhead_29 : decode cX12_addAhead 29 = .ok (.aload_n 0, 1) := by decide +kernel
theorem dX12_addAhead_30 : decode cX12_addAhead 30 = .ok (.getfield 71, 3) := by decide +kernel
theorem dX12_addAhead_33 : decode cX12_addAhead 33 = .ok (.iload_n 1, 1) := by decide +kernel
theorem dX12_addAhead_34 : decode cX12_addAhead 34 = .ok (.aload_n 0, 1) := by decide +kernel
theorem dX12_addAhead_35 : decode cX12_addAhead 35 = .ok (.getfield 71, 3) := by decide +kernel
theorem dX12_addAhead_38 : decode cX12_addAhead 38 = .ok (.iload_n 2, 1) := by decide +kernel
theorem dX12_addAhead_39 : decode cX12_addAhead 39 = .ok (.laload, 1) := by decide +kernel
theorem dX12_addAhead_40 : decode cX12_addAhead 40 = .ok (.lastore, 1) := by decide +kernel
theorem dX12_addAhead_41 : decode cX12_addAhead 41 = .ok (.goto 29, 3) := by decide +kernel
theorem dX12_addAhead_44 : decode cX12_addAhead 44 = .ok (.iload 4, 2) := by decide +kernel
theorem dX12_addAhead_46 : decode cX12_addAhead 46 = .ok (.aload_n 0, 1) := by decide +kernel
theorem dX12_addAhead_47 : decode cX12_addAhead 47 = .ok (.getfield 65, 3) := by decide +kernel
theorem dX12_addAhead_50 : decode cX12_addAhead 50 = .ok (.iload_n 1, 1) := by decide +kernel
theorem dX12_addAhead_51 : decode cX12_addAhead 51 = .ok (.iaload, 1) := by decide +kernel
theorem dX12_addAhead_52 : decode cX12_addAhead 52 = .ok (.if_icmp .ne 18, 3) := by decide +kernel
theorem dX12_addAhead_55 : decode cX12_addAhead 55 = .ok (.aload_n 0, 1) := by decide +kernel
theorem dX12_addAhead_56 : decode cX12_addAhead 56 = .ok (.getfield 71, 3) := by decide +kernel
theorem dX12_addAhead_59 : decode cX12_addAhead 59 = .ok (.iload_n 1, 1) := by decide +kernel
theorem dX12_addAhead_60 : decode cX12_addAhead 60 = .ok (.dup2, 1) := by decide +kernel
theorem dX12_addAhead_61 : decode cX12_addAhead 61 = .ok (.laload, 1) := by decide +kernel
theorem dX12_addAhead_62 : decode cX12_addAhead 62 = .ok (.aload_n 0, 1) := by decide +kernel
theorem dX12_addAhead_63 : decode cX12_addAhead 63 = .ok (.getfield 71, 3) := by decide +kernel
theorem dX12_addAhead_66 : decode cX12_addAhead 66 = .ok (.iload_n 2, 1) := by decide +kernel
theorem dX12_addAhead_67 : decode cX12_addAhead 67 = .ok (.laload, 1) := by decide +kernel
theorem dX12_addAhead_68 : decode cX12_addAhead 68 = .ok (.ladd, 1) := by decide +kernel
theorem dX12_addAhead_69 : decode cX12_addAhead 69 = .ok (.lastore, 1) := by decide +kernel
theorem dX12_addAhead_70 : decode cX12_addAhead 70 = .ok (.return_, 1) := by decide +kernel
theorem dX12_addBehind_0 : decode cX12_addBehind 0 = .ok (.aload_n 0, 1) := by decide +kernel
theorem dX12_addBehind_1 : decode cX12_addBehind 1 = .ok (.getfield 68, 3) := by decide +kernel
theorem dX12_addBehind_4 : decode cX12_addBehind 4 = .ok (.iload_n 2, 1) := by decide +kernel
theorem dX12_addBehind_5 : decode cX12_addBehind 5 = .ok (.iaload, 1) := by decide +kernel
theorem dX12_addBehind_6 : decode cX12_addBehind 6 = .ok (.iload_n 3, 1) := by decide +kernel
theorem dX12_addBehind_7 : decode cX12_addBehind 7 = .ok (.iadd, 1) := by decide +kernel
theorem dX12_addBehind_8 : decode cX12_addBehind 8 = .ok (.istore 4, 2) := by decide +kernel
theorem dX12_addBehind_10 : decode cX12_addBehind 10 = .ok (.iload 4, 2) := by decide +kernel
theorem dX12_addBehind_12 : decode cX12_addBehind 12 = .ok (.aload_n 0, 1) := by decide +kernel
theorem dX12_addBehind_13 : decode cX12_addBehind 13 = .ok (.getfield 68, 3) := by decide +kernel
theorem dX12_addBehind_16 : decode cX12_addBehind 16 = .ok (.iload_n 1, 1) := by decide +kernel
theorem dX12_addBehind_17 : decode cX12_addBehind 17 = .ok (.iaload, 1) := by decide +kernel
theorem dX12_addBehind_18 : decode cX12_addBehind 18 = .ok (.if_icmp .ge 26, 3) := by decide +kernel
theorem dX12_addBehind_21 : decode cX12_addBehind 21 = .ok (.aload_n 0, 1) := by decide +kernel
theorem dX12_addBehind_22 : decode cX12_addBehind 22 = .ok (.getfield 68, 3) := by decide +kernel
theorem dX12_addBehind_25 : decode cX12_addBehind 25 = .ok (.iload_n 1, 1) := by decide +kernel
theorem dX12_addBehind_26 : decode cX12_addBehind 26 = .ok (.iload 4, 2) := by decide +kernel
theorem dX12_addBehind_28 : decode cX12_addBehind 28 = .ok (.iastore, 1) := by decide +kernel
theorem dX12_addBehind_29 : decode cX12_addBehind 29 = .ok (.aload_n 0, 1) := by decide +kernel
theorem dX12_addBehind_30 : decode cX12_addBehind 30 = .ok (.getfield 75, 3) := by decide +kernel
theorem dX12_addBehind_33 : decode cX12_addBehind 33 = .ok (.iload_n 1, 1) := by decide +kernel
theorem dX12_addBehind_34 : decode cX12_addBehind 34 = .ok (.aload_n 0, 1) := by decide +kernel
theorem dX12_addBehind_35 : decode cX12_addBehind 35 = .ok (.getfield 75, 3) := by decide +kernel
theorem dX12_addBehind_38 : decode cX12_addBehind 38 = .ok (.iload_n 2, 1) := by decide +kernel
theorem dX12_addBehind_39 : decode cX12_addBehind 39 = .ok (.laload, 1) := by decide +kernel
theorem dX12_addBehind_40 : decode cX12_addBehind 40 = .ok (.lastore, 1) := by decide +kernel
theorem dX12_addBehind_41 : decode cX12_addBehind 41 = .ok (.goto 29, 3) := by decide +kernel
theorem dX12_addBehind_44 : decode cX12_addBehind 44 = .ok (.iload 4, 2) := by decide +kernel
theorem dX12_addBehind_46 : decode cX12_addBehind 46 = .ok (.aload_n 0, 1) := by decide +kernel
theorem dX12_addBehind_47 : decode cX12_addBehind 47 = .ok (.getfield 68, 3) := by decide +kernel
theorem dX12_addBehind_50 : decode cX12_addBehind 50 = .ok (.iload_n 1, 1) := by decide +kernel
theorem dX12_addBehind_51 : decode cX12_addBehind 51 = .ok (.iaload, 1) := by decide +kernel
theorem dX12_addBehind_52 : decode cX12_addBehind 52 = .ok (.if_icmp .ne 18, 3) := by decide +kernel
theorem dX12_addBehind_55 : decode cX12_addBehind 55 = .ok (.aload_n 0, 1) := by decide +kernel
theorem dX12_addBehind_56 : decode cX12_addBehind 56 = .ok (.getfield 75, 3) := by decide +kernel
theorem dX12_addBehind_59 : decode cX12_addBehind 59 = .ok (.iload_n 1, 1) := by decide +kernel
theorem dX12_addBehind_60 : decode cX12_addBehind 60 = .ok (.dup2, 1) := by decide +kernel
theorem dX12_addBehind_61 : decode cX12_addBehind 61 = .ok (.laload, 1) := by decide +kernel
theorem dX12_addBehind_62 : decode cX12_addBehind 62 = .ok (.aload_n 0, 1) := by decide +kernel
theorem dX12_addBehind_63 : decode cX12_addBehind 63 = .ok (.getfield 75, 3) := by decide +kernel
theorem dX12_addBehind_66 : decode cX12_addBehind 66 = .ok (.iload_n 2, 1) := by decide +kernel
theorem dX12_addBehind_67 : decode cX12_addBehind 67 = .ok (.laload, 1) := by decide +kernel
theorem dX12_addBehind_68 : decode cX12_addBehind 68 = .ok (.ladd, 1) := by decide +kernel
theorem dX12_addBehind_69 : decode cX12_addBehind 69 = .ok (.lastore, 1) := by decide +kernel
theorem dX12_addBehind_70 : decode cX12_addBehind 70 = .ok (.return_, 1) := by decide +kernel
set_option maxRecDepth 20000 in
theorem ggX12_layRows_X12_addAhead : GoodIn wsX12_layRows wsX12_addAhead := goodIn_r _ [13, 1, 4, 24, 25, 26, 27, 28, 29, 30, 31, 32, 33, 34, 35, 36, 37, 38, 39, 40, 41, 42, 43, 44, 45, 46, 47, 48, 49, 50, 51, 52, 53, 54, 55, 56, 57, 58, 59] (by decide +kernel) (by decide +kernel)
set_option maxRecDepth 20000 in
theorem gX12_layRows_X12_addAhead : GoodIn wsX12_layRows (wsV RX12 168 RX12 yX12_addAhead wsX12_addAhead) := goodIn_app (goodIn_of _ (by decide +kernel)) ggX12_layRows_X12_addAhead
set_option maxRecDepth 20000 in
theorem ggX12_layRows_X12_pairCost : GoodIn wsX12_layRows wsX12_pairCost := goodIn_r _ [17, 18, 19, 8, 24, 25, 26, 27, 28, 29, 30, 31, 32, 33, 34, 35, 36, 37, 38, 39, 40, 41, 42, 43, 44, 45, 46, 47, 48, 49, 50, 51, 52, 53, 54, 55, 56, 57, 58, 59] (by decide +kernel) (by decide +kernel)
set_option maxRecDepth 20000 in
theorem gX12_layRows_X12_pairCost : GoodIn wsX12_layRows (wsV RX12 171 RX12 yX12_pairCost wsX12_pairCost) := goodIn_app (goodIn_of _ (by decide +kernel)) ggX12_layRows_X12_pairCost
set_option maxRecDepth 20000 in
theorem ggX12_layRows_X12_addBehind : GoodIn wsX12_layRows wsX12_addBehind := goodIn_r _ [23, 3, 5, 24, 25, 26, 27, 28, 29, 30, 31, 32, 33, 34, 35, 36, 37, 38, 39, 40, 41, 42, 43, 44, 45, 46, 47, 48, 49, 50, 51, 52, 53, 54, 55, 56, 57, 58, 59] (by decide +kernel) (by decide +kernel)
set_option maxRecDepth 20000 in
theorem gX12_layRows_X12_addBehind : GoodIn wsX12_layRows (wsV RX12 175 RX12 yX12_addBehind wsX12_addBehind) := goodIn_app (goodIn_of _ (by decide +kernel)) ggX12_layRows_X12_addBehind
theorem dX12_layRows_0 : decode cX12_layRows 0 = .ok (.iconst 0, 1) := by decide +kernel
theorem dX12_layRows_1 : decode cX12_layRows 1 = .ok (.istore_n 1, 1) := by decide +kernel
theorem dX12_layRows_2 : decode cX12_layRows 2 = .ok (.iload_n 1, 1) := by decide +kernel
theorem dX12_layRows_3 : decode cX12_layRows 3 = .ok (.bipush 91, 2) := by decide +kernel
theorem dX12_layRows_5 : decode cX12_layRows 5 = .ok (.if_icmp .ge 39, 3) := by decide +kernel
theorem dX12_layRows_8 : decode cX12_layRows 8 = .ok (.aload_n 0, 1) := by decide +kernel
theorem dX12_layRows_9 : decode cX12_layRows 9 = .ok (.getfield 65, 3) := by decide +kernel
theorem dX12_layRows_12 : decode cX12_layRows 12 = .ok (.iload_n 1, 1) := by decide +kernel
theorem dX12_layRows_13 : decode cX12_layRows 13 = .ok (.ldc 124, 2) := by decide +kernel
theorem dX12_layRows_15 : decode cX12_layRows 15 = .ok (.iastore, 1) := by decide +kernel
theorem dX12_layRows_16 : decode cX12_layRows 16 = .ok (.aload_n 0, 1) := by decide +kernel
theorem dX12_layRows_17 : decode cX12_layRows 17 = .ok (.getfield 68, 3) := by decide +kernel
theorem dX12_layRows_20 : decode cX12_layRows 20 = .ok (.iload_n 1, 1) := by decide +kernel
theorem dX12_layRows_21 : decode cX12_layRows 21 = .ok (.ldc 124, 2) := by decide +kernel
theorem dX12_layRows_23 : decode cX12_layRows 23 = .ok (.iastore, 1) := by decide +kernel
theorem dX12_layRows_24 : decode cX12_layRows 24 = .ok (.aload_n 0, 1) := by decide +kernel
theorem dX12_layRows_25 : decode cX12_layRows 25 = .ok (.getfield 71, 3) := by decide +kernel
theorem dX12_layRows_28 : decode cX12_layRows 28 = .ok (.iload_n 1, 1) := by decide +kernel
theorem dX12_layRows_29 : decode cX12_layRows 29 = .ok (.lconst 0, 1) := by decide +kernel
theorem dX12_layRows_30 : decode cX12_layRows 30 = .ok (.lastore, 1) := by decide +kernel
theorem dX12_layRows_31 : decode cX12_layRows 31 = .ok (.aload_n 0, 1) := by decide +kernel
theorem dX12_layRows_32 : decode cX12_layRows 32 = .ok (.getfield 75, 3) := by decide +kernel
theorem dX12_layRows_35 : decode cX12_layRows 35 = .ok (.iload_n 1, 1) := by decide +kernel
theorem dX12_layRows_36 : decode cX12_layRows 36 = .ok (.lconst 0, 1) := by decide +kernel
theorem dX12_layRows_37 : decode cX12_layRows 37 = .ok (.lastore, 1) := by decide +kernel
theorem dX12_layRows_38 : decode cX12_layRows 38 = .ok (.iinc 1 1, 3) := by decide +kernel
theorem dX12_layRows_41 : decode cX12_layRows 41 = .ok (.goto (-39), 3) := by decide +kernel
theorem dX12_layRows_44 : decode cX12_layRows 44 = .ok (.iconst 0, 1) := by decide +kernel
theorem dX12_layRows_45 : decode cX12_layRows 45 = .ok (.istore_n 1, 1) := by decide +kernel
theorem dX12_layRows_46 : decode cX12_layRows 46 = .ok (.iload_n 1, 1) := by decide +kernel
theorem dX12_layRows_47 : decode cX12_layRows 47 = .ok (.aload_n 0, 1) := by decide +kernel
theorem dX12_layRows_48 : decode cX12_layRows 48 = .ok (.getfield 133, 3) := by decide +kernel
theorem dX12_layRows_51 : decode cX12_layRows 51 = .ok (.if_icmp .gt 114, 3) := by decide +kernel
theorem dX12_layRows_54 : decode cX12_layRows 54 = .ok (.iconst 0, 1) := by decide +kernel
theorem dX12_layRows_55 : decode cX12_layRows 55 = .ok (.istore_n 2, 1) := by decide +kernel
theorem dX12_layRows_56 : decode cX12_layRows 56 = .ok (.iload_n 2, 1) := by decide +kernel
theorem dX12_layRows_57 : decode cX12_layRows 57 = .ok (.aload_n 0, 1) := by decide +kernel
theorem dX12_layRows_58 : decode cX12_layRows 58 = .ok (.getfield 165, 3) := by decide +kernel
theorem dX12_layRows_61 : decode cX12_layRows 61 = .ok (.if_icmp .gt 98, 3) := by decide +kernel
theorem dX12_layRows_64 : decode cX12_layRows 64 = .ok (.bipush 13, 2) := by decide +kernel
theorem dX12_layRows_66 : decode cX12_layRows 66 = .ok (.iload_n 1, 1) := by decide +kernel
theorem dX12_layRows_67 : decode cX12_layRows 67 = .ok (.imul, 1) := by decide +kernel
theorem dX12_layRows_68 : decode cX12_layRows 68 = .ok (.iload_n 2, 1) := by decide +kernel
theorem dX12_layRows_69 : decode cX12_layRows 69 = .ok (.iadd, 1) := by decide +kernel
theorem dX12_layRows_70 : decode cX12_layRows 70 = .ok (.istore_n 3, 1) := by decide +kernel
theorem dX12_layRows_71 : decode cX12_layRows 71 = .ok (.iload_n 3, 1) := by decide +kernel
theorem dX12_layRows_72 : decode cX12_layRows 72 = .ok (.ifCond .ne 17, 3) := by decide +kernel
theorem dX12_layRows_75 : decode cX12_layRows 75 = .ok (.aload_n 0, 1) := by decide +kernel
theorem dX12_layRows_76 : decode cX12_layRows 76 = .ok (.getfield 65, 3) := by decide +kernel
theorem dX12_layRows_79 : decode cX12_layRows 79 = .ok (.iload_n 3, 1) := by decide +kernel
theorem dX12_layRows_80 : decode cX12_layRows 80 = .ok (.iconst 0, 1) := by decide +kernel
theorem dX12_layRows_81 : decode cX12_layRows 81 = .ok (.iastore, 1) := by decide +kernel
theorem dX12_layRows_82 : decode cX12_layRows 82 = .ok (.aload_n 0, 1) := by decide +kernel
theorem dX12_layRows_83 : decode cX12_layRows 83 = .ok (.getfield 71, 3) := by decide +kernel
theorem dX12_layRows_86 : decode cX12_layRows 86 = .ok (.iload_n 3, 1) := by decide +kernel
theorem dX12_layRows_87 : decode cX12_layRows 87 = .ok (.lconst 1, 1) := by decide +kernel
theorem dX12_layRows_88 : decode cX12_layRows 88 = .ok (.lastore, 1) := by decide +kernel
theorem dX12_layRows_89 : decode cX12_layRows 89 = .ok (.iload_n 1, 1) := by decide +kernel
theorem dX12_layRows_90 : decode cX12_layRows 90 = .ok (.ifCond .le 18, 3) := by decide +kernel
theorem dX12_layRows_93 : decode cX12_layRows 93 = .ok (.aload_n 0, 1) := by decide +kernel
theorem dX12_layRows_94 : decode cX12_layRows 94 = .ok (.iload_n 3, 1) := by decide +kernel
theorem dX12_layRows_95 : decode cX12_layRows 95 = .ok (.iload_n 3, 1) := by decide +kernel
theorem dX12_layRows_96 : decode cX12_layRows 96 = .ok (.bipush 13, 2) := by decide +kernel
theorem dX12_layRows_98 : decode cX12_layRows 98 = .ok (.isub, 1) := by decide +kernel
theorem dX12_layRows_99 : decode cX12_layRows 99 = .ok (.aload_n 0, 1) := by decide +kernel
theorem dX12_layRows_100 : decode cX12_layRows 100 = .ok (.getfield 31, 3) := by decide +kernel
theorem dX12_layRows_103 : decode cX12_layRows 103 = .ok (.iconst 0, 1) := by decide +kernel
theorem dX12_layRows_104 : decode cX12_layRows 104 = .ok (.iaload, 1) := by decide +kernel
theorem dX12_layRows_105 : decode cX12_layRows 105 = .ok (.invokevirtual 168, 3) := by decide +kernel
theorem dX12_layRows_108 : decode cX12_layRows 108 = .ok (.iload_n 2, 1) := by decide +kernel
theorem dX12_layRows_109 : decode cX12_layRows 109 = .ok (.ifCond .le 17, 3) := by decide +kernel
theorem dX12_layRows_112 : decode cX12_layRows 112 = .ok (.aload_n 0, 1) := by decide +kernel
theorem dX12_layRows_113 : decode cX12_layRows 113 = .ok (.iload_n 3, 1) := by decide +kernel
theorem dX12_layRows_114 : decode cX12_layRows 114 = .ok (.iload_n 3, 1) := by decide +kernel
theorem dX12_layRows_115 : decode cX12_layRows 115 = .ok (.iconst 1, 1) := by decide +kernel
theorem dX12_layRows_116 : decode cX12_layRows 116 = .ok (.isub, 1) := by decide +kernel
theorem dX12_layRows_117 : decode cX12_layRows 117 = .ok (.aload_n 0, 1) := by decide +kernel
theorem dX12_layRows_118 : decode cX12_layRows 118 = .ok (.getfield 31, 3) := by decide +kernel
theorem dX12_layRows_121 : decode cX12_layRows 121 = .ok (.iconst 1, 1) := by decide +kernel
theorem dX12_layRows_122 : decode cX12_layRows 122 = .ok (.iaload, 1) := by decide +kernel
theorem dX12_layRows_123 : decode cX12_layRows 123 = .ok (.invokevirtual 168, 3) := by decide +kernel
theorem dX12_layRows_126 : decode cX12_layRows 126 = .ok (.iload_n 1, 1) := by decide +kernel
theorem dX12_layRows_127 : decode cX12_layRows 127 = .ok (.ifCond .le 26, 3) := by decide +kernel
theorem dX12_layRows_130 : decode cX12_layRows 130 = .ok (.iload_n 2, 1) := by decide +kernel
theorem dX12_layRows_131 : decode cX12_layRows 131 = .ok (.ifCond .le 22, 3) := by decide +kernel
theorem dX12_layRows_134 : decode cX12_layRows 134 = .ok (.aload_n 0, 1) := by decide +kernel
theorem dX12_layRows_135 : decode cX12_layRows 135 = .ok (.iload_n 3, 1) := by decide +kernel
theorem dX12_layRows_136 : decode cX12_layRows 136 = .ok (.iload_n 3, 1) := by decide +kernel
theorem dX12_layRows_137 : decode cX12_layRows 137 = .ok (.bipush 14, 2) := by decide +kernel
theorem dX12_layRows_139 : decode cX12_layRows 139 = .ok (.isub, 1) := by decide +kernel
theorem dX12_layRows_140 : decode cX12_layRows 140 = .ok (.aload_n 0, 1) := by decide +kernel
theorem dX12_layRows_141 : decode cX12_layRows 141 = .ok (.iload_n 1, 1) := by decide +kernel
theorem dX12_layRows_142 : decode cX12_layRows 142 = .ok (.iconst 1, 1) := by decide +kernel
theorem dX12_layRows_143 : decode cX12_layRows 143 = .ok (.isub, 1) := by decide +kernel
theorem dX12_layRows_144 : decode cX12_layRows 144 = .ok (.iload_n 2, 1) := by decide +kernel
theorem dX12_layRows_145 : decode cX12_layRows 145 = .ok (.iconst 1, 1) := by decide +kernel
theorem dX12_layRows_146 : decode cX12_layRows 146 = .ok (.isub, 1) := by decide +kernel
theorem dX12_layRows_147 : decode cX12_layRows 147 = .ok (.invokevirtual 171, 3) := by decide +kernel
theorem dX12_layRows_150 : decode cX12_layRows 150 = .ok (.invokevirtual 168, 3) := by decide +kernel
theorem dX12_layRows_153 : decode cX12_layRows 153 = .ok (.iinc 2 1, 3) := by decide +kernel
theorem dX12_layRows_156 : decode cX12_layRows 156 = .ok (.goto (-100), 3) := by decide +kernel
theorem dX12_layRows_159 : decode cX12_layRows 159 = .ok (.iinc 1 1, 3) := by decide +kernel
theorem dX12_layRows_162 : decode cX12_layRows 162 = .ok (.goto (-116), 3) := by decide +kernel
theorem dX12_layRows_165 : decode cX12_layRows 165 = .ok (.aload_n 0, 1) := by decide +kernel
theorem dX12_layRows_166 : decode cX12_layRows 166 = .ok (.getfield 133, 3) := by decide +kernel
theorem dX12_layRows_169 : decode cX12_layRows 169 = .ok (.istore_n 1, 1) := by decide +kernel
theorem dX12_layRows_170 : decode cX12_layRows 170 = .ok (.iload_n 1, 1) := by decide +kernel
theorem dX12_layRows_171 : decode cX12_layRows 171 = .ok (.ifCond .lt 137, 3) := by decide +kernel
theorem dX12_layRows_174 : decode cX12_layRows 174 = .ok (.aload_n 0, 1) := by decide +kernel
theorem dX12_layRows_175 : decode cX12_layRows 175 = .ok (.getfield 165, 3) := by decide +kernel
theorem dX12_layRows_178 : decode cX12_layRows 178 = .ok (.istore_n 2, 1) := by decide +kernel
theorem dX12_layRows_179 : decode cX12_layRows 179 = .ok (.iload_n 2, 1) := by decide +kernel
theorem dX12_layRows_180 : decode cX12_layRows 180 = .ok (.ifCond .lt 122, 3) := by decide +kernel
theorem dX12_layRows_183 : decode cX12_layRows 183 = .ok (.bipush 13, 2) := by decide +kernel
theorem dX12_layRows_185 : decode cX12_layRows 185 = .ok (.iload_n 1, 1) := by decide +kernel
theorem dX12_layRows_186 : decode cX12_layRows 186 = .ok (.imul, 1) := by decide +kernel
theorem dX12_layRows_187 : decode cX12_layRows 187 = .ok (.iload_n 2, 1) := by decide +kernel
theorem dX12_layRows_188 : decode cX12_layRows 188 = .ok (.iadd, 1) := by decide +kernel
theorem dX12_layRows_189 : decode cX12_layRows 189 = .ok (.istore_n 3, 1) := by decide +kernel
theorem dX12_layRows_190 : decode cX12_layRows 190 = .ok (.iload_n 1, 1) := by decide +kernel
theorem dX12_layRows_191 : decode cX12_layRows 191 = .ok (.aload_n 0, 1) := by decide +kernel
theorem dX12_layRows_192 : decode cX12_layRows 192 = .ok (.getfield 133, 3) := by decide +kernel
theorem dX12_layRows_195 : decode cX12_layRows 195 = .ok (.if_icmp .ne 25, 3) := by decide +kernel
theorem dX12_layRows_198 : decode cX12_layRows 198 = .ok (.iload_n 2, 1) := by decide +kernel
theorem dX12_layRows_199 : decode cX12_layRows 199 = .ok (.aload_n 0, 1) := by decide +kernel
theorem dX12_layRows_200 : decode cX12_layRows 200 = .ok (.getfield 165, 3) := by decide +kernel
theorem dX12_layRows_203 : decode cX12_layRows 203 = .ok (.if_icmp .ne 17, 3) := by decide +kernel
theorem dX12_layRows_206 : decode cX12_layRows 206 = .ok (.aload_n 0, 1) := by decide +kernel
theorem dX12_layRows_207 : decode cX12_layRows 207 = .ok (.getfield 68, 3) := by decide +kernel
theorem dX12_layRows_210 : decode cX12_layRows 210 = .ok (.iload_n 3, 1) := by decide +kernel
theorem dX12_layRows_211 : decode cX12_layRows 211 = .ok (.iconst 0, 1) := by decide +kernel
theorem dX12_layRows_212 : decode cX12_layRows 212 = .ok (.iastore, 1) := by decide +kernel
theorem dX12_layRows_213 : decode cX12_layRows 213 = .ok (.aload_n 0, 1) := by decide +kernel
theorem dX12_layRows_214 : decode cX12_layRows 214 = .ok (.getfield 75, 3) := by decide +kernel
theorem dX12_layRows_217 : decode cX12_layRows 217 = .ok (.iload_n 3, 1) := by decide +kernel
theorem dX12_layRows_218 : decode cX12_layRows 218 = .ok (.lconst 1, 1) := by decide +kernel
theorem dX12_layRows_219 : decode cX12_layRows 219 = .ok (.lastore, 1) := by decide +kernel
theorem dX12_layRows_220 : decode cX12_layRows 220 = .ok (.iload_n 1, 1) := by decide +kernel
theorem dX12_layRows_221 : decode cX12_layRows 221 = .ok (.aload_n 0, 1) := by decide +kernel
theorem dX12_layRows_222 : decode cX12_layRows 222 = .ok (.getfield 133, 3) := by decide +kernel
theorem dX12_layRows_225 : decode cX12_layRows 225 = .ok (.if_icmp .ge 18, 3) := by decide +kernel
theorem dX12_layRows_228 : decode cX12_layRows 228 = .ok (.aload_n 0, 1) := by decide +kernel
theorem dX12_layRows_229 : decode cX12_layRows 229 = .ok (.iload_n 3, 1) := by decide +kernel
theorem dX12_layRows_230 : decode cX12_layRows 230 = .ok (.iload_n 3, 1) := by decide +kernel
theorem dX12_layRows_231 : decode cX12_layRows 231 = .ok (.bipush 13, 2) := by decide +kernel
theorem dX12_layRows_233 : decode cX12_layRows 233 = .ok (.iadd, 1) := by decide +kernel
theorem dX12_layRows_234 : decode cX12_layRows 234 = .ok (.aload_n 0, 1) := by decide +kernel
theorem dX12_layRows_235 : decode cX12_layRows 235 = .ok (.getfield 31, 3) := by decide +kernel
theorem dX12_layRows_238 : decode cX12_layRows 238 = .ok (.iconst 0, 1) := by decide +kernel
theorem dX12_layRows_239 : decode cX12_layRows 239 = .ok (.iaload, 1) := by decide +kernel
theorem dX12_layRows_240 : decode cX12_layRows 240 = .ok (.invokevirtual 175, 3) := by decide +kernel
theorem dX12_layRows_243 : decode cX12_layRows 243 = .ok (.iload_n 2, 1) := by decide +kernel
theorem dX12_layRows_244 : decode cX12_layRows 244 = .ok (.aload_n 0, 1) := by decide +kernel
theorem dX12_layRows_245 : decode cX12_layRows 245 = .ok (.getfield 165, 3) := by decide +kernel
theorem dX12_layRows_248 : decode cX12_layRows 248 = .ok (.if_icmp .ge 17, 3) := by decide +kernel
theorem dX12_layRows_251 : decode cX12_layRows 251 = .ok (.aload_n 0, 1) := by decide +kernel
theorem dX12_layRows_252 : decode cX12_layRows 252 = .ok (.iload_n 3, 1) := by decide +kernel
theorem dX12_layRows_253 : decode cX12_layRows 253 = .ok (.iload_n 3, 1) := by decide +kernel
theorem dX12_layRows_254 : decode cX12_layRows 254 = .ok (.iconst 1, 1) := by decide +kernel
theorem dX12_layRows_255 : decode cX12_layRows 255 = .ok (.iadd, 1) := by decide +kernel
theorem dX12_layRows_256 : decode cX12_layRows 256 = .ok (.aload_n 0, 1) := by decide +kernel
theorem dX12_layRows_257 : decode cX12_layRows 257 = .ok (.getfield 31, 3) := by decide +kernel
theorem dX12_layRows_260 : decode cX12_layRows 260 = .ok (.iconst 1, 1) := by decide +kernel
theorem dX12_layRows_261 : decode cX12_layRows 261 = .ok (.iaload, 1) := by decide +kernel
theorem dX12_layRows_262 : decode cX12_layRows 262 = .ok (.invokevirtual 175, 3) := by decide +kernel
theorem dX12_layRows_265 : decode cX12_layRows 265 = .ok (.iload_n 1, 1) := by decide +kernel
theorem dX12_layRows_266 : decode cX12_layRows 266 = .ok (.aload_n 0, 1) := by decide +kernel
theorem dX12_layRows_267 : decode cX12_layRows 267 = .ok (.getfield 133, 3) := by decide +kernel
theorem dX12_layRows_270 : decode cX12_layRows 270 = .ok (.if_icmp .ge 26, 3) := by decide +kernel
theorem dX12_layRows_273 : decode cX12_layRows 273 = .ok (.iload_n 2, 1) := by decide +kernel
theorem dX12_layRows_274 : decode cX12_layRows 274 = .ok (.aload_n 0, 1) := by decide +kernel
theorem dX12_layRows_275 : decode cX12_layRows 275 = .ok (.getfield 165, 3) := by decide +kernel
theorem dX12_layRows_278 : decode cX12_layRows 278 = .ok (.if_icmp .ge 18, 3) := by decide +kernel
theorem dX12_layRows_281 : decode cX12_layRows 281 = .ok (.aload_n 0, 1) := by decide +kernel
theorem dX12_layRows_282 : decode cX12_layRows 282 = .ok (.iload_n 3, 1) := by decide +kernel
theorem dX12_layRows_283 : decode cX12_layRows 283 = .ok (.iload_n 3, 1) := by decide +kernel
theorem dX12_layRows_284 : decode cX12_layRows 284 = .ok (.bipush 14, 2) := by decide +kernel
theorem dX12_layRows_286 : decode cX12_layRows 286 = .ok (.iadd, 1) := by decide +kernel
theorem dX12_layRows_287 : decode cX12_layRows 287 = .ok (.aload_n 0, 1) := by decide +kernel
theorem dX12_layRows_288 : decode cX12_layRows 288 = .ok (.iload_n 1, 1) := by decide +kernel
theorem dX12_layRows_289 : decode cX12_layRows 289 = .ok (.iload_n 2, 1) := by decide +kernel
theorem dX12_layRows_290 : decode cX12_layRows 290 = .ok (.invokevirtual 171, 3) := by decide +kernel
theorem dX12_layRows_293 : decode cX12_layRows 293 = .ok (.invokevirtual 175, 3) := by decide +kernel
theorem dX12_layRows_296 : decode cX12_layRows 296 = .ok (.iinc 2 (-1), 3) := by decide +kernel
theorem dX12_layRows_299 : decode cX12_layRows 299 = .ok (.goto (-120), 3) := by decide +kernel
theorem dX12_layRows_302 : decode cX12_layRows 302 = .ok (.iinc 1 (-1), 3) := by decide +kernel
theorem dX12_layRows_305 : decode cX12_layRows 305 = .ok (.goto (-135), 3) := by decide +kernel
theorem dX12_layRows_308 : decode cX12_layRows 308 = .ok (.return_, 1) := by decide +kernel
set_option maxRecDepth 20000 in
theorem ggX12_layTextRows_X12_layRows : GoodIn wsX12_layTextRows wsX12_layRows := goodIn_r _ [11, 12, 13, 14, 15, 16, 17, 4, 18, 19, 20, 21, 10, 22, 23, 24, 25, 26, 27, 5, 28, 29, 30, 31, 32, 33, 34, 35, 36, 37, 38, 39, 40, 41, 42, 43, 44, 45, 46, 47, 48, 49, 50, 51, 52, 53, 54, 55, 56, 57, 58, 59, 60, 61, 62, 63, 64, 65, 66, 67] (by decide +kernel) (by decide +kernel)
set_option maxRecDepth 20000 in
theorem gX12_layTextRows_X12_layRows : GoodIn wsX12_layTextRows (wsV RX12 178 RX12 yX12_layRows wsX12_layRows) := goodIn_app (goodIn_of _ (by decide +kernel)) ggX12_layTextRows_X12_layRows
theorem dX12_layTextRows_0 : decode cX12_layTextRows 0 = .ok (.bipush 49, 2) := by decide +kernel
theorem dX12_layTextRows_2 : decode cX12_layTextRows 2 = .ok (.aload_n 0, 1) := by decide +kernel
theorem dX12_layTextRows_3 : decode cX12_layTextRows 3 = .ok (.getfield 105, 3) := by decide +kernel
theorem dX12_layTextRows_6 : decode cX12_layTextRows 6 = .ok (.imul, 1) := by decide +kernel
theorem dX12_layTextRows_7 : decode cX12_layTextRows 7 = .ok (.aload_n 0, 1) := by decide +kernel
theorem dX12_layTextRows_8 : decode cX12_layTextRows 8 = .ok (.getfield 140, 3) := by decide +kernel
theorem dX12_layTextRows_11 : decode cX12_layTextRows 11 = .ok (.iadd, 1) := by decide +kernel
theorem dX12_layTextRows_12 : decode cX12_layTextRows 12 = .ok (.istore_n 1, 1) := by decide +kernel
theorem dX12_layTextRows_13 : decode cX12_layTextRows 13 = .ok (.aload_n 0, 1) := by decide +kernel
theorem dX12_layTextRows_14 : decode cX12_layTextRows 14 = .ok (.aload_n 0, 1) := by decide +kernel
theorem dX12_layTextRows_15 : decode cX12_layTextRows 15 = .ok (.getfield 40, 3) := by decide +kernel
theorem dX12_layTextRows_18 : decode cX12_layTextRows 18 = .ok (.iload_n 1, 1) := by decide +kernel
theorem dX12_layTextRows_19 : decode cX12_layTextRows 19 = .ok (.iaload, 1) := by decide +kernel
theorem dX12_layTextRows_20 : decode cX12_layTextRows 20 = .ok (.putfield 165, 3) := by decide +kernel
theorem dX12_layTextRows_23 : decode cX12_layTextRows 23 = .ok (.iconst 0, 1) := by decide +kernel
theorem dX12_layTextRows_24 : decode cX12_layTextRows 24 = .ok (.istore_n 2, 1) := by decide +kernel
theorem dX12_layTextRows_25 : decode cX12_layTextRows 25 = .ok (.iload_n 2, 1) := by decide +kernel
theorem dX12_layTextRows_26 : decode cX12_layTextRows 26 = .ok (.aload_n 0, 1) := by decide +kernel
theorem dX12_layTextRows_27 : decode cX12_layTextRows 27 = .ok (.getfield 165, 3) := by decide +kernel
theorem dX12_layTextRows_30 : decode cX12_layTextRows 30 = .ok (.if_icmp .ge 34, 3) := by decide +kernel
theorem dX12_layTextRows_33 : decode cX12_layTextRows 33 = .ok (.aload_n 0, 1) := by decide +kernel
theorem dX12_layTextRows_34 : decode cX12_layTextRows 34 = .ok (.getfield 62, 3) := by decide +kernel
theorem dX12_layTextRows_37 : decode cX12_layTextRows 37 = .ok (.iload_n 2, 1) := by decide +kernel
theorem dX12_layTextRows_38 : decode cX12_layTextRows 38 = .ok (.aload_n 0, 1) := by decide +kernel
theorem dX12_layTextRows_39 : decode cX12_layTextRows 39 = .ok (.getfield 43, 3) := by decide +kernel
theorem dX12_layTextRows_42 : decode cX12_layTextRows 42 = .ok (.iload_n 1, 1) := by decide +kernel
theorem dX12_layTextRows_43 : decode cX12_layTextRows 43 = .ok (.iaload, 1) := by decide +kernel
theorem dX12_layTextRows_44 : decode cX12_layTextRows 44 = .ok (.iconst 2, 1) := by decide +kernel
theorem dX12_layTextRows_45 : decode cX12_layTextRows 45 = .ok (.aload_n 0, 1) := by decide +kernel
theorem dX12_layTextRows_46 : decode cX12_layTextRows 46 = .ok (.getfield 165, 3) := by decide +kernel
theorem dX12_layTextRows_49 : decode cX12_layTextRows 49 = .ok (.iconst 1, 1) := by decide +kernel
theorem dX12_layTextRows_50 : decode cX12_layTextRows 50 = .ok (.isub, 1) := by decide +kernel
theorem dX12_layTextRows_51 : decode cX12_layTextRows 51 = .ok (.iload_n 2, 1) := by decide +kernel
theorem dX12_layTextRows_52 : decode cX12_layTextRows 52 = .ok (.isub, 1) := by decide +kernel
theorem dX12_layTextRows_53 : decode cX12_layTextRows 53 = .ok (.imul, 1) := by decide +kernel
theorem dX12_layTextRows_54 : decode cX12_layTextRows 54 = .ok (.ishr, 1) := by decide +kernel
theorem dX12_layTextRows_55 : decode cX12_layTextRows 55 = .ok (.iconst 3, 1) := by decide +kernel
theorem dX12_layTextRows_56 : decode cX12_layTextRows 56 = .ok (.iand, 1) := by decide +kernel
theorem dX12_layTextRows_57 : decode cX12_layTextRows 57 = .ok (.iastore, 1) := by decide +kernel
theorem dX12_layTextRows_58 : decode cX12_layTextRows 58 = .ok (.iinc 2 1, 3) := by decide +kernel
theorem dX12_layTextRows_61 : decode cX12_layTextRows 61 = .ok (.goto (-36), 3) := by decide +kernel
theorem dX12_layTextRows_64 : decode cX12_layTextRows 64 = .ok (.aload_n 0, 1) := by decide +kernel
theorem dX12_layTextRows_65 : decode cX12_layTextRows 65 = .ok (.invokevirtual 178, 3) := by decide +kernel
theorem dX12_layTextRows_68 : decode cX12_layTextRows 68 = .ok (.return_, 1) := by decide +kernel
set_option maxRecDepth 20000 in
theorem ggX12_ways_X12_layText : GoodIn wsX12_ways wsX12_layText := goodIn_r _ [8, 9, 10, 11, 12, 13, 14, 15, 16, 7, 17, 18, 19, 20, 21, 22, 23, 24, 25, 26, 27, 28, 29, 30, 31, 32, 33, 34, 35, 36, 37, 38, 39, 40, 41, 42, 43, 44, 45, 46, 47, 48, 74, 75, 76, 77, 78, 79, 80, 81, 82, 83, 84, 85, 86, 87, 88, 89, 90, 91, 92, 93, 94, 95, 96, 97, 98, 99, 100, 101, 102, 103, 104, 105, 106, 107, 108, 109] (by decide +kernel) (by decide +kernel)
set_option maxRecDepth 20000 in
theorem gX12_ways_X12_layText : GoodIn wsX12_ways (wsV RX12 162 RX12 yX12_layText wsX12_layText) := goodIn_app (goodIn_of _ (by decide +kernel)) ggX12_ways_X12_layText
set_option maxRecDepth 20000 in
theorem ggX12_ways_X12_layTextRows : GoodIn wsX12_ways wsX12_layTextRows := goodIn_r _ [52, 9, 10, 13, 53, 54, 27, 55, 56, 57, 7, 58, 59, 12, 60, 61, 1, 19, 41, 62, 63, 64, 65, 66, 67, 68, 69, 20, 70, 71, 72, 73, 74, 75, 76, 77, 78, 79, 80, 81, 82, 83, 84, 85, 86, 87, 88, 89, 90, 91, 92, 93, 94, 95, 96, 97, 98, 99, 100, 101, 102, 103, 104, 105, 106, 107, 108, 109] (by decide +kernel) (by decide +kernel)
set_option maxRecDepth 20000 in
theorem gX12_ways_X12_layTextRows : GoodIn wsX12_ways (wsV RX12 181 RX12 yX12_layTextRows wsX12_layTextRows) := goodIn_app (goodIn_of _ (by decide +kernel)) ggX12_ways_X12_layTextRows
theorem dX12_ways_0 : decode cX12_ways 0 = .ok (.aload_n 0, 1) := by decide +kernel
theorem dX12_ways_1 : decode cX12_ways 1 = .ok (.invokevirtual 162, 3) := by decide +kernel
theorem dX12_ways_4 : decode cX12_ways 4 = .ok (.istore_n 1, 1) := by decide +kernel
theorem dX12_ways_5 : decode cX12_ways 5 = .ok (.iload_n 1, 1) := by decide +kernel
theorem dX12_ways_6 : decode cX12_ways 6 = .ok (.ifCond .ge 5, 3) := by decide +kernel
theorem dX12_ways_9 : decode cX12_ways 9 = .ok (.iload_n 1, 1) := by decide +kernel
theorem dX12_ways_10 : decode cX12_ways 10 = .ok (.ireturn, 1) := by decide +kernel
theorem dX12_ways_11 : decode cX12_ways 11 = .ok (.aload_n 0, 1) := by decide +kernel
theorem dX12_ways_12 : decode cX12_ways 12 = .ok (.invokevirtual 181, 3) := by decide +kernel
theorem dX12_ways_15 : decode cX12_ways 15 = .ok (.aload_n 0, 1) := by decide +kernel
theorem dX12_ways_16 : decode cX12_ways 16 = .ok (.getfield 75, 3) := by decide +kernel
theorem dX12_ways_19 : decode cX12_ways 19 = .ok (.iconst 0, 1) := by decide +kernel
theorem dX12_ways_20 : decode cX12_ways 20 = .ok (.laload, 1) := by decide +kernel
theorem dX12_ways_21 : decode cX12_ways 21 = .ok (.lstore_n 2, 1) := by decide +kernel
theorem dX12_ways_22 : decode cX12_ways 22 = .ok (.lload_n 2, 1) := by decide +kernel
theorem dX12_ways_23 : decode cX12_ways 23 = .ok (.ldc2_w 184, 3) := by decide +kernel
theorem dX12_ways_26 : decode cX12_ways 26 = .ok (.lcmp, 1) := by decide +kernel
theorem dX12_ways_27 : decode cX12_ways 27 = .ok (.ifCond .le 8, 3) := by decide +kernel
theorem dX12_ways_30 : decode cX12_ways 30 = .ok (.ldc 186, 2) := by decide +kernel
theorem dX12_ways_32 : decode cX12_ways 32 = .ok (.goto 5, 3) := by decide +kernel
theorem dX12_ways_35 : decode cX12_ways 35 = .ok (.lload_n 2, 1) := by decide +kernel
theorem dX12_ways_36 : decode cX12_ways 36 = .ok (.l2i, 1) := by decide +kernel
theorem dX12_ways_37 : decode cX12_ways 37 = .ok (.ireturn, 1) := by decide +kernel
set_option maxRecDepth 20000 in
theorem ggX12_kept_X12_in : GoodIn wsX12_kept wsX12_in := goodIn_r _ [12] (by decide +kernel) (by decide +kernel)
set_option maxRecDepth 20000 in
theorem gX12_kept_X12_in : GoodIn wsX12_kept (va_wsS RX12 93 yX12_in wsX12_in) := goodIn_app (goodIn_of _ (by decide +kernel)) ggX12_kept_X12_in
set_option maxRecDepth 20000 in
theorem ggX12_kept_X12_layText : GoodIn wsX12_kept wsX12_layText := goodIn_r _ [16, 17, 1, 18, 19, 20, 21, 22, 23, 11, 24, 25, 26, 3, 27, 28, 29, 30, 31, 32, 33, 34, 35, 36, 37, 38, 39, 40, 41, 42, 43, 44, 45, 46, 47, 48, 49, 50, 51, 52, 53, 54, 75, 76, 77, 78, 79, 80, 81, 82, 83, 84, 85, 86, 87, 88, 89, 90, 91, 92, 93, 94, 95, 96, 97, 98, 99, 100, 101, 102, 103, 104, 105, 106, 107, 108, 109, 110] (by decide +kernel) (by decide +kernel)
set_option maxRecDepth 20000 in
theorem gX12_kept_X12_layText : GoodIn wsX12_kept (wsV RX12 162 RX12 yX12_layText wsX12_layText) := goodIn_app (goodIn_of _ (by decide +kernel)) ggX12_kept_X12_layText
set_option maxRecDepth 20000 in
theorem ggX12_kept_X12_layTextRows : GoodIn wsX12_kept wsX12_layTextRows := goodIn_r _ [58, 17, 1, 20, 2, 4, 33, 59, 60, 61, 11, 62, 5, 19, 6, 7, 8, 26, 47, 63, 64, 65, 66, 67, 68, 69, 70, 3, 71, 72, 73, 74, 75, 76, 77, 78, 79, 80, 81, 82, 83, 84, 85, 86, 87, 88, 89, 90, 91, 92, 93, 94, 95, 96, 97, 98, 99, 100, 101, 102, 103, 104, 105, 106, 107, 108, 109, 110] (by decide +kernel) (by decide +kernel)
set_option maxRecDepth 20000 in
theorem gX12_kept_X12_layTextRows : GoodIn wsX12_kept (wsV RX12 181 RX12 yX12_layTextRows wsX12_layTextRows) := goodIn_app (goodIn_of _ (by decide +kernel)) ggX12_kept_X12_layTextRows
theorem dX12_kept_0 : decode cX12_kept 0 = .ok (.iload_n 1, 1) := by decide +kernel
theorem dX12_kept_1 : decode cX12_kept 1 = .ok (.iconst 0, 1) := by decide +kernel
theorem dX12_kept_2 : decode cX12_kept 2 = .ok (.aload_n 0, 1) := by decide +kernel
theorem dX12_kept_3 : decode cX12_kept 3 = .ok (.getfield 140, 3) := by decide +kernel
theorem dX12_kept_6 : decode cX12_kept 6 = .ok (.iconst 1, 1) := by decide +kernel
theorem dX12_kept_7 : decode cX12_kept 7 = .ok (.isub, 1) := by decide +kernel
theorem dX12_kept_8 : decode cX12_kept 8 = .ok (.invokestatic 93, 3) := by decide +kernel
theorem dX12_kept_11 : decode cX12_kept 11 = .ok (.ifCond .ne 6, 3) := by decide +kernel
theorem dX12_kept_14 : decode cX12_kept 14 = .ok (.bipush (-2), 2) := by decide +kernel
theorem dX12_kept_16 : decode cX12_kept 16 = .ok (.ireturn, 1) := by decide +kernel
theorem dX12_kept_17 : decode cX12_kept 17 = .ok (.aload_n 0, 1) := by decide +kernel
theorem dX12_kept_18 : decode cX12_kept 18 = .ok (.invokevirtual 162, 3) := by decide +kernel
theorem dX12_kept_21 : decode cX12_kept 21 = .ok (.istore_n 2, 1) := by decide +kernel
theorem dX12_kept_22 : decode cX12_kept 22 = .ok (.iload_n 2, 1) := by decide +kernel
theorem dX12_kept_23 : decode cX12_kept 23 = .ok (.ifCond .ge 5, 3) := by decide +kernel
theorem dX12_kept_26 : decode cX12_kept 26 = .ok (.iload_n 2, 1) := by decide +kernel
theorem dX12_kept_27 : decode cX12_kept 27 = .ok (.ireturn, 1) := by decide +kernel
theorem dX12_kept_28 : decode cX12_kept 28 = .ok (.aload_n 0, 1) := by decide +kernel
theorem dX12_kept_29 : decode cX12_kept 29 = .ok (.invokevirtual 181, 3) := by decide +kernel
theorem dX12_kept_32 : decode cX12_kept 32 = .ok (.lconst 0, 1) := by decide +kernel
theorem dX12_kept_33 : decode cX12_kept 33 = .ok (.lstore_n 3, 1) := by decide +kernel
theorem dX12_kept_34 : decode cX12_kept 34 = .ok (.iconst 0, 1) := by decide +kernel
theorem dX12_kept_35 : decode cX12_kept 35 = .ok (.istore 5, 2) := by decide +kernel
theorem dX12_kept_37 : decode cX12_kept 37 = .ok (.iload 5, 2) := by decide +kernel
theorem dX12_kept_39 : decode cX12_kept 39 = .ok (.aload_n 0, 1) := by decide +kernel
theorem dX12_kept_40 : decode cX12_kept 40 = .ok (.getfield 165, 3) := by decide +kernel
theorem dX12_kept_43 : decode cX12_kept 43 = .ok (.if_icmp .ge 98, 3) := by decide +kernel
theorem dX12_kept_46 : decode cX12_kept 46 = .ok (.bipush 13, 2) := by decide +kernel
theorem dX12_kept_48 : decode cX12_kept 48 = .ok (.iload_n 1, 1) := by decide +kernel
theorem dX12_kept_49 : decode cX12_kept 49 = .ok (.imul, 1) := by decide +kernel
theorem dX12_kept_50 : decode cX12_kept 50 = .ok (.iload 5, 2) := by decide +kernel
theorem dX12_kept_52 : decode cX12_kept 52 = .ok (.iadd, 1) := by decide +kernel
theorem dX12_kept_53 : decode cX12_kept 53 = .ok (.istore 6, 2) := by decide +kernel
theorem dX12_kept_55 : decode cX12_kept 55 = .ok (.aload_n 0, 1) := by decide +kernel
theorem dX12_kept_56 : decode cX12_kept 56 = .ok (.getfield 34, 3) := by decide +kernel
theorem dX12_kept_59 : decode cX12_kept 59 = .ok (.iload_n 1, 1) := by decide +kernel
theorem dX12_kept_60 : decode cX12_kept 60 = .ok (.iaload, 1) := by decide +kernel
theorem dX12_kept_61 : decode cX12_kept 61 = .ok (.aload_n 0, 1) := by decide +kernel
theorem dX12_kept_62 : decode cX12_kept 62 = .ok (.getfield 62, 3) := by decide +kernel
theorem dX12_kept_65 : decode cX12_kept 65 = .ok (.iload 5, 2) := by decide +kernel
theorem dX12_kept_67 : decode cX12_kept 67 = .ok (.iaload, 1) := by decide +kernel
theorem dX12_kept_68 : decode cX12_kept 68 = .ok (.if_icmp .ne 34, 3) := by decide +kernel
theorem dX12_kept_71 : decode cX12_kept 71 = .ok (.aload_n 0, 1) := by decide +kernel
theorem dX12_kept_72 : decode cX12_kept 72 = .ok (.getfield 65, 3) := by decide +kernel
theorem dX12_kept_75 : decode cX12_kept 75 = .ok (.iload 6, 2) := by decide +kernel
theorem dX12_kept_77 : decode cX12_kept 77 = .ok (.iaload, 1) := by decide +kernel
theorem dX12_kept_78 : decode cX12_kept 78 = .ok (.aload_n 0, 1) := by decide +kernel
theorem dX12_kept_79 : decode cX12_kept 79 = .ok (.getfield 68, 3) := by decide +kernel
theorem dX12_kept_82 : decode cX12_kept 82 = .ok (.iload 6, 2) := by decide +kernel
theorem dX12_kept_84 : decode cX12_kept 84 = .ok (.bipush 14, 2) := by decide +kernel
theorem dX12_kept_86 : decode cX12_kept 86 = .ok (.iadd, 1) := by decide +kernel
theorem dX12_kept_87 : decode cX12_kept 87 = .ok (.iaload, 1) := by decide +kernel
theorem dX12_kept_88 : decode cX12_kept 88 = .ok (.iadd, 1) := by decide +kernel
theorem dX12_kept_89 : decode cX12_kept 89 = .ok (.aload_n 0, 1) := by decide +kernel
theorem dX12_kept_90 : decode cX12_kept 90 = .ok (.getfield 68, 3) := by decide +kernel
theorem dX12_kept_93 : decode cX12_kept 93 = .ok (.iconst 0, 1) := by decide +kernel
theorem dX12_kept_94 : decode cX12_kept 94 = .ok (.iaload, 1) := by decide +kernel
theorem dX12_kept_95 : decode cX12_kept 95 = .ok (.if_icmp .ne 7, 3) := by decide +kernel
theorem dX12_kept_98 : decode cX12_kept 98 = .ok (.iconst 1, 1) := by decide +kernel
theorem dX12_kept_99 : decode cX12_kept 99 = .ok (.goto 4, 3) := by decide +kernel
theorem dX12_kept_102 : decode cX12_kept 102 = .ok (.iconst 0, 1) := by decide +kernel
theorem dX12_kept_103 : decode cX12_kept 103 = .ok (.istore 7, 2) := by decide +kernel
theorem dX12_kept_105 : decode cX12_kept 105 = .ok (.lload_n 3, 1) := by decide +kernel
theorem dX12_kept_106 : decode cX12_kept 106 = .ok (.iload 7, 2) := by decide +kernel
theorem dX12_kept_108 : decode cX12_kept 108 = .ok (.ifCond .eq 24, 3) := by decide +kernel
theorem dX12_kept_111 : decode cX12_kept 111 = .ok (.aload_n 0, 1) := by decide +kernel
theorem dX12_kept_112 : decode cX12_kept 112 = .ok (.getfield 71, 3) := by decide +kernel
theorem dX12_kept_115 : decode cX12_kept 115 = .ok (.iload 6, 2) := by decide +kernel
theorem dX12_kept_117 : decode cX12_kept 117 = .ok (.laload, 1) := by decide +kernel
theorem dX12_kept_118 : decode cX12_kept 118 = .ok (.aload_n 0, 1) := by decide +kernel
theorem dX12_kept_119 : decode cX12_kept 119 = .ok (.getfield 75, 3) := by decide +kernel
theorem dX12_kept_122 : decode cX12_kept 122 = .ok (.iload 6, 2) := by decide +kernel
theorem dX12_kept_124 : decode cX12_kept 124 = .ok (.bipush 14, 2) := by decide +kernel
theorem dX12_kept_126 : decode cX12_kept 126 = .ok (.iadd, 1) := by decide +kernel
theorem dX12_kept_127 : decode cX12_kept 127 = .ok (.laload, 1) := by decide +kernel
theorem dX12_kept_128 : decode cX12_kept 128 = .ok (.lmul, 1) := by decide +kernel
theorem dX12_kept_129 : decode cX12_kept 129 = .ok (.goto 4, 3) := by decide +kernel
theorem dX12_kept_132 : decode cX12_kept 132 = .ok (.lconst 0, 1) := by decide +kernel
theorem dX12_kept_133 : decode cX12_kept 133 = .ok (.ladd, 1) := by decide +kernel
theorem dX12_kept_134 : decode cX12_kept 134 = .ok (.lstore_n 3, 1) := by decide +kernel
theorem dX12_kept_135 : decode cX12_kept 135 = .ok (.iinc 5 1, 3) := by decide +kernel
theorem dX12_kept_138 : decode cX12_kept 138 = .ok (.goto (-101), 3) := by decide +kernel
theorem dX12_kept_141 : decode cX12_kept 141 = .ok (.lload_n 3, 1) := by decide +kernel
theorem dX12_kept_142 : decode cX12_kept 142 = .ok (.lconst 0, 1) := by decide +kernel
theorem dX12_kept_143 : decode cX12_kept 143 = .ok (.lcmp, 1) := by decide +kernel
theorem dX12_kept_144 : decode cX12_kept 144 = .ok (.ifCond .ne 7, 3) := by decide +kernel
theorem dX12_kept_147 : decode cX12_kept 147 = .ok (.iconst 0, 1) := by decide +kernel
theorem dX12_kept_148 : decode cX12_kept 148 = .ok (.goto 19, 3) := by decide +kernel
theorem dX12_kept_151 : decode cX12_kept 151 = .ok (.lload_n 3, 1) := by decide +kernel
theorem dX12_kept_152 : decode cX12_kept 152 = .ok (.aload_n 0, 1) := by decide +kernel
theorem dX12_kept_153 : decode cX12_kept 153 = .ok (.getfield 75, 3) := by decide +kernel
theorem dX12_kept_156 : decode cX12_kept 156 = .ok (.iconst 0, 1) := by decide +kernel
theorem dX12_kept_157 : decode cX12_kept 157 = .ok (.laload, 1) := by decide +kernel
theorem dX12_kept_158 : decode cX12_kept 158 = .ok (.lcmp, 1) := by decide +kernel
theorem dX12_kept_159 : decode cX12_kept 159 = .ok (.ifCond .ne 7, 3) := by decide +kernel
theorem dX12_kept_162 : decode cX12_kept 162 = .ok (.iconst 2, 1) := by decide +kernel
theorem dX12_kept_163 : decode cX12_kept 163 = .ok (.goto 4, 3) := by decide +kernel
theorem dX12_kept_166 : decode cX12_kept 166 = .ok (.iconst 1, 1) := by decide +kernel
theorem dX12_kept_167 : decode cX12_kept 167 = .ok (.ireturn, 1) := by decide +kernel
set_option maxRecDepth 20000 in
theorem ggX12_example_X12_turn : GoodIn wsX12_example wsX12_turn := goodIn_r _ [10, 11, 12, 13, 14, 15, 16, 17, 18, 19, 20, 21, 22, 23, 24, 25, 26, 27, 28, 29, 30, 31, 32, 33, 34, 35, 36, 37, 38, 39, 40, 41, 42, 43, 44, 45, 46, 47] (by decide +kernel) (by decide +kernel)
set_option maxRecDepth 20000 in
theorem gX12_example_X12_turn : GoodIn wsX12_example (wsV RX12 108 RX12 yX12_turn wsX12_turn) := goodIn_app (goodIn_of _ (by decide +kernel)) ggX12_example_X12_turn
theorem dX12_example_0 : decode cX12_example 0 = .ok (.aload_n 0, 1) := by decide +kernel
theorem dX12_example_1 : decode cX12_example 1 = .ok (.getfield 187, 3) := by decide +kernel
theorem dX12_example_4 : decode cX12_example 4 = .ok (.iconst 3, 1) := by decide +kernel
theorem dX12_example_5 : decode cX12_example 5 = .ok (.if_icmp .ne 6, 3) := by decide +kernel
theorem dX12_example_8 : decode cX12_example 8 = .ok (.bipush (-4), 2) := by decide +kernel
theorem dX12_example_10 : decode cX12_example 10 = .ok (.ireturn, 1) := by decide +kernel
theorem dX12_example_11 : decode cX12_example 11 = .ok (.aload_n 0, 1) := by decide +kernel
theorem dX12_example_12 : decode cX12_example 12 = .ok (.getfield 25, 3) := by decide +kernel
theorem dX12_example_15 : decode cX12_example 15 = .ok (.aload_n 0, 1) := by decide +kernel
theorem dX12_example_16 : decode cX12_example 16 = .ok (.getfield 187, 3) := by decide +kernel
theorem dX12_example_19 : decode cX12_example 19 = .ok (.aload_n 0, 1) := by decide +kernel
theorem dX12_example_20 : decode cX12_example 20 = .ok (.getfield 140, 3) := by decide +kernel
theorem dX12_example_23 : decode cX12_example 23 = .ok (.iastore, 1) := by decide +kernel
theorem dX12_example_24 : decode cX12_example 24 = .ok (.iconst 0, 1) := by decide +kernel
theorem dX12_example_25 : decode cX12_example 25 = .ok (.istore_n 1, 1) := by decide +kernel
theorem dX12_example_26 : decode cX12_example 26 = .ok (.iload_n 1, 1) := by decide +kernel
theorem dX12_example_27 : decode cX12_example 27 = .ok (.aload_n 0, 1) := by decide +kernel
theorem dX12_example_28 : decode cX12_example 28 = .ok (.getfield 140, 3) := by decide +kernel
theorem dX12_example_31 : decode cX12_example 31 = .ok (.if_icmp .ge 29, 3) := by decide +kernel
theorem dX12_example_34 : decode cX12_example 34 = .ok (.aload_n 0, 1) := by decide +kernel
theorem dX12_example_35 : decode cX12_example 35 = .ok (.getfield 28, 3) := by decide +kernel
theorem dX12_example_38 : decode cX12_example 38 = .ok (.bipush 6, 2) := by decide +kernel
theorem dX12_example_40 : decode cX12_example 40 = .ok (.aload_n 0, 1) := by decide +kernel
theorem dX12_example_41 : decode cX12_example 41 = .ok (.getfield 187, 3) := by decide +kernel
theorem dX12_example_44 : decode cX12_example 44 = .ok (.imul, 1) := by decide +kernel
theorem dX12_example_45 : decode cX12_example 45 = .ok (.iload_n 1, 1) := by decide +kernel
theorem dX12_example_46 : decode cX12_example 46 = .ok (.iadd, 1) := by decide +kernel
theorem dX12_example_47 : decode cX12_example 47 = .ok (.aload_n 0, 1) := by decide +kernel
theorem dX12_example_48 : decode cX12_example 48 = .ok (.getfield 22, 3) := by decide +kernel
theorem dX12_example_51 : decode cX12_example 51 = .ok (.iload_n 1, 1) := by decide +kernel
theorem dX12_example_52 : decode cX12_example 52 = .ok (.iaload, 1) := by decide +kernel
theorem dX12_example_53 : decode cX12_example 53 = .ok (.iastore, 1) := by decide +kernel
theorem dX12_example_54 : decode cX12_example 54 = .ok (.iinc 1 1, 3) := by decide +kernel
theorem dX12_example_57 : decode cX12_example 57 = .ok (.goto (-31), 3) := by decide +kernel
theorem dX12_example_60 : decode cX12_example 60 = .ok (.aload_n 0, 1) := by decide +kernel
theorem dX12_example_61 : decode cX12_example 61 = .ok (.dup, 1) := by decide +kernel
theorem dX12_example_62 : decode cX12_example 62 = .ok (.getfield 187, 3) := by decide +kernel
theorem dX12_example_65 : decode cX12_example 65 = .ok (.iconst 1, 1) := by decide +kernel
theorem dX12_example_66 : decode cX12_example 66 = .ok (.iadd, 1) := by decide +kernel
theorem dX12_example_67 : decode cX12_example 67 = .ok (.putfield 187, 3) := by decide +kernel
theorem dX12_example_70 : decode cX12_example 70 = .ok (.aload_n 0, 1) := by decide +kernel
theorem dX12_example_71 : decode cX12_example 71 = .ok (.invokevirtual 108, 3) := by decide +kernel
theorem dX12_example_74 : decode cX12_example 74 = .ok (.aload_n 0, 1) := by decide +kernel
theorem dX12_example_75 : decode cX12_example 75 = .ok (.getfield 187, 3) := by decide +kernel
theorem dX12_example_78 : decode cX12_example 78 = .ok (.iconst 1, 1) := by decide +kernel
theorem dX12_example_79 : decode cX12_example 79 = .ok (.isub, 1) := by decide +kernel
theorem dX12_example_80 : decode cX12_example 80 = .ok (.ireturn, 1) := by decide +kernel
set_option maxRecDepth 20000 in
theorem ggX12_forget_X12_turn : GoodIn wsX12_forget wsX12_turn := goodIn_r _ [6, 7, 8, 9, 10, 11, 12, 13, 14, 15, 16, 17, 18, 19, 20, 21, 22, 23, 24, 25, 26, 27, 28, 29, 30, 31, 32, 33, 34, 35, 36, 37, 38, 39, 40, 41, 42, 43] (by decide +kernel) (by decide +kernel)
set_option maxRecDepth 20000 in
theorem gX12_forget_X12_turn : GoodIn wsX12_forget (wsV RX12 108 RX12 yX12_turn wsX12_turn) := goodIn_app (goodIn_of _ (by decide +kernel)) ggX12_forget_X12_turn
theorem dX12_forget_0 : decode cX12_forget 0 = .ok (.aload_n 0, 1) := by decide +kernel
theorem dX12_forget_1 : decode cX12_forget 1 = .ok (.getfield 187, 3) := by decide +kernel
theorem dX12_forget_4 : decode cX12_forget 4 = .ok (.istore_n 1, 1) := by decide +kernel
theorem dX12_forget_5 : decode cX12_forget 5 = .ok (.aload_n 0, 1) := by decide +kernel
theorem dX12_forget_6 : decode cX12_forget 6 = .ok (.iconst 0, 1) := by decide +kernel
theorem dX12_forget_7 : decode cX12_forget 7 = .ok (.putfield 187, 3) := by decide +kernel
theorem dX12_forget_10 : decode cX12_forget 10 = .ok (.aload_n 0, 1) := by decide +kernel
theorem dX12_forget_11 : decode cX12_forget 11 = .ok (.invokevirtual 108, 3) := by decide +kernel
theorem dX12_forget_14 : decode cX12_forget 14 = .ok (.iload_n 1, 1) := by decide +kernel
theorem dX12_forget_15 : decode cX12_forget 15 = .ok (.ireturn, 1) := by decide +kernel
set_option maxRecDepth 20000 in
theorem ggX12_isExample_X12_in : GoodIn wsX12_isExample wsX12_in := goodIn_r _ [5] (by decide +kernel) (by decide +kernel)
set_option maxRecDepth 20000 in
theorem gX12_isExample_X12_in : GoodIn wsX12_isExample (va_wsS RX12 93 yX12_in wsX12_in) := goodIn_app (goodIn_of _ (by decide +kernel)) ggX12_isExample_X12_in
theorem dX12_isExample_0 : decode cX12_isExample 0 = .ok (.iload_n 1, 1) := by decide +kernel
theorem dX12_isExample_1 : decode cX12_isExample 1 = .ok (.iconst 0, 1) := by decide +kernel
theorem dX12_isExample_2 : decode cX12_isExample 2 = .ok (.aload_n 0, 1) := by decide +kernel
theorem dX12_isExample_3 : decode cX12_isExample 3 = .ok (.getfield 187, 3) := by decide +kernel
theorem dX12_isExample_6 : decode cX12_isExample 6 = .ok (.iconst 1, 1) := by decide +kernel
theorem dX12_isExample_7 : decode cX12_isExample 7 = .ok (.isub, 1) := by decide +kernel
theorem dX12_isExample_8 : decode cX12_isExample 8 = .ok (.invokestatic 93, 3) := by decide +kernel
theorem dX12_isExample_11 : decode cX12_isExample 11 = .ok (.ireturn, 1) := by decide +kernel
set_option maxRecDepth 20000 in
theorem ggX12_near_X12_isExample : GoodIn wsX12_near wsX12_isExample := goodIn_r _ [10, 11, 12, 13, 9, 14, 44, 45, 46, 47, 48, 49, 50, 51, 52, 53, 54, 55, 56, 57, 58, 59, 60, 61, 62, 63, 64, 65, 66, 67, 68, 69, 70, 71, 72, 73, 74, 75, 76, 77, 78, 79] (by decide +kernel) (by decide +kernel)
set_option maxRecDepth 20000 in
theorem gX12_near_X12_isExample : GoodIn wsX12_near (wsV RX12 190 RX12 yX12_isExample wsX12_isExample) := goodIn_app (goodIn_of _ (by decide +kernel)) ggX12_near_X12_isExample
set_option maxRecDepth 20000 in
theorem ggX12_near_X12_take : GoodIn wsX12_near wsX12_take := goodIn_r _ [18, 19, 1, 20, 21, 22, 4, 44, 45, 46, 47, 48, 49, 50, 51, 52, 53, 54, 55, 56, 57, 58, 59, 60, 61, 62, 63, 64, 65, 66, 67, 68, 69, 70, 71, 72, 73, 74, 75, 76, 77, 78, 79] (by decide +kernel) (by decide +kernel)
set_option maxRecDepth 20000 in
theorem gX12_near_X12_take : GoodIn wsX12_near (wsV RX12 146 RX12 yX12_take wsX12_take) := goodIn_app (goodIn_of _ (by decide +kernel)) ggX12_near_X12_take
set_option maxRecDepth 20000 in
theorem ggX12_near_X12_layRows : GoodIn wsX12_near wsX12_layRows := goodIn_r _ [26, 27, 28, 5, 29, 30, 20, 2, 31, 32, 33, 34, 9, 35, 36, 37, 38, 39, 21, 3, 40, 41, 42, 43, 44, 45, 46, 47, 48, 49, 50, 51, 52, 53, 54, 55, 56, 57, 58, 59, 60, 61, 62, 63, 64, 65, 66, 67, 68, 69, 70, 71, 72, 73, 74, 75, 76, 77, 78, 79] (by decide +kernel) (by decide +kernel)
set_option maxRecDepth 20000 in
theorem gX12_near_X12_layRows : GoodIn wsX12_near (wsV RX12 178 RX12 yX12_layRows wsX12_layRows) := goodIn_app (goodIn_of _ (by decide +kernel)) ggX12_near_X12_layRows
theorem dX12_near_0 : decode cX12_near 0 = .ok (.aload_n 0, 1) := by decide +kernel
theorem dX12_near_1 : decode cX12_near 1 = .ok (.iload_n 1, 1) := by decide +kernel
theorem dX12_near_2 : decode cX12_near 2 = .ok (.invokevirtual 190, 3) := by decide +kernel
theorem dX12_near_5 : decode cX12_near 5 = .ok (.ifCond .eq 11, 3) := by decide +kernel
theorem dX12_near_8 : decode cX12_near 8 = .ok (.aload_n 0, 1) := by decide +kernel
theorem dX12_near_9 : decode cX12_near 9 = .ok (.iload_n 2, 1) := by decide +kernel
theorem dX12_near_10 : decode cX12_near 10 = .ok (.invokevirtual 190, 3) := by decide +kernel
theorem dX12_near_13 : decode cX12_near 13 = .ok (.ifCond .ne 5, 3) := by decide +kernel
theorem dX12_near_16 : decode cX12_near 16 = .ok (.iconst (-1), 1) := by decide +kernel
theorem dX12_near_17 : decode cX12_near 17 = .ok (.ireturn, 1) := by decide +kernel
theorem dX12_near_18 : decode cX12_near 18 = .ok (.aload_n 0, 1) := by decide +kernel
theorem dX12_near_19 : decode cX12_near 19 = .ok (.iload_n 1, 1) := by decide +kernel
theorem dX12_near_20 : decode cX12_near 20 = .ok (.invokevirtual 146, 3) := by decide +kernel
theorem dX12_near_23 : decode cX12_near 23 = .ok (.aload_n 0, 1) := by decide +kernel
theorem dX12_near_24 : decode cX12_near 24 = .ok (.aload_n 0, 1) := by decide +kernel
theorem dX12_near_25 : decode cX12_near 25 = .ok (.getfield 25, 3) := by decide +kernel
theorem dX12_near_28 : decode cX12_near 28 = .ok (.iload_n 2, 1) := by decide +kernel
theorem dX12_near_29 : decode cX12_near 29 = .ok (.iaload, 1) := by decide +kernel
theorem dX12_near_30 : decode cX12_near 30 = .ok (.putfield 165, 3) := by decide +kernel
theorem dX12_near_33 : decode cX12_near 33 = .ok (.iconst 0, 1) := by decide +kernel
theorem dX12_near_34 : decode cX12_near 34 = .ok (.istore_n 3, 1) := by decide +kernel
theorem dX12_near_35 : decode cX12_near 35 = .ok (.iload_n 3, 1) := by decide +kernel
theorem dX12_near_36 : decode cX12_near 36 = .ok (.aload_n 0, 1) := by decide +kernel
theorem dX12_near_37 : decode cX12_near 37 = .ok (.getfield 165, 3) := by decide +kernel
theorem dX12_near_40 : decode cX12_near 40 = .ok (.if_icmp .ge 26, 3) := by decide +kernel
theorem dX12_near_43 : decode cX12_near 43 = .ok (.aload_n 0, 1) := by decide +kernel
theorem dX12_near_44 : decode cX12_near 44 = .ok (.getfield 62, 3) := by decide +kernel
theorem dX12_near_47 : decode cX12_near 47 = .ok (.iload_n 3, 1) := by decide +kernel
theorem dX12_near_48 : decode cX12_near 48 = .ok (.aload_n 0, 1) := by decide +kernel
theorem dX12_near_49 : decode cX12_near 49 = .ok (.getfield 28, 3) := by decide +kernel
theorem dX12_near_52 : decode cX12_near 52 = .ok (.bipush 6, 2) := by decide +kernel
theorem dX12_near_54 : decode cX12_near 54 = .ok (.iload_n 2, 1) := by decide +kernel
theorem dX12_near_55 : decode cX12_near 55 = .ok (.imul, 1) := by decide +kernel
theorem dX12_near_56 : decode cX12_near 56 = .ok (.iload_n 3, 1) := by decide +kernel
theorem dX12_near_57 : decode cX12_near 57 = .ok (.iadd, 1) := by decide +kernel
theorem dX12_near_58 : decode cX12_near 58 = .ok (.iaload, 1) := by decide +kernel
theorem dX12_near_59 : decode cX12_near 59 = .ok (.iastore, 1) := by decide +kernel
theorem dX12_near_60 : decode cX12_near 60 = .ok (.iinc 3 1, 3) := by decide +kernel
theorem dX12_near_63 : decode cX12_near 63 = .ok (.goto (-28), 3) := by decide +kernel
theorem dX12_near_66 : decode cX12_near 66 = .ok (.aload_n 0, 1) := by decide +kernel
theorem dX12_near_67 : decode cX12_near 67 = .ok (.invokevirtual 178, 3) := by decide +kernel
theorem dX12_near_70 : decode cX12_near 70 = .ok (.aload_n 0, 1) := by decide +kernel
theorem dX12_near_71 : decode cX12_near 71 = .ok (.getfield 68, 3) := by decide +kernel
theorem dX12_near_74 : decode cX12_near 74 = .ok (.iconst 0, 1) := by decide +kernel
theorem dX12_near_75 : decode cX12_near 75 = .ok (.iaload, 1) := by decide +kernel
theorem dX12_near_76 : decode cX12_near 76 = .ok (.ireturn, 1) := by decide +kernel
set_option maxRecDepth 20000 in
theorem ggX12_totalOf_X12_take : GoodIn wsX12_totalOf wsX12_take := goodIn_r _ [10, 11, 12, 4, 13, 14, 15, 43, 44, 45, 46, 47, 48, 49, 50, 51, 52, 53, 54, 55, 56, 57, 58, 59, 60, 61, 62, 63, 64, 65, 66, 67, 68, 69, 70, 71, 72, 73, 74, 75, 76, 77, 78] (by decide +kernel) (by decide +kernel)
set_option maxRecDepth 20000 in
theorem gX12_totalOf_X12_take : GoodIn wsX12_totalOf (wsV RX12 146 RX12 yX12_take wsX12_take) := goodIn_app (goodIn_of _ (by decide +kernel)) ggX12_totalOf_X12_take
set_option maxRecDepth 20000 in
theorem ggX12_totalOf_X12_layMends : GoodIn wsX12_totalOf wsX12_layMends := goodIn_r _ [19, 2, 5, 20, 21, 4, 22, 23, 24, 25, 9, 26, 27, 28, 29, 30, 31, 32, 33, 34, 35, 36, 37, 38, 39, 13, 40, 41, 42, 43, 44, 45, 46, 47, 48, 49, 50, 51, 52, 53, 54, 55, 56, 57, 58, 59, 60, 61, 62, 63, 64, 65, 66, 67, 68, 69, 70, 71, 72, 73, 74, 75, 76, 77, 78] (by decide +kernel) (by decide +kernel)
set_option maxRecDepth 20000 in
theorem gX12_totalOf_X12_layMends : GoodIn wsX12_totalOf (wsV RX12 143 RX12 yX12_layMends wsX12_layMends) := goodIn_app (goodIn_of _ (by decide +kernel)) ggX12_totalOf_X12_layMends
theorem dX12_totalOf_0 : decode cX12_totalOf 0 = .ok (.iconst 0, 1) := by decide +kernel
theorem dX12_totalOf_1 : decode cX12_totalOf 1 = .ok (.istore_n 1, 1) := by decide +kernel
theorem dX12_totalOf_2 : decode cX12_totalOf 2 = .ok (.iconst 0, 1) := by decide +kernel
theorem dX12_totalOf_3 : decode cX12_totalOf 3 = .ok (.istore_n 2, 1) := by decide +kernel
theorem dX12_totalOf_4 : decode cX12_totalOf 4 = .ok (.iload_n 2, 1) := by decide +kernel
theorem dX12_totalOf_5 : decode cX12_totalOf 5 = .ok (.aload_n 0, 1) := by decide +kernel
theorem dX12_totalOf_6 : decode cX12_totalOf 6 = .ok (.getfield 187, 3) := by decide +kernel
theorem dX12_totalOf_9 : decode cX12_totalOf 9 = .ok (.if_icmp .ge 57, 3) := by decide +kernel
theorem dX12_totalOf_12 : decode cX12_totalOf 12 = .ok (.aload_n 0, 1) := by decide +kernel
theorem dX12_totalOf_13 : decode cX12_totalOf 13 = .ok (.iload_n 2, 1) := by decide +kernel
theorem dX12_totalOf_14 : decode cX12_totalOf 14 = .ok (.invokevirtual 146, 3) := by decide +kernel
theorem dX12_totalOf_17 : decode cX12_totalOf 17 = .ok (.aload_n 0, 1) := by decide +kernel
theorem dX12_totalOf_18 : decode cX12_totalOf 18 = .ok (.invokevirtual 143, 3) := by decide +kernel
theorem dX12_totalOf_21 : decode cX12_totalOf 21 = .ok (.aload_n 0, 1) := by decide +kernel
theorem dX12_totalOf_22 : decode cX12_totalOf 22 = .ok (.getfield 37, 3) := by decide +kernel
theorem dX12_totalOf_25 : decode cX12_totalOf 25 = .ok (.bipush 49, 2) := by decide +kernel
theorem dX12_totalOf_27 : decode cX12_totalOf 27 = .ok (.aload_n 0, 1) := by decide +kernel
theorem dX12_totalOf_28 : decode cX12_totalOf 28 = .ok (.getfield 105, 3) := by decide +kernel
theorem dX12_totalOf_31 : decode cX12_totalOf 31 = .ok (.imul, 1) := by decide +kernel
theorem dX12_totalOf_32 : decode cX12_totalOf 32 = .ok (.aload_n 0, 1) := by decide +kernel
theorem dX12_totalOf_33 : decode cX12_totalOf 33 = .ok (.getfield 133, 3) := by decide +kernel
theorem dX12_totalOf_36 : decode cX12_totalOf 36 = .ok (.iadd, 1) := by decide +kernel
theorem dX12_totalOf_37 : decode cX12_totalOf 37 = .ok (.iaload, 1) := by decide +kernel
theorem dX12_totalOf_38 : decode cX12_totalOf 38 = .ok (.istore_n 3, 1) := by decide +kernel
theorem dX12_totalOf_39 : decode cX12_totalOf 39 = .ok (.iload_n 3, 1) := by decide +kernel
theorem dX12_totalOf_40 : decode cX12_totalOf 40 = .ok (.ldc 124, 2) := by decide +kernel
theorem dX12_totalOf_42 : decode cX12_totalOf 42 = .ok (.if_icmp .ge 9, 3) := by decide +kernel
theorem dX12_totalOf_45 : decode cX12_totalOf 45 = .ok (.iload_n 1, 1) := by decide +kernel
theorem dX12_totalOf_46 : decode cX12_totalOf 46 = .ok (.ldc 124, 2) := by decide +kernel
theorem dX12_totalOf_48 : decode cX12_totalOf 48 = .ok (.if_icmp .lt 8, 3) := by decide +kernel
theorem dX12_totalOf_51 : decode cX12_totalOf 51 = .ok (.ldc 124, 2) := by decide +kernel
theorem dX12_totalOf_53 : decode cX12_totalOf 53 = .ok (.goto 6, 3) := by decide +kernel
theorem dX12_totalOf_56 : decode cX12_totalOf 56 = .ok (.iload_n 1, 1) := by decide +kernel
theorem dX12_totalOf_57 : decode cX12_totalOf 57 = .ok (.iload_n 3, 1) := by decide +kernel
theorem dX12_totalOf_58 : decode cX12_totalOf 58 = .ok (.iadd, 1) := by decide +kernel
theorem dX12_totalOf_59 : decode cX12_totalOf 59 = .ok (.istore_n 1, 1) := by decide +kernel
theorem dX12_totalOf_60 : decode cX12_totalOf 60 = .ok (.iinc 2 1, 3) := by decide +kernel
theorem dX12_totalOf_63 : decode cX12_totalOf 63 = .ok (.goto (-59), 3) := by decide +kernel
theorem dX12_totalOf_66 : decode cX12_totalOf 66 = .ok (.iload_n 1, 1) := by decide +kernel
theorem dX12_totalOf_67 : decode cX12_totalOf 67 = .ok (.ireturn, 1) := by decide +kernel
set_option maxRecDepth 20000 in
theorem ggX12_total_X12_totalOf : GoodIn wsX12_total wsX12_totalOf := goodIn_r _ [6, 7, 8, 9, 10, 1, 11, 12, 13, 5, 14, 15, 16, 17, 18, 19, 20, 21, 22, 23, 24, 25, 26, 27, 28, 29, 30, 31, 32, 33, 34, 35, 36, 37, 38, 39, 40, 41, 42, 43, 44, 45, 46, 47, 48, 49, 50, 51, 52, 53, 54, 55, 56, 57, 58, 59, 60, 61, 62, 63, 64, 65, 66, 67, 68, 69, 70, 71, 72, 73, 74, 75, 76, 77, 78, 79, 80, 81, 82] (by decide +kernel) (by decide +kernel)
set_option maxRecDepth 20000 in
theorem gX12_total_X12_totalOf : GoodIn wsX12_total (wsV RX12 193 RX12 yX12_totalOf wsX12_totalOf) := goodIn_app (goodIn_of _ (by decide +kernel)) ggX12_total_X12_totalOf
theorem dX12_total_0 : decode cX12_total 0 = .ok (.aload_n 0, 1) := by decide +kernel
theorem dX12_total_1 : decode cX12_total 1 = .ok (.invokevirtual 193, 3) := by decide +kernel
theorem dX12_total_4 : decode cX12_total 4 = .ok (.istore_n 1, 1) := by decide +kernel
theorem dX12_total_5 : decode cX12_total 5 = .ok (.iload_n 1, 1) := by decide +kernel
theorem dX12_total_6 : decode cX12_total 6 = .ok (.ldc 124, 2) := by decide +kernel
theorem dX12_total_8 : decode cX12_total 8 = .ok (.if_icmp .lt 8, 3) := by decide +kernel
theorem dX12_total_11 : decode cX12_total 11 = .ok (.bipush (-5), 2) := by decide +kernel
theorem dX12_total_13 : decode cX12_total 13 = .ok (.goto 4, 3) := by decide +kernel
theorem dX12_total_16 : decode cX12_total 16 = .ok (.iload_n 1, 1) := by decide +kernel
theorem dX12_total_17 : decode cX12_total 17 = .ok (.ireturn, 1) := by decide +kernel
theorem dX12_turn_0 : decode cX12_turn 0 = .ok (.iconst 0, 1) := by decide +kernel
theorem dX12_turn_1 : decode cX12_turn 1 = .ok (.istore_n 1, 1) := by decide +kernel
theorem dX12_turn_2 : decode cX12_turn 2 = .ok (.iload_n 1, 1) := by decide +kernel
theorem dX12_turn_3 : decode cX12_turn 3 = .ok (.bipush 6, 2) := by decide +kernel
theorem dX12_turn_5 : decode cX12_turn 5 = .ok (.if_icmp .ge 16, 3) := by decide +kernel
theorem dX12_turn_8 : decode cX12_turn 8 = .ok (.aload_n 0, 1) := by decide +kernel
theorem dX12_turn_9 : decode cX12_turn 9 = .ok (.getfield 78, 3) := by decide +kernel
theorem dX12_turn_12 : decode cX12_turn 12 = .ok (.iload_n 1, 1) := by decide +kernel
theorem dX12_turn_13 : decode cX12_turn 13 = .ok (.iconst 0, 1) := by decide +kernel
theorem dX12_turn_14 : decode cX12_turn 14 = .ok (.bastore, 1) := by decide +kernel
theorem dX12_turn_15 : decode cX12_turn 15 = .ok (.iinc 1 1, 3) := by decide +kernel
theorem dX12_turn_18 : decode cX12_turn 18 = .ok (.goto (-16), 3) := by decide +kernel
theorem dX12_turn_21 : decode cX12_turn 21 = .ok (.return_, 1) := by decide +kernel
set_option maxRecDepth 20000 in
theorem ggX12_more_X12_isName : GoodIn wsX12_more wsX12_isName := goodIn_r _ [11, 12, 13, 10, 14] (by decide +kernel) (by decide +kernel)
set_option maxRecDepth 20000 in
theorem gX12_more_X12_isName : GoodIn wsX12_more (va_wsS RX12 111 yX12_isName wsX12_isName) := goodIn_app (goodIn_of _ (by decide +kernel)) ggX12_more_X12_isName
set_option maxRecDepth 20000 in
theorem ggX12_more_X12_in : GoodIn wsX12_more wsX12_in := goodIn_r _ [14] (by decide +kernel) (by decide +kernel)
set_option maxRecDepth 20000 in
theorem gX12_more_X12_in : GoodIn wsX12_more (va_wsS RX12 93 yX12_in wsX12_in) := goodIn_app (goodIn_of _ (by decide +kernel)) ggX12_more_X12_in
set_option maxRecDepth 20000 in
theorem ggX12_more_X12_layMore : GoodIn wsX12_more wsX12_layMore := goodIn_r _ [18, 19, 4, 20, 21, 2, 3, 5, 6, 7, 22, 23, 24, 10, 25, 1, 26, 27, 28, 29, 30, 31, 32, 33, 34, 35, 36, 37, 38, 39, 40, 41, 42, 43, 44, 45, 46, 47, 48, 49, 50, 51, 52, 53, 54, 55, 56, 57, 58, 59, 60, 61, 62, 63, 64, 65, 66, 67, 68, 69, 70, 71, 72, 73, 74, 75, 76, 77, 78, 79, 80, 81, 82, 83, 84, 85, 86, 87, 88, 89, 90, 91, 92, 93, 94, 95, 96, 97] (by decide +kernel) (by decide +kernel)
set_option maxRecDepth 20000 in
theorem gX12_more_X12_layMore : GoodIn wsX12_more (wsV RX12 196 RX12 yX12_layMore wsX12_layMore) := goodIn_app (goodIn_of _ (by decide +kernel)) ggX12_more_X12_layMore
theorem dX12_more_0 : decode cX12_more 0 = .ok (.iload_n 1, 1) := by decide +kernel
theorem dX12_more_1 : decode cX12_more 1 = .ok (.invokestatic 111, 3) := by decide +kernel
theorem dX12_more_4 : decode cX12_more 4 = .ok (.ifCond .ne 5, 3) := by decide +kernel
theorem dX12_more_7 : decode cX12_more 7 = .ok (.iconst (-1), 1) := by decide +kernel
theorem dX12_more_8 : decode cX12_more 8 = .ok (.ireturn, 1) := by decide +kernel
theorem dX12_more_9 : decode cX12_more 9 = .ok (.iload_n 2, 1) := by decide +kernel
theorem dX12_more_10 : decode cX12_more 10 = .ok (.iconst 0, 1) := by decide +kernel
theorem dX12_more_11 : decode cX12_more 11 = .ok (.iconst 3, 1) := by decide +kernel
theorem dX12_more_12 : decode cX12_more 12 = .ok (.invokestatic 93, 3) := by decide +kernel
theorem dX12_more_15 : decode cX12_more 15 = .ok (.ifCond .ne 6, 3) := by decide +kernel
theorem dX12_more_18 : decode cX12_more 18 = .ok (.bipush (-2), 2) := by decide +kernel
theorem dX12_more_20 : decode cX12_more 20 = .ok (.ireturn, 1) := by decide +kernel
theorem dX12_more_21 : decode cX12_more 21 = .ok (.aload_n 0, 1) := by decide +kernel
theorem dX12_more_22 : decode cX12_more 22 = .ok (.getfield 187, 3) := by decide +kernel
theorem dX12_more_25 : decode cX12_more 25 = .ok (.ifCond .ne 6, 3) := by decide +kernel
theorem dX12_more_28 : decode cX12_more 28 = .ok (.bipush (-3), 2) := by decide +kernel
theorem dX12_more_30 : decode cX12_more 30 = .ok (.ireturn, 1) := by decide +kernel
theorem dX12_more_31 : decode cX12_more 31 = .ok (.aload_n 0, 1) := by decide +kernel
theorem dX12_more_32 : decode cX12_more 32 = .ok (.getfield 78, 3) := by decide +kernel
theorem dX12_more_35 : decode cX12_more 35 = .ok (.iload_n 1, 1) := by decide +kernel
theorem dX12_more_36 : decode cX12_more 36 = .ok (.baload, 1) := by decide +kernel
theorem dX12_more_37 : decode cX12_more 37 = .ok (.ifCond .ne 8, 3) := by decide +kernel
theorem dX12_more_40 : decode cX12_more 40 = .ok (.aload_n 0, 1) := by decide +kernel
theorem dX12_more_41 : decode cX12_more 41 = .ok (.iload_n 1, 1) := by decide +kernel
theorem dX12_more_42 : decode cX12_more 42 = .ok (.invokevirtual 196, 3) := by decide +kernel
theorem dX12_more_45 : decode cX12_more 45 = .ok (.aload_n 0, 1) := by decide +kernel
theorem dX12_more_46 : decode cX12_more 46 = .ok (.getfield 81, 3) := by decide +kernel
theorem dX12_more_49 : decode cX12_more 49 = .ok (.iload_n 1, 1) := by decide +kernel
theorem dX12_more_50 : decode cX12_more 50 = .ok (.iaload, 1) := by decide +kernel
theorem dX12_more_51 : decode cX12_more 51 = .ok (.istore_n 3, 1) := by decide +kernel
theorem dX12_more_52 : decode cX12_more 52 = .ok (.iload_n 3, 1) := by decide +kernel
theorem dX12_more_53 : decode cX12_more 53 = .ok (.ldc 124, 2) := by decide +kernel
theorem dX12_more_55 : decode cX12_more 55 = .ok (.if_icmp .lt 8, 3) := by decide +kernel
theorem dX12_more_58 : decode cX12_more 58 = .ok (.bipush (-5), 2) := by decide +kernel
theorem dX12_more_60 : decode cX12_more 60 = .ok (.goto 45, 3) := by decide +kernel
theorem dX12_more_63 : decode cX12_more 63 = .ok (.iload_n 2, 1) := by decide +kernel
theorem dX12_more_64 : decode cX12_more 64 = .ok (.ifCond .ne 7, 3) := by decide +kernel
theorem dX12_more_67 : decode cX12_more 67 = .ok (.iload_n 3, 1) := by decide +kernel
theorem dX12_more_68 : decode cX12_more 68 = .ok (.goto 37, 3) := by decide +kernel
theorem dX12_more_71 : decode cX12_more 71 = .ok (.iload_n 2, 1) := by decide +kernel
theorem dX12_more_72 : decode cX12_more 72 = .ok (.iconst 1, 1) := by decide +kernel
theorem dX12_more_73 : decode cX12_more 73 = .ok (.if_icmp .ne 12, 3) := by decide +kernel
theorem dX12_more_76 : decode cX12_more 76 = .ok (.aload_n 0, 1) := by decide +kernel
theorem dX12_more_77 : decode cX12_more 77 = .ok (.getfield 84, 3) := by decide +kernel
theorem dX12_more_80 : decode cX12_more 80 = .ok (.iload_n 1, 1) := by decide +kernel
theorem dX12_more_81 : decode cX12_more 81 = .ok (.iaload, 1) := by decide +kernel
theorem dX12_more_82 : decode cX12_more 82 = .ok (.goto 23, 3) := by decide +kernel
theorem dX12_more_85 : decode cX12_more 85 = .ok (.iload_n 2, 1) := by decide +kernel
theorem dX12_more_86 : decode cX12_more 86 = .ok (.iconst 2, 1) := by decide +kernel
theorem dX12_more_87 : decode cX12_more 87 = .ok (.if_icmp .ne 12, 3) := by decide +kernel
theorem dX12_more_90 : decode cX12_more 90 = .ok (.aload_n 0, 1) := by decide +kernel
theorem dX12_more_91 : decode cX12_more 91 = .ok (.getfield 87, 3) := by decide +kernel
theorem dX12_more_94 : decode cX12_more 94 = .ok (.iload_n 1, 1) := by decide +kernel
theorem dX12_more_95 : decode cX12_more 95 = .ok (.iaload, 1) := by decide +kernel
theorem dX12_more_96 : decode cX12_more 96 = .ok (.goto 9, 3) := by decide +kernel
theorem dX12_more_99 : decode cX12_more 99 = .ok (.aload_n 0, 1) := by decide +kernel
theorem dX12_more_100 : decode cX12_more 100 = .ok (.getfield 90, 3) := by decide +kernel
theorem dX12_more_103 : decode cX12_more 103 = .ok (.iload_n 1, 1) := by decide +kernel
theorem dX12_more_104 : decode cX12_more 104 = .ok (.iaload, 1) := by decide +kernel
theorem dX12_more_105 : decode cX12_more 105 = .ok (.ireturn, 1) := by decide +kernel
set_option maxRecDepth 20000 in
theorem ggX12_layMore_X12_totalOf : GoodIn wsX12_layMore wsX12_totalOf := goodIn_r _ [14, 15, 16, 17, 18, 2, 19, 20, 21, 13, 22, 23, 24, 25, 26, 27, 28, 29, 30, 31, 32, 33, 1, 34, 35, 36, 37, 3, 38, 39, 40, 4, 41, 42, 43, 44, 45, 46, 47, 48, 49, 50, 51, 52, 53, 54, 55, 56, 57, 58, 59, 60, 61, 62, 63, 64, 65, 66, 67, 68, 69, 70, 71, 72, 73, 74, 75, 76, 77, 78, 79, 80, 81, 82, 83, 84, 85, 86, 87] (by decide +kernel) (by decide +kernel)
set_option maxRecDepth 20000 in
theorem gX12_layMore_X12_totalOf : GoodIn wsX12_layMore (wsV RX12 193 RX12 yX12_totalOf wsX12_totalOf) := goodIn_app (goodIn_of _ (by decide +kernel)) ggX12_layMore_X12_totalOf
theorem dX12_layMore_0 : decode cX12_layMore 0 = .ok (.iconst 5, 1) := by decide +kernel
theorem dX12_layMore_1 : decode cX12_layMore 1 = .ok (.iload_n 1, 1) := by decide +kernel
theorem dX12_layMore_2 : decode cX12_layMore 2 = .ok (.imul, 1) := by decide +kernel
theorem dX12_layMore_3 : decode cX12_layMore 3 = .ok (.aload_n 0, 1) := by decide +kernel
theorem dX12_layMore_4 : decode cX12_layMore 4 = .ok (.getfield 13, 3) := by decide +kernel
theorem dX12_layMore_7 : decode cX12_layMore 7 = .ok (.iload_n 1, 1) := by decide +kernel
theorem dX12_layMore_8 : decode cX12_layMore 8 = .ok (.iaload, 1) := by decide +kernel
theorem dX12_layMore_9 : decode cX12_layMore 9 = .ok (.iadd, 1) := by decide +kernel
theorem dX12_layMore_10 : decode cX12_layMore 10 = .ok (.istore_n 2, 1) := by decide +kernel
theorem dX12_layMore_11 : decode cX12_layMore 11 = .ok (.ldc 124, 2) := by decide +kernel
theorem dX12_layMore_13 : decode cX12_layMore 13 = .ok (.istore_n 3, 1) := by decide +kernel
theorem dX12_layMore_14 : decode cX12_layMore 14 = .ok (.iconst 0, 1) := by decide +kernel
theorem dX12_layMore_15 : decode cX12_layMore 15 = .ok (.istore 4, 2) := by decide +kernel
theorem dX12_layMore_17 : decode cX12_layMore 17 = .ok (.bipush (-6), 2) := by decide +kernel
theorem dX12_layMore_19 : decode cX12_layMore 19 = .ok (.istore 5, 2) := by decide +kernel
theorem dX12_layMore_21 : decode cX12_layMore 21 = .ok (.bipush (-6), 2) := by decide +kernel
theorem dX12_layMore_23 : decode cX12_layMore 23 = .ok (.istore 6, 2) := by decide +kernel
theorem dX12_layMore_25 : decode cX12_layMore 25 = .ok (.aload_n 0, 1) := by decide +kernel
theorem dX12_layMore_26 : decode cX12_layMore 26 = .ok (.getfield 13, 3) := by decide +kernel
theorem dX12_layMore_29 : decode cX12_layMore 29 = .ok (.iload_n 1, 1) := by decide +kernel
theorem dX12_layMore_30 : decode cX12_layMore 30 = .ok (.dup2, 1) := by decide +kernel
theorem dX12_layMore_31 : decode cX12_layMore 31 = .ok (.iaload, 1) := by decide +kernel
theorem dX12_layMore_32 : decode cX12_layMore 32 = .ok (.iconst 1, 1) := by decide +kernel
theorem dX12_layMore_33 : decode cX12_layMore 33 = .ok (.iadd, 1) := by decide +kernel
theorem dX12_layMore_34 : decode cX12_layMore 34 = .ok (.iastore, 1) := by decide +kernel
theorem dX12_layMore_35 : decode cX12_layMore 35 = .ok (.iconst 0, 1) := by decide +kernel
theorem dX12_layMore_36 : decode cX12_layMore 36 = .ok (.istore 7, 2) := by decide +kernel
theorem dX12_layMore_38 : decode cX12_layMore 38 = .ok (.iload 7, 2) := by decide +kernel
theorem dX12_layMore_40 : decode cX12_layMore 40 = .ok (.bipush 27, 2) := by decide +kernel
theorem dX12_layMore_42 : decode cX12_layMore 42 = .ok (.if_icmp .ge 163, 3) := by decide +kernel
theorem dX12_layMore_45 : decode cX12_layMore 45 = .ok (.aload_n 0, 1) := by decide +kernel
theorem dX12_layMore_46 : decode cX12_layMore 46 = .ok (.getfield 16, 3) := by decide +kernel
theorem dX12_layMore_49 : decode cX12_layMore 49 = .ok (.iload_n 2, 1) := by decide +kernel
theorem dX12_layMore_50 : decode cX12_layMore 50 = .ok (.iload 7, 2) := by decide +kernel
theorem dX12_layMore_52 : decode cX12_layMore 52 = .ok (.ifCond .ne 7, 3) := by decide +kernel
theorem dX12_layMore_55 : decode cX12_layMore 55 = .ok (.iconst 0, 1) := by decide +kernel
theorem dX12_layMore_56 : decode cX12_layMore 56 = .ok (.goto 15, 3) := by decide +kernel
theorem dX12_layMore_59 : decode cX12_layMore 59 = .ok (.iload 7, 2) := by decide +kernel
theorem dX12_layMore_61 : decode cX12_layMore 61 = .ok (.bipush 11, 2) := by decide +kernel
theorem dX12_layMore_63 : decode cX12_layMore 63 = .ok (.if_icmp .ge 7, 3) := by decide +kernel
theorem dX12_layMore_66 : decode cX12_layMore 66 = .ok (.iconst 1, 1) := by decide +kernel
theorem dX12_layMore_67 : decode cX12_layMore 67 = .ok (.goto 4, 3) := by decide +kernel
theorem dX12_layMore_70 : decode cX12_layMore 70 = .ok (.iconst 2, 1) := by decide +kernel
theorem dX12_layMore_71 : decode cX12_layMore 71 = .ok (.iastore, 1) := by decide +kernel
theorem dX12_layMore_72 : decode cX12_layMore 72 = .ok (.aload_n 0, 1) := by decide +kernel
theorem dX12_layMore_73 : decode cX12_layMore 73 = .ok (.getfield 19, 3) := by decide +kernel
theorem dX12_layMore_76 : decode cX12_layMore 76 = .ok (.iconst 4, 1) := by decide +kernel
theorem dX12_layMore_77 : decode cX12_layMore 77 = .ok (.iload_n 2, 1) := by decide +kernel
theorem dX12_layMore_78 : decode cX12_layMore 78 = .ok (.imul, 1) := by decide +kernel
theorem dX12_layMore_79 : decode cX12_layMore 79 = .ok (.iload 7, 2) := by decide +kernel
theorem dX12_layMore_81 : decode cX12_layMore 81 = .ok (.iconst 5, 1) := by decide +kernel
theorem dX12_layMore_82 : decode cX12_layMore 82 = .ok (.if_icmp .ge 10, 3) := by decide +kernel
theorem dX12_layMore_85 : decode cX12_layMore 85 = .ok (.iload 7, 2) := by decide +kernel
theorem dX12_layMore_87 : decode cX12_layMore 87 = .ok (.iconst 1, 1) := by decide +kernel
theorem dX12_layMore_88 : decode cX12_layMore 88 = .ok (.isub, 1) := by decide +kernel
theorem dX12_layMore_89 : decode cX12_layMore 89 = .ok (.goto 27, 3) := by decide +kernel
theorem dX12_layMore_92 : decode cX12_layMore 92 = .ok (.iload 7, 2) := by decide +kernel
theorem dX12_layMore_94 : decode cX12_layMore 94 = .ok (.bipush 11, 2) := by decide +kernel
theorem dX12_layMore_96 : decode cX12_layMore 96 = .ok (.if_icmp .ge 13, 3) := by decide +kernel
theorem dX12_layMore_99 : decode cX12_layMore 99 = .ok (.bipush 10, 2) := by decide +kernel
theorem dX12_layMore_101 : decode cX12_layMore 101 = .ok (.iload 7, 2) := by decide +kernel
theorem dX12_layMore_103 : decode cX12_layMore 103 = .ok (.iadd, 1) := by decide +kernel
theorem dX12_layMore_104 : decode cX12_layMore 104 = .ok (.iconst 5, 1) := by decide +kernel
theorem dX12_layMore_105 : decode cX12_layMore 105 = .ok (.isub, 1) := by decide +kernel
theorem dX12_layMore_106 : decode cX12_layMore 106 = .ok (.goto 10, 3) := by decide +kernel
theorem dX12_layMore_109 : decode cX12_layMore 109 = .ok (.iload 7, 2) := by decide +kernel
theorem dX12_layMore_111 : decode cX12_layMore 111 = .ok (.bipush 11, 2) := by decide +kernel
theorem dX12_layMore_113 : decode cX12_layMore 113 = .ok (.isub, 1) := by decide +kernel
theorem dX12_layMore_114 : decode cX12_layMore 114 = .ok (.iconst 4, 1) := by decide +kernel
theorem dX12_layMore_115 : decode cX12_layMore 115 = .ok (.idiv, 1) := by decide +kernel
theorem dX12_layMore_116 : decode cX12_layMore 116 = .ok (.iastore, 1) := by decide +kernel
theorem dX12_layMore_117 : decode cX12_layMore 117 = .ok (.aload_n 0, 1) := by decide +kernel
theorem dX12_layMore_118 : decode cX12_layMore 118 = .ok (.getfield 19, 3) := by decide +kernel
theorem dX12_layMore_121 : decode cX12_layMore 121 = .ok (.iconst 4, 1) := by decide +kernel
theorem dX12_layMore_122 : decode cX12_layMore 122 = .ok (.iload_n 2, 1) := by decide +kernel
theorem dX12_layMore_123 : decode cX12_layMore 123 = .ok (.imul, 1) := by decide +kernel
theorem dX12_layMore_124 : decode cX12_layMore 124 = .ok (.iconst 1, 1) := by decide +kernel
theorem dX12_layMore_125 : decode cX12_layMore 125 = .ok (.iadd, 1) := by decide +kernel
theorem dX12_layMore_126 : decode cX12_layMore 126 = .ok (.iload 7, 2) := by decide +kernel
theorem dX12_layMore_128 : decode cX12_layMore 128 = .ok (.iconst 1, 1) := by decide +kernel
theorem dX12_layMore_129 : decode cX12_layMore 129 = .ok (.iadd, 1) := by decide +kernel
theorem dX12_layMore_130 : decode cX12_layMore 130 = .ok (.iconst 4, 1) := by decide +kernel
theorem dX12_layMore_131 : decode cX12_layMore 131 = .ok (.irem, 1) := by decide +kernel
theorem dX12_layMore_132 : decode cX12_layMore 132 = .ok (.iastore, 1) := by decide +kernel
theorem dX12_layMore_133 : decode cX12_layMore 133 = .ok (.aload_n 0, 1) := by decide +kernel
theorem dX12_layMore_134 : decode cX12_layMore 134 = .ok (.invokevirtual 193, 3) := by decide +kernel
theorem dX12_layMore_137 : decode cX12_layMore 137 = .ok (.istore 8, 2) := by decide +kernel
theorem dX12_layMore_139 : decode cX12_layMore 139 = .ok (.iload 8, 2) := by decide +kernel
theorem dX12_layMore_141 : decode cX12_layMore 141 = .ok (.iload_n 3, 1) := by decide +kernel
theorem dX12_layMore_142 : decode cX12_layMore 142 = .ok (.if_icmp .ge 57, 3) := by decide +kernel
theorem dX12_layMore_145 : decode cX12_layMore 145 = .ok (.iload 8, 2) := by decide +kernel
theorem dX12_layMore_147 : decode cX12_layMore 147 = .ok (.istore_n 3, 1) := by decide +kernel
theorem dX12_layMore_148 : decode cX12_layMore 148 = .ok (.aload_n 0, 1) := by decide +kernel
theorem dX12_layMore_149 : decode cX12_layMore 149 = .ok (.getfield 16, 3) := by decide +kernel
theorem dX12_layMore_152 : decode cX12_layMore 152 = .ok (.iload_n 2, 1) := by decide +kernel
theorem dX12_layMore_153 : decode cX12_layMore 153 = .ok (.iaload, 1) := by decide +kernel
theorem dX12_layMore_154 : decode cX12_layMore 154 = .ok (.istore 4, 2) := by decide +kernel
theorem dX12_layMore_156 : decode cX12_layMore 156 = .ok (.iload 4, 2) := by decide +kernel
theorem dX12_layMore_158 : decode cX12_layMore 158 = .ok (.ifCond .le 14, 3) := by decide +kernel
theorem dX12_layMore_161 : decode cX12_layMore 161 = .ok (.aload_n 0, 1) := by decide +kernel
theorem dX12_layMore_162 : decode cX12_layMore 162 = .ok (.getfield 19, 3) := by decide +kernel
theorem dX12_layMore_165 : decode cX12_layMore 165 = .ok (.iconst 4, 1) := by decide +kernel
theorem dX12_layMore_166 : decode cX12_layMore 166 = .ok (.iload_n 2, 1) := by decide +kernel
theorem dX12_layMore_167 : decode cX12_layMore 167 = .ok (.imul, 1) := by decide +kernel
theorem dX12_layMore_168 : decode cX12_layMore 168 = .ok (.iaload, 1) := by decide +kernel
theorem dX12_layMore_169 : decode cX12_layMore 169 = .ok (.goto 5, 3) := by decide +kernel
theorem dX12_layMore_172 : decode cX12_layMore 172 = .ok (.bipush (-6), 2) := by decide +kernel
theorem dX12_layMore_174 : decode cX12_layMore 174 = .ok (.istore 5, 2) := by decide +kernel
theorem dX12_layMore_176 : decode cX12_layMore 176 = .ok (.iload 4, 2) := by decide +kernel
theorem dX12_layMore_178 : decode cX12_layMore 178 = .ok (.iconst 1, 1) := by decide +kernel
theorem dX12_layMore_179 : decode cX12_layMore 179 = .ok (.if_icmp .le 16, 3) := by decide +kernel
theorem dX12_layMore_182 : decode cX12_layMore 182 = .ok (.aload_n 0, 1) := by decide +kernel
theorem dX12_layMore_183 : decode cX12_layMore 183 = .ok (.getfield 19, 3) := by decide +kernel
theorem dX12_layMore_186 : decode cX12_layMore 186 = .ok (.iconst 4, 1) := by decide +kernel
theorem dX12_layMore_187 : decode cX12_layMore 187 = .ok (.iload_n 2, 1) := by decide +kernel
theorem dX12_layMore_188 : decode cX12_layMore 188 = .ok (.imul, 1) := by decide +kernel
theorem dX12_layMore_189 : decode cX12_layMore 189 = .ok (.iconst 1, 1) := by decide +kernel
theorem dX12_layMore_190 : decode cX12_layMore 190 = .ok (.iadd, 1) := by decide +kernel
theorem dX12_layMore_191 : decode cX12_layMore 191 = .ok (.iaload, 1) := by decide +kernel
theorem dX12_layMore_192 : decode cX12_layMore 192 = .ok (.goto 5, 3) := by decide +kernel
theorem dX12_layMore_195 : decode cX12_layMore 195 = .ok (.bipush (-6), 2) := by decide +kernel
theorem dX12_layMore_197 : decode cX12_layMore 197 = .ok (.istore 6, 2) := by decide +kernel
theorem dX12_layMore_199 : decode cX12_layMore 199 = .ok (.iinc 7 1, 3) := by decide +kernel
theorem dX12_layMore_202 : decode cX12_layMore 202 = .ok (.goto (-164), 3) := by decide +kernel
theorem dX12_layMore_205 : decode cX12_layMore 205 = .ok (.aload_n 0, 1) := by decide +kernel
theorem dX12_layMore_206 : decode cX12_layMore 206 = .ok (.getfield 13, 3) := by decide +kernel
theorem dX12_layMore_209 : decode cX12_layMore 209 = .ok (.iload_n 1, 1) := by decide +kernel
theorem dX12_layMore_210 : decode cX12_layMore 210 = .ok (.dup2, 1) := by decide +kernel
theorem dX12_layMore_211 : decode cX12_layMore 211 = .ok (.iaload, 1) := by decide +kernel
theorem dX12_layMore_212 : decode cX12_layMore 212 = .ok (.iconst 1, 1) := by decide +kernel
theorem dX12_layMore_213 : decode cX12_layMore 213 = .ok (.isub, 1) := by decide +kernel
theorem dX12_layMore_214 : decode cX12_layMore 214 = .ok (.iastore, 1) := by decide +kernel
theorem dX12_layMore_215 : decode cX12_layMore 215 = .ok (.aload_n 0, 1) := by decide +kernel
theorem dX12_layMore_216 : decode cX12_layMore 216 = .ok (.getfield 78, 3) := by decide +kernel
theorem dX12_layMore_219 : decode cX12_layMore 219 = .ok (.iload_n 1, 1) := by decide +kernel
theorem dX12_layMore_220 : decode cX12_layMore 220 = .ok (.iconst 1, 1) := by decide +kernel
theorem dX12_layMore_221 : decode cX12_layMore 221 = .ok (.bastore, 1) := by decide +kernel
theorem dX12_layMore_222 : decode cX12_layMore 222 = .ok (.aload_n 0, 1) := by decide +kernel
theorem dX12_layMore_223 : decode cX12_layMore 223 = .ok (.getfield 81, 3) := by decide +kernel
theorem dX12_layMore_226 : decode cX12_layMore 226 = .ok (.iload_n 1, 1) := by decide +kernel
theorem dX12_layMore_227 : decode cX12_layMore 227 = .ok (.iload_n 3, 1) := by decide +kernel
theorem dX12_layMore_228 : decode cX12_layMore 228 = .ok (.iastore, 1) := by decide +kernel
theorem dX12_layMore_229 : decode cX12_layMore 229 = .ok (.aload_n 0, 1) := by decide +kernel
theorem dX12_layMore_230 : decode cX12_layMore 230 = .ok (.getfield 84, 3) := by decide +kernel
theorem dX12_layMore_233 : decode cX12_layMore 233 = .ok (.iload_n 1, 1) := by decide +kernel
theorem dX12_layMore_234 : decode cX12_layMore 234 = .ok (.iload 4, 2) := by decide +kernel
theorem dX12_layMore_236 : decode cX12_layMore 236 = .ok (.iastore, 1) := by decide +kernel
theorem dX12_layMore_237 : decode cX12_layMore 237 = .ok (.aload_n 0, 1) := by decide +kernel
theorem dX12_layMore_238 : decode cX12_layMore 238 = .ok (.getfield 87, 3) := by decide +kernel
theorem dX12_layMore_241 : decode cX12_layMore 241 = .ok (.iload_n 1, 1) := by decide +kernel
theorem dX12_layMore_242 : decode cX12_layMore 242 = .ok (.iload 5, 2) := by decide +kernel
theorem dX12_layMore_244 : decode cX12_layMore 244 = .ok (.iastore, 1) := by decide +kernel
theorem dX12_layMore_245 : decode cX12_layMore 245 = .ok (.aload_n 0, 1) := by decide +kernel
theorem dX12_layMore_246 : decode cX12_layMore 246 = .ok (.getfield 90, 3) := by decide +kernel
theorem dX12_layMore_249 : decode cX12_layMore 249 = .ok (.iload_n 1, 1) := by decide +kernel
theorem dX12_layMore_250 : decode cX12_layMore 250 = .ok (.iload 6, 2) := by decide +kernel
theorem dX12_layMore_252 : decode cX12_layMore 252 = .ok (.iastore, 1) := by decide +kernel
theorem dX12_layMore_253 : decode cX12_layMore 253 = .ok (.return_, 1) := by decide +kernel
set_option maxRecDepth 20000 in
theorem ggX12_told_X12_in : GoodIn wsX12_told wsX12_in := goodIn_r _ [10] (by decide +kernel) (by decide +kernel)
set_option maxRecDepth 20000 in
theorem gX12_told_X12_in : GoodIn wsX12_told (va_wsS RX12 93 yX12_in wsX12_in) := goodIn_app (goodIn_of _ (by decide +kernel)) ggX12_told_X12_in
theorem dX12_told_0 : decode cX12_told 0 = .ok (.iconst 0, 1) := by decide +kernel
theorem dX12_told_1 : decode cX12_told 1 = .ok (.istore_n 2, 1) := by decide +kernel
theorem dX12_told_2 : decode cX12_told 2 = .ok (.iconst 0, 1) := by decide +kernel
theorem dX12_told_3 : decode cX12_told 3 = .ok (.istore_n 3, 1) := by decide +kernel
theorem dX12_told_4 : decode cX12_told 4 = .ok (.iload_n 3, 1) := by decide +kernel
theorem dX12_told_5 : decode cX12_told 5 = .ok (.bipush 6, 2) := by decide +kernel
theorem dX12_told_7 : decode cX12_told 7 = .ok (.if_icmp .ge 28, 3) := by decide +kernel
theorem dX12_told_10 : decode cX12_told 10 = .ok (.iload_n 2, 1) := by decide +kernel
theorem dX12_told_11 : decode cX12_told 11 = .ok (.aload_n 0, 1) := by decide +kernel
theorem dX12_told_12 : decode cX12_told 12 = .ok (.getfield 13, 3) := by decide +kernel
theorem dX12_told_15 : decode cX12_told 15 = .ok (.iload_n 3, 1) := by decide +kernel
theorem dX12_told_16 : decode cX12_told 16 = .ok (.iaload, 1) := by decide +kernel
theorem dX12_told_17 : decode cX12_told 17 = .ok (.ifCond .le 9, 3) := by decide +kernel
theorem dX12_told_20 : decode cX12_told 20 = .ok (.iconst 1, 1) := by decide +kernel
theorem dX12_told_21 : decode cX12_told 21 = .ok (.iload_n 3, 1) := by decide +kernel
theorem dX12_told_22 : decode cX12_told 22 = .ok (.ishl, 1) := by decide +kernel
theorem dX12_told_23 : decode cX12_told 23 = .ok (.goto 4, 3) := by decide +kernel
theorem dX12_told_26 : decode cX12_told 26 = .ok (.iconst 0, 1) := by decide +kernel
theorem dX12_told_27 : decode cX12_told 27 = .ok (.ior, 1) := by decide +kernel
theorem dX12_told_28 : decode cX12_told 28 = .ok (.istore_n 2, 1) := by decide +kernel
theorem dX12_told_29 : decode cX12_told 29 = .ok (.iinc 3 1, 3) := by decide +kernel
theorem dX12_told_32 : decode cX12_told 32 = .ok (.goto (-28), 3) := by decide +kernel
theorem dX12_told_35 : decode cX12_told 35 = .ok (.iload_n 1, 1) := by decide +kernel
theorem dX12_told_36 : decode cX12_told 36 = .ok (.bipush 10, 2) := by decide +kernel
theorem dX12_told_38 : decode cX12_told 38 = .ok (.bipush 15, 2) := by decide +kernel
theorem dX12_told_40 : decode cX12_told 40 = .ok (.invokestatic 93, 3) := by decide +kernel
theorem dX12_told_43 : decode cX12_told 43 = .ok (.ifCond .eq 13, 3) := by decide +kernel
theorem dX12_told_46 : decode cX12_told 46 = .ok (.aload_n 0, 1) := by decide +kernel
theorem dX12_told_47 : decode cX12_told 47 = .ok (.getfield 13, 3) := by decide +kernel
theorem dX12_told_50 : decode cX12_told 50 = .ok (.iload_n 1, 1) := by decide +kernel
theorem dX12_told_51 : decode cX12_told 51 = .ok (.bipush 10, 2) := by decide +kernel
theorem dX12_told_53 : decode cX12_told 53 = .ok (.isub, 1) := by decide +kernel
theorem dX12_told_54 : decode cX12_told 54 = .ok (.iaload, 1) := by decide +kernel
theorem dX12_told_55 : decode cX12_told 55 = .ok (.ireturn, 1) := by decide +kernel
theorem dX12_told_56 : decode cX12_told 56 = .ok (.iload_n 1, 1) := by decide +kernel
theorem dX12_told_57 : decode cX12_told 57 = .ok (.ifCond .ne 10, 3) := by decide +kernel
theorem dX12_told_60 : decode cX12_told 60 = .ok (.aload_n 0, 1) := by decide +kernel
theorem dX12_told_61 : decode cX12_told 61 = .ok (.getfield 97, 3) := by decide +kernel
theorem dX12_told_64 : decode cX12_told 64 = .ok (.goto 71, 3) := by decide +kernel
theorem dX12_told_67 : decode cX12_told 67 = .ok (.iload_n 1, 1) := by decide +kernel
theorem dX12_told_68 : decode cX12_told 68 = .ok (.iconst 1, 1) := by decide +kernel
theorem dX12_told_69 : decode cX12_told 69 = .ok (.if_icmp .ne 7, 3) := by decide +kernel
theorem dX12_told_72 : decode cX12_told 72 = .ok (.iload_n 2, 1) := by decide +kernel
theorem dX12_told_73 : decode cX12_told 73 = .ok (.goto 62, 3) := by decide +kernel
theorem dX12_told_76 : decode cX12_told 76 = .ok (.iload_n 1, 1) := by decide +kernel
theorem dX12_told_77 : decode cX12_told 77 = .ok (.iconst 2, 1) := by decide +kernel
theorem dX12_told_78 : decode cX12_told 78 = .ok (.if_icmp .ne 10, 3) := by decide +kernel
theorem dX12_told_81 : decode cX12_told 81 = .ok (.aload_n 0, 1) := by decide +kernel
theorem dX12_told_82 : decode cX12_told 82 = .ok (.getfield 105, 3) := by decide +kernel
theorem dX12_told_85 : decode cX12_told 85 = .ok (.goto 50, 3) := by decide +kernel
theorem dX12_told_88 : decode cX12_told 88 = .ok (.iload_n 1, 1) := by decide +kernel
theorem dX12_told_89 : decode cX12_told 89 = .ok (.iconst 3, 1) := by decide +kernel
theorem dX12_told_90 : decode cX12_told 90 = .ok (.if_icmp .ne 10, 3) := by decide +kernel
theorem dX12_told_93 : decode cX12_told 93 = .ok (.aload_n 0, 1) := by decide +kernel
theorem dX12_told_94 : decode cX12_told 94 = .ok (.getfield 140, 3) := by decide +kernel
theorem dX12_told_97 : decode cX12_told 97 = .ok (.goto 38, 3) := by decide +kernel
theorem dX12_told_100 : decode cX12_told 100 = .ok (.iload_n 1, 1) := by decide +kernel
theorem dX12_told_101 : decode cX12_told 101 = .ok (.iconst 4, 1) := by decide +kernel
theorem dX12_told_102 : decode cX12_told 102 = .ok (.if_icmp .ne 10, 3) := by decide +kernel
theorem dX12_told_105 : decode cX12_told 105 = .ok (.aload_n 0, 1) := by decide +kernel
theorem dX12_told_106 : decode cX12_told 106 = .ok (.getfield 187, 3) := by decide +kernel
theorem dX12_told_109 : decode cX12_told 109 = .ok (.goto 26, 3) := by decide +kernel
theorem dX12_told_112 : decode cX12_told 112 = .ok (.iload_n 1, 1) := by decide +kernel
theorem dX12_told_113 : decode cX12_told 113 = .ok (.iconst 5, 1) := by decide +kernel
theorem dX12_told_114 : decode cX12_told 114 = .ok (.bipush 7, 2) := by decide +kernel
theorem dX12_told_116 : decode cX12_told 116 = .ok (.invokestatic 93, 3) := by decide +kernel
theorem dX12_told_119 : decode cX12_told 119 = .ok (.ifCond .eq 14, 3) := by decide +kernel
theorem dX12_told_122 : decode cX12_told 122 = .ok (.aload_n 0, 1) := by decide +kernel
theorem dX12_told_123 : decode cX12_told 123 = .ok (.getfield 31, 3) := by decide +kernel
theorem dX12_told_126 : decode cX12_told 126 = .ok (.iload_n 1, 1) := by decide +kernel
theorem dX12_told_127 : decode cX12_told 127 = .ok (.iconst 5, 1) := by decide +kernel
theorem dX12_told_128 : decode cX12_told 128 = .ok (.isub, 1) := by decide +kernel
theorem dX12_told_129 : decode cX12_told 129 = .ok (.iaload, 1) := by decide +kernel
theorem dX12_told_130 : decode cX12_told 130 = .ok (.goto 5, 3) := by decide +kernel
theorem dX12_told_133 : decode cX12_told 133 = .ok (.bipush (-2), 2) := by decide +kernel
theorem dX12_told_135 : decode cX12_told 135 = .ok (.ireturn, 1) := by decide +kernel
theorem dJ6_bitCount_0f7a4_0 : decode cJ6_bitCount_0f7a4 0 = .ok (.iload_n 0, 1) := by decide +kernel
theorem dJ6_bitCount_0f7a4_1 : decode cJ6_bitCount_0f7a4 1 = .ok (.iload_n 0, 1) := by decide +kernel
theorem dJ6_bitCount_0f7a4_2 : decode cJ6_bitCount_0f7a4 2 = .ok (.iconst 1, 1) := by decide +kernel
theorem dJ6_bitCount_0f7a4_3 : decode cJ6_bitCount_0f7a4 3 = .ok (.iushr, 1) := by decide +kernel
theorem dJ6_bitCount_0f7a4_4 : decode cJ6_bitCount_0f7a4 4 = .ok (.ldc_w 265, 3) := by decide +kernel
theorem dJ6_bitCount_0f7a4_7 : decode cJ6_bitCount_0f7a4 7 = .ok (.iand, 1) := by decide +kernel
theorem dJ6_bitCount_0f7a4_8 : decode cJ6_bitCount_0f7a4 8 = .ok (.isub, 1) := by decide +kernel
theorem dJ6_bitCount_0f7a4_9 : decode cJ6_bitCount_0f7a4 9 = .ok (.istore_n 0, 1) := by decide +kernel
theorem dJ6_bitCount_0f7a4_10 : decode cJ6_bitCount_0f7a4 10 = .ok (.iload_n 0, 1) := by decide +kernel
theorem dJ6_bitCount_0f7a4_11 : decode cJ6_bitCount_0f7a4 11 = .ok (.ldc_w 266, 3) := by decide +kernel
theorem dJ6_bitCount_0f7a4_14 : decode cJ6_bitCount_0f7a4 14 = .ok (.iand, 1) := by decide +kernel
theorem dJ6_bitCount_0f7a4_15 : decode cJ6_bitCount_0f7a4 15 = .ok (.iload_n 0, 1) := by decide +kernel
theorem dJ6_bitCount_0f7a4_16 : decode cJ6_bitCount_0f7a4 16 = .ok (.iconst 2, 1) := by decide +kernel
theorem dJ6_bitCount_0f7a4_17 : decode cJ6_bitCount_0f7a4 17 = .ok (.iushr, 1) := by decide +kernel
theorem dJ6_bitCount_0f7a4_18 : decode cJ6_bitCount_0f7a4 18 = .ok (.ldc_w 266, 3) := by decide +kernel
theorem dJ6_bitCount_0f7a4_21 : decode cJ6_bitCount_0f7a4 21 = .ok (.iand, 1) := by decide +kernel
theorem dJ6_bitCount_0f7a4_22 : decode cJ6_bitCount_0f7a4 22 = .ok (.iadd, 1) := by decide +kernel
theorem dJ6_bitCount_0f7a4_23 : decode cJ6_bitCount_0f7a4 23 = .ok (.istore_n 0, 1) := by decide +kernel
theorem dJ6_bitCount_0f7a4_24 : decode cJ6_bitCount_0f7a4 24 = .ok (.iload_n 0, 1) := by decide +kernel
theorem dJ6_bitCount_0f7a4_25 : decode cJ6_bitCount_0f7a4 25 = .ok (.iload_n 0, 1) := by decide +kernel
theorem dJ6_bitCount_0f7a4_26 : decode cJ6_bitCount_0f7a4 26 = .ok (.iconst 4, 1) := by decide +kernel
theorem dJ6_bitCount_0f7a4_27 : decode cJ6_bitCount_0f7a4 27 = .ok (.iushr, 1) := by decide +kernel
theorem dJ6_bitCount_0f7a4_28 : decode cJ6_bitCount_0f7a4 28 = .ok (.iadd, 1) := by decide +kernel
theorem dJ6_bitCount_0f7a4_29 : decode cJ6_bitCount_0f7a4 29 = .ok (.ldc_w 267, 3) := by decide +kernel
theorem dJ6_bitCount_0f7a4_32 : decode cJ6_bitCount_0f7a4 32 = .ok (.iand, 1) := by decide +kernel
theorem dJ6_bitCount_0f7a4_33 : decode cJ6_bitCount_0f7a4 33 = .ok (.istore_n 0, 1) := by decide +kernel
theorem dJ6_bitCount_0f7a4_34 : decode cJ6_bitCount_0f7a4 34 = .ok (.iload_n 0, 1) := by decide +kernel
theorem dJ6_bitCount_0f7a4_35 : decode cJ6_bitCount_0f7a4 35 = .ok (.iload_n 0, 1) := by decide +kernel
theorem dJ6_bitCount_0f7a4_36 : decode cJ6_bitCount_0f7a4 36 = .ok (.bipush 8, 2) := by decide +kernel
theorem dJ6_bitCount_0f7a4_38 : decode cJ6_bitCount_0f7a4 38 = .ok (.iushr, 1) := by decide +kernel
theorem dJ6_bitCount_0f7a4_39 : decode cJ6_bitCount_0f7a4 39 = .ok (.iadd, 1) := by decide +kernel
theorem dJ6_bitCount_0f7a4_40 : decode cJ6_bitCount_0f7a4 40 = .ok (.istore_n 0, 1) := by decide +kernel
theorem dJ6_bitCount_0f7a4_41 : decode cJ6_bitCount_0f7a4 41 = .ok (.iload_n 0, 1) := by decide +kernel
theorem dJ6_bitCount_0f7a4_42 : decode cJ6_bitCount_0f7a4 42 = .ok (.iload_n 0, 1) := by decide +kernel
theorem dJ6_bitCount_0f7a4_43 : decode cJ6_bitCount_0f7a4 43 = .ok (.bipush 16, 2) := by decide +kernel
theorem dJ6_bitCount_0f7a4_45 : decode cJ6_bitCount_0f7a4 45 = .ok (.iushr, 1) := by decide +kernel
theorem dJ6_bitCount_0f7a4_46 : decode cJ6_bitCount_0f7a4 46 = .ok (.iadd, 1) := by decide +kernel
theorem dJ6_bitCount_0f7a4_47 : decode cJ6_bitCount_0f7a4 47 = .ok (.istore_n 0, 1) := by decide +kernel
theorem dJ6_bitCount_0f7a4_48 : decode cJ6_bitCount_0f7a4 48 = .ok (.iload_n 0, 1) := by decide +kernel
theorem dJ6_bitCount_0f7a4_49 : decode cJ6_bitCount_0f7a4 49 = .ok (.bipush 63, 2) := by decide +kernel
theorem dJ6_bitCount_0f7a4_51 : decode cJ6_bitCount_0f7a4 51 = .ok (.iand, 1) := by decide +kernel
theorem dJ6_bitCount_0f7a4_52 : decode cJ6_bitCount_0f7a4 52 = .ok (.ireturn, 1) := by decide +kernel
theorem dJ9_max_7cf53_0 : decode cJ9_max_7cf53 0 = .ok (.iload_n 0, 1) := by decide +kernel
theorem dJ9_max_7cf53_1 : decode cJ9_max_7cf53 1 = .ok (.iload_n 1, 1) := by decide +kernel
theorem dJ9_max_7cf53_2 : decode cJ9_max_7cf53 2 = .ok (.if_icmp .lt 7, 3) := by decide +kernel
theorem dJ9_max_7cf53_5 : decode cJ9_max_7cf53 5 = .ok (.iload_n 0, 1) := by decide +kernel
theorem dJ9_max_7cf53_6 : decode cJ9_max_7cf53 6 = .ok (.goto 4, 3) := by decide +kernel
theorem dJ9_max_7cf53_9 : decode cJ9_max_7cf53 9 = .ok (.iload_n 1, 1) := by decide +kernel
theorem dJ9_max_7cf53_10 : decode cJ9_max_7cf53 10 = .ok (.ireturn, 1) := by decide +kernel
theorem dJ9_min_7cf53_0 : decode cJ9_min_7cf53 0 = .ok (.iload_n 0, 1) := by decide +kernel
theorem dJ9_min_7cf53_1 : decode cJ9_min_7cf53 1 = .ok (.iload_n 1, 1) := by decide +kernel
theorem dJ9_min_7cf53_2 : decode cJ9_min_7cf53 2 = .ok (.if_icmp .gt 7, 3) := by decide +kernel
theorem dJ9_min_7cf53_5 : decode cJ9_min_7cf53 5 = .ok (.iload_n 0, 1) := by decide +kernel
theorem dJ9_min_7cf53_6 : decode cJ9_min_7cf53 6 = .ok (.goto 4, 3) := by decide +kernel
theorem dJ9_min_7cf53_9 : decode cJ9_min_7cf53 9 = .ok (.iload_n 1, 1) := by decide +kernel
theorem dJ9_min_7cf53_10 : decode cJ9_min_7cf53 10 = .ok (.ireturn, 1) := by decide +kernel
theorem dJ9_min_f86c9_0 : decode cJ9_min_f86c9 0 = .ok (.lload_n 0, 1) := by decide +kernel
theorem dJ9_min_f86c9_1 : decode cJ9_min_f86c9 1 = .ok (.lload_n 2, 1) := by decide +kernel
theorem dJ9_min_f86c9_2 : decode cJ9_min_f86c9 2 = .ok (.lcmp, 1) := by decide +kernel
theorem dJ9_min_f86c9_3 : decode cJ9_min_f86c9 3 = .ok (.ifCond .gt 7, 3) := by decide +kernel
theorem dJ9_min_f86c9_6 : decode cJ9_min_f86c9 6 = .ok (.lload_n 0, 1) := by decide +kernel
theorem dJ9_min_f86c9_7 : decode cJ9_min_f86c9 7 = .ok (.goto 4, 3) := by decide +kernel
theorem dJ9_min_f86c9_10 : decode cJ9_min_f86c9 10 = .ok (.lload_n 2, 1) := by decide +kernel
theorem dJ9_min_f86c9_11 : decode cJ9_min_f86c9 11 = .ok (.lreturn, 1) := by decide +kernel
theorem dJ7_fill_53178_0 : decode cJ7_fill_53178 0 = .ok (.iconst 0, 1) := by decide +kernel
theorem dJ7_fill_53178_1 : decode cJ7_fill_53178 1 = .ok (.istore_n 2, 1) := by decide +kernel
theorem dJ7_fill_53178_2 : decode cJ7_fill_53178 2 = .ok (.aload_n 0, 1) := by decide +kernel
theorem dJ7_fill_53178_3 : decode cJ7_fill_53178 3 = .ok (.arraylength, 1) := by decide +kernel
theorem dJ7_fill_53178_4 : decode cJ7_fill_53178 4 = .ok (.istore_n 3, 1) := by decide +kernel
theorem dJ7_fill_53178_5 : decode cJ7_fill_53178 5 = .ok (.iload_n 2, 1) := by decide +kernel
theorem dJ7_fill_53178_6 : decode cJ7_fill_53178 6 = .ok (.iload_n 3, 1) := by decide +kernel
theorem dJ7_fill_53178_7 : decode cJ7_fill_53178 7 = .ok (.if_icmp .ge 13, 3) := by decide +kernel
theorem dJ7_fill_53178_10 : decode cJ7_fill_53178 10 = .ok (.aload_n 0, 1) := by decide +kernel
theorem dJ7_fill_53178_11 : decode cJ7_fill_53178 11 = .ok (.iload_n 2, 1) := by decide +kernel
theorem dJ7_fill_53178_12 : decode cJ7_fill_53178 12 = .ok (.iload_n 1, 1) := by decide +kernel
theorem dJ7_fill_53178_13 : decode cJ7_fill_53178 13 = .ok (.iastore, 1) := by decide +kernel
theorem dJ7_fill_53178_14 : decode cJ7_fill_53178 14 = .ok (.iinc 2 1, 3) := by decide +kernel
theorem dJ7_fill_53178_17 : decode cJ7_fill_53178 17 = .ok (.goto (-12), 3) := by decide +kernel
theorem dJ7_fill_53178_20 : decode cJ7_fill_53178 20 = .ok (.return_, 1) := by decide +kernel
