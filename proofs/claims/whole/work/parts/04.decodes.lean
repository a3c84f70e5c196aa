theorem dX12_init_0 : decode cX12_init 0 = .ok (.aload_n 0, 1) := by decide +kernel
theorem dX12_init_1 : decode cX12_init 1 = .ok (.invokespecial 1, 3) := by decide +kernel
theorem dX12_init_4 : decode cX12_init 4 = .ok (.aload_n 0, 1) := by decide +kernel
theorem dX12_init_5 : decode cX12_init 5 = .ok (.bipush 60, 2) := by decide +kernel
theorem dX12_init_7 : decode cX12_init 7 = .ok (.newarray .int, 2) := by decide +kernel
theorem dX12_init_9 : decode cX12_init 9 = .ok (.putfield 7, 3) := by decide +kernel
theorem dX12_init_12 : decode cX12_init 12 = .ok (.aload_n 0, 1) := by decide +kernel
theorem dX12_init_13 : decode cX12_init 13 = .ok (.bipush 6, 2) := by decide +kernel
theorem dX12_init_15 : decode cX12_init 15 = .ok (.newarray .int, 2) := by decide +kernel
theorem dX12_init_17 : decode cX12_init 17 = .ok (.putfield 13, 3) := by decide +kernel
theorem dX12_init_20 : decode cX12_init 20 = .ok (.aload_n 0, 1) := by decide +kernel
theorem dX12_init_21 : decode cX12_init 21 = .ok (.bipush 30, 2) := by decide +kernel
theorem dX12_init_23 : decode cX12_init 23 = .ok (.newarray .int, 2) := by decide +kernel
theorem dX12_init_25 : decode cX12_init 25 = .ok (.putfield 16, 3) := by decide +kernel
theorem dX12_init_28 : decode cX12_init 28 = .ok (.aload_n 0, 1) := by decide +kernel
theorem dX12_init_29 : decode cX12_init 29 = .ok (.bipush 120, 2) := by decide +kernel
theorem dX12_init_31 : decode cX12_init 31 = .ok (.newarray .int, 2) := by decide +kernel
theorem dX12_init_33 : decode cX12_init 33 = .ok (.putfield 19, 3) := by decide +kernel
theorem dX12_init_36 : decode cX12_init 36 = .ok (.aload_n 0, 1) := by decide +kernel
theorem dX12_init_37 : decode cX12_init 37 = .ok (.bipush 6, 2) := by decide +kernel
theorem dX12_init_39 : decode cX12_init 39 = .ok (.newarray .int, 2) := by decide +kernel
theorem dX12_init_41 : decode cX12_init 41 = .ok (.putfield 22, 3) := by decide +kernel
theorem dX12_init_44 : decode cX12_init 44 = .ok (.aload_n 0, 1) := by decide +kernel
theorem dX12_init_45 : decode cX12_init 45 = .ok (.iconst 3, 1) := by decide +kernel
theorem dX12_init_46 : decode cX12_init 46 = .ok (.newarray .int, 2) := by decide +kernel
theorem dX12_init_48 : decode cX12_init 48 = .ok (.putfield 25, 3) := by decide +kernel
theorem dX12_init_51 : decode cX12_init 51 = .ok (.aload_n 0, 1) := by decide +kernel
theorem dX12_init_52 : decode cX12_init 52 = .ok (.bipush 18, 2) := by decide +kernel
theorem dX12_init_54 : decode cX12_init 54 = .ok (.newarray .int, 2) := by decide +kernel
theorem dX12_init_56 : decode cX12_init 56 = .ok (.putfield 28, 3) := by decide +kernel
theorem dX12_init_59 : decode cX12_init 59 = .ok (.aload_n 0, 1) := by decide +kernel
theorem dX12_init_60 : decode cX12_init 60 = .ok (.iconst 3, 1) := by decide +kernel
theorem dX12_init_61 : decode cX12_init 61 = .ok (.newarray .int, 2) := by decide +kernel
theorem dX12_init_63 : decode cX12_init 63 = .ok (.putfield 31, 3) := by decide +kernel
theorem dX12_init_66 : decode cX12_init 66 = .ok (.aload_n 0, 1) := by decide +kernel
theorem dX12_init_67 : decode cX12_init 67 = .ok (.bipush 6, 2) := by decide +kernel
theorem dX12_init_69 : decode cX12_init 69 = .ok (.newarray .int, 2) := by decide +kernel
theorem dX12_init_71 : decode cX12_init 71 = .ok (.putfield 34, 3) := by decide +kernel
theorem dX12_init_74 : decode cX12_init 74 = .ok (.aload_n 0, 1) := by decide +kernel
theorem dX12_init_75 : decode cX12_init 75 = .ok (.sipush 294, 3) := by decide +kernel
theorem dX12_init_78 : decode cX12_init 78 = .ok (.newarray .int, 2) := by decide +kernel
theorem dX12_init_80 : decode cX12_init 80 = .ok (.putfield 37, 3) := by decide +kernel
theorem dX12_init_83 : decode cX12_init 83 = .ok (.aload_n 0, 1) := by decide +kernel
theorem dX12_init_84 : decode cX12_init 84 = .ok (.sipush 294, 3) := by decide +kernel
theorem dX12_init_87 : decode cX12_init 87 = .ok (.newarray .int, 2) := by decide +kernel
theorem dX12_init_89 : decode cX12_init 89 = .ok (.putfield 40, 3) := by decide +kernel
theorem dX12_init_92 : decode cX12_init 92 = .ok (.aload_n 0, 1) := by decide +kernel
theorem dX12_init_93 : decode cX12_init 93 = .ok (.sipush 294, 3) := by decide +kernel
theorem dX12_init_96 : decode cX12_init 96 = .ok (.newarray .int, 2) := by decide +kernel
theorem dX12_init_98 : decode cX12_init 98 = .ok (.putfield 43, 3) := by decide +kernel
theorem dX12_init_101 : decode cX12_init 101 = .ok (.aload_n 0, 1) := by decide +kernel
theorem dX12_init_102 : decode cX12_init 102 = .ok (.bipush 35, 2) := by decide +kernel
theorem dX12_init_104 : decode cX12_init 104 = .ok (.newarray .int, 2) := by decide +kernel
theorem dX12_init_106 : decode cX12_init 106 = .ok (.putfield 46, 3) := by decide +kernel
theorem dX12_init_109 : decode cX12_init 109 = .ok (.aload_n 0, 1) := by decide +kernel
theorem dX12_init_110 : decode cX12_init 110 = .ok (.bipush 35, 2) := by decide +kernel
theorem dX12_init_112 : decode cX12_init 112 = .ok (.newarray .int, 2) := by decide +kernel
theorem dX12_init_114 : decode cX12_init 114 = .ok (.putfield 49, 3) := by decide +kernel
theorem dX12_init_117 : decode cX12_init 117 = .ok (.aload_n 0, 1) := by decide +kernel
theorem dX12_init_118 : decode cX12_init 118 = .ok (.bipush 35, 2) := by decide +kernel
theorem dX12_init_120 : decode cX12_init 120 = .ok (.newarray .int, 2) := by decide +kernel
theorem dX12_init_122 : decode cX12_init 122 = .ok (.putfield 52, 3) := by decide +kernel
theorem dX12_init_125 : decode cX12_init 125 = .ok (.aload_n 0, 1) := by decide +kernel
theorem dX12_init_126 : decode cX12_init 126 = .ok (.sipush 294, 3) := by decide +kernel
theorem dX12_init_129 : decode cX12_init 129 = .ok (.newarray .boolean, 2) := by decide +kernel
theorem dX12_init_131 : decode cX12_init 131 = .ok (.putfield 55, 3) := by decide +kernel
theorem dX12_init_134 : decode cX12_init 134 = .ok (.aload_n 0, 1) := by decide +kernel
theorem dX12_init_135 : decode cX12_init 135 = .ok (.bipush 35, 2) := by decide +kernel
theorem dX12_init_137 : decode cX12_init 137 = .ok (.newarray .boolean, 2) := by decide +kernel
theorem dX12_init_139 : decode cX12_init 139 = .ok (.putfield 59, 3) := by decide +kernel
theorem dX12_init_142 : decode cX12_init 142 = .ok (.aload_n 0, 1) := by decide +kernel
theorem dX12_init_143 : decode cX12_init 143 = .ok (.bipush 12, 2) := by decide +kernel
theorem dX12_init_145 : decode cX12_init 145 = .ok (.newarray .int, 2) := by decide +kernel
theorem dX12_init_147 : decode cX12_init 147 = .ok (.putfield 62, 3) := by decide +kernel
theorem dX12_init_150 : decode cX12_init 150 = .ok (.aload_n 0, 1) := by decide +kernel
theorem dX12_init_151 : decode cX12_init 151 = .ok (.bipush 91, 2) := by decide +kernel
theorem dX12_init_153 : decode cX12_init 153 = .ok (.newarray .int, 2) := by decide +kernel
theorem dX12_init_155 : decode cX12_init 155 = .ok (.putfield 65, 3) := by decide +kernel
theorem dX12_init_158 : decode cX12_init 158 = .ok (.aload_n 0, 1) := by decide +kernel
theorem dX12_init_159 : decode cX12_init 159 = .ok (.bipush 91, 2) := by decide +kernel
theorem dX12_init_161 : decode cX12_init 161 = .ok (.newarray .int, 2) := by decide +kernel
theorem dX12_init_163 : decode cX12_init 163 = .ok (.putfield 68, 3) := by decide +kernel
theorem dX12_init_166 : decode cX12_init 166 = .ok (.aload_n 0, 1) := by decide +kernel
theorem dX12_init_167 : decode cX12_init 167 = .ok (.bipush 91, 2) := by decide +kernel
theorem dX12_init_169 : decode cX12_init 169 = .ok (.newarray .long, 2) := by decide +kernel
theorem dX12_init_171 : decode cX12_init 171 = .ok (.putfield 71, 3) := by decide +kernel
theorem dX12_init_174 : decode cX12_init 174 = .ok (.aload_n 0, 1) := by decide +kernel
theorem dX12_init_175 : decode cX12_init 175 = .ok (.bipush 91, 2) := by decide +kernel
theorem dX12_init_177 : decode cX12_init 177 = .ok (.newarray .long, 2) := by decide +kernel
theorem dX12_init_179 : decode cX12_init 179 = .ok (.putfield 75, 3) := by decide +kernel
theorem dX12_init_182 : decode cX12_init 182 = .ok (.aload_n 0, 1) := by decide +kernel
theorem dX12_init_183 : decode cX12_init 183 = .ok (.bipush 6, 2) := by decide +kernel
theorem dX12_init_185 : decode cX12_init 185 = .ok (.newarray .boolean, 2) := by decide +kernel
theorem dX12_init_187 : decode cX12_init 187 = .ok (.putfield 78, 3) := by decide +kernel
theorem dX12_init_190 : decode cX12_init 190 = .ok (.aload_n 0, 1) := by decide +kernel
theorem dX12_init_191 : decode cX12_init 191 = .ok (.bipush 6, 2) := by decide +kernel
theorem dX12_init_193 : decode cX12_init 193 = .ok (.newarray .int, 2) := by decide +kernel
theorem dX12_init_195 : decode cX12_init 195 = .ok (.putfield 81, 3) := by decide +kernel
theorem dX12_init_198 : decode cX12_init 198 = .ok (.aload_n 0, 1) := by decide +kernel
theorem dX12_init_199 : decode cX12_init 199 = .ok (.bipush 6, 2) := by decide +kernel
theorem dX12_init_201 : decode cX12_init 201 = .ok (.newarray .int, 2) := by decide +kernel
theorem dX12_init_203 : decode cX12_init 203 = .ok (.putfield 84, 3) := by decide +kernel
theorem dX12_init_206 : decode cX12_init 206 = .ok (.aload_n 0, 1) := by decide +kernel
theorem dX12_init_207 : decode cX12_init 207 = .ok (.bipush 6, 2) := by decide +kernel
theorem dX12_init_209 : decode cX12_init 209 = .ok (.newarray .int, 2) := by decide +kernel
theorem dX12_init_211 : decode cX12_init 211 = .ok (.putfield 87, 3) := by decide +kernel
theorem dX12_init_214 : decode cX12_init 214 = .ok (.aload_n 0, 1) := by decide +kernel
theorem dX12_init_215 : decode cX12_init 215 = .ok (.bipush 6, 2) := by decide +kernel
theorem dX12_init_217 : decode cX12_init 217 = .ok (.newarray .int, 2) := by decide +kernel
theorem dX12_init_219 : decode cX12_init 219 = .ok (.putfield 90, 3) := by decide +kernel
theorem dX12_init_222 : decode cX12_init 222 = .ok (.iconst 0, 1) := by decide +kernel
theorem dX12_init_223 : decode cX12_init 223 = .ok (.istore_n 1, 1) := by decide +kernel
theorem dX12_init_224 : decode cX12_init 224 = .ok (.iload_n 1, 1) := by decide +kernel
theorem dX12_init_225 : decode cX12_init 225 = .ok (.iconst 3, 1) := by decide +kernel
theorem dX12_init_226 : decode cX12_init 226 = .ok (.if_icmp .ge 16, 3) := by decide +kernel
theorem dX12_init_229 : decode cX12_init 229 = .ok (.aload_n 0, 1) := by decide +kernel
theorem dX12_init_230 : decode cX12_init 230 = .ok (.getfield 31, 3) := by decide +kernel
theorem dX12_init_233 : decode cX12_init 233 = .ok (.iload_n 1, 1) := by decide +kernel
theorem dX12_init_234 : decode cX12_init 234 = .ok (.iconst 1, 1) := by decide +kernel
theorem dX12_init_235 : decode cX12_init 235 = .ok (.iastore, 1) := by decide +kernel
theorem dX12_init_236 : decode cX12_init 236 = .ok (.iinc 1 1, 3) := by decide +kernel
theorem dX12_init_239 : decode cX12_init 239 = .ok (.goto (-15), 3) := by decide +kernel
theorem dX12_init_242 : decode cX12_init 242 = .ok (.return_, 1) := by decide +kernel
theorem dX12_in_0 : decode cX12_in 0 = .ok (.iload_n 0, 1) := by decide +kernel
theorem dX12_in_1 : decode cX12_in 1 = .ok (.iload_n 1, 1) := by decide +kernel
theorem dX12_in_2 : decode cX12_in 2 = .ok (.if_icmp .lt 12, 3) := by decide +kernel
theorem dX12_in_5 : decode cX12_in 5 = .ok (.iload_n 0, 1) := by decide +kernel
theorem dX12_in_6 : decode cX12_in 6 = .ok (.iload_n 2, 1) := by decide +kernel
theorem dX12_in_7 : decode cX12_in 7 = .ok (.if_icmp .gt 7, 3) := by decide +kernel
theorem dX12_in_10 : decode cX12_in 10 = .ok (.iconst 1, 1) := by decide +kernel
theorem dX12_in_11 : decode cX12_in 11 = .ok (.goto 4, 3) := by decide +kernel
theorem dX12_in_14 : decode cX12_in 14 = .ok (.iconst 0, 1) := by decide +kernel
theorem dX12_in_15 : decode cX12_in 15 = .ok (.ireturn, 1) := by decide +kernel
set_option maxRecDepth 20000 in
theorem ggX12_isName_X12_in : GoodIn wsX12_isName wsX12_in := goodIn_r _ [4] (by decide +kernel) (by decide +kernel)
set_option maxRecDepth 20000 in
theorem gX12_isName_X12_in : GoodIn wsX12_isName (va_wsS RX12 93 yX12_in wsX12_in) := goodIn_app (goodIn_of _ (by decide +kernel)) ggX12_isName_X12_in
theorem dX12_isName_0 : decode cX12_isName 0 = .ok (.iload_n 0, 1) := by decide +kernel
theorem dX12_isName_1 : decode cX12_isName 1 = .ok (.iconst 0, 1) := by decide +kernel
theorem dX12_isName_2 : decode cX12_isName 2 = .ok (.iconst 5, 1) := by decide +kernel
theorem dX12_isName_3 : decode cX12_isName 3 = .ok (.invokestatic 93, 3) := by decide +kernel
theorem dX12_isName_6 : decode cX12_isName 6 = .ok (.ireturn, 1) := by decide +kernel
set_option maxRecDepth 20000 in
theorem ggX12_say_X12_in : GoodIn wsX12_say wsX12_in := goodIn_r _ [6] (by decide +kernel) (by decide +kernel)
set_option maxRecDepth 20000 in
theorem gX12_say_X12_in : GoodIn wsX12_say (va_wsS RX12 93 yX12_in wsX12_in) := goodIn_app (goodIn_of _ (by decide +kernel)) ggX12_say_X12_in
theorem dX12_say_0 : decode cX12_say 0 = .ok (.iload_n 1, 1) := by decide +kernel
theorem dX12_say_1 : decode cX12_say 1 = .ok (.bipush 33, 2) := by decide +kernel
theorem dX12_say_3 : decode cX12_say 3 = .ok (.bipush 126, 2) := by decide +kernel
theorem dX12_say_5 : decode cX12_say 5 = .ok (.invokestatic 93, 3) := by decide +kernel
theorem dX12_say_8 : decode cX12_say 8 = .ok (.ifCond .ne 6, 3) := by decide +kernel
theorem dX12_say_11 : decode cX12_say 11 = .ok (.bipush (-2), 2) := by decide +kernel
theorem dX12_say_13 : decode cX12_say 13 = .ok (.ireturn, 1) := by decide +kernel
theorem dX12_say_14 : decode cX12_say 14 = .ok (.aload_n 0, 1) := by decide +kernel
theorem dX12_say_15 : decode cX12_say 15 = .ok (.getfield 97, 3) := by decide +kernel
theorem dX12_say_18 : decode cX12_say 18 = .ok (.bipush 60, 2) := by decide +kernel
theorem dX12_say_20 : decode cX12_say 20 = .ok (.if_icmp .ne 6, 3) := by decide +kernel
theorem dX12_say_23 : decode cX12_say 23 = .ok (.bipush (-4), 2) := by decide +kernel
theorem dX12_say_25 : decode cX12_say 25 = .ok (.ireturn, 1) := by decide +kernel
theorem dX12_say_26 : decode cX12_say 26 = .ok (.aload_n 0, 1) := by decide +kernel
theorem dX12_say_27 : decode cX12_say 27 = .ok (.getfield 7, 3) := by decide +kernel
theorem dX12_say_30 : decode cX12_say 30 = .ok (.aload_n 0, 1) := by decide +kernel
theorem dX12_say_31 : decode cX12_say 31 = .ok (.getfield 97, 3) := by decide +kernel
theorem dX12_say_34 : decode cX12_say 34 = .ok (.iload_n 1, 1) := by decide +kernel
theorem dX12_say_35 : decode cX12_say 35 = .ok (.iastore, 1) := by decide +kernel
theorem dX12_say_36 : decode cX12_say 36 = .ok (.aload_n 0, 1) := by decide +kernel
theorem dX12_say_37 : decode cX12_say 37 = .ok (.dup, 1) := by decide +kernel
theorem dX12_say_38 : decode cX12_say 38 = .ok (.getfield 97, 3) := by decide +kernel
theorem dX12_say_41 : decode cX12_say 41 = .ok (.iconst 1, 1) := by decide +kernel
theorem dX12_say_42 : decode cX12_say 42 = .ok (.iadd, 1) := by decide +kernel
theorem dX12_say_43 : decode cX12_say 43 = .ok (.putfield 97, 3) := by decide +kernel
theorem dX12_say_46 : decode cX12_say 46 = .ok (.aload_n 0, 1) := by decide +kernel
theorem dX12_say_47 : decode cX12_say 47 = .ok (.getfield 97, 3) := by decide +kernel
theorem dX12_say_50 : decode cX12_say 50 = .ok (.ireturn, 1) := by decide +kernel
theorem dX12_wipe_0 : decode cX12_wipe 0 = .ok (.aload_n 0, 1) := by decide +kernel
theorem dX12_wipe_1 : decode cX12_wipe 1 = .ok (.getfield 97, 3) := by decide +kernel
theorem dX12_wipe_4 : decode cX12_wipe 4 = .ok (.istore_n 1, 1) := by decide +kernel
theorem dX12_wipe_5 : decode cX12_wipe 5 = .ok (.aload_n 0, 1) := by decide +kernel
theorem dX12_wipe_6 : decode cX12_wipe 6 = .ok (.iconst 0, 1) := by decide +kernel
theorem dX12_wipe_7 : decode cX12_wipe 7 = .ok (.putfield 97, 3) := by decide +kernel
theorem dX12_wipe_10 : decode cX12_wipe 10 = .ok (.iload_n 1, 1) := by decide +kernel
theorem dX12_wipe_11 : decode cX12_wipe 11 = .ok (.ireturn, 1) := by decide +kernel
set_option maxRecDepth 20000 in
theorem ggX12_faultOf_X12_in : GoodIn wsX12_faultOf wsX12_in := goodIn_r _ [6] (by decide +kernel) (by decide +kernel)
set_option maxRecDepth 20000 in
theorem gX12_faultOf_X12_in : GoodIn wsX12_faultOf (va_wsS RX12 93 yX12_in wsX12_in) := goodIn_app (goodIn_of _ (by decide +kernel)) ggX12_faultOf_X12_in
theorem dX12_faultOf_0 : decode cX12_faultOf 0 = .ok (.iconst 0, 1) := by decide +kernel
theorem dX12_faultOf_1 : decode cX12_faultOf 1 = .ok (.istore_n 1, 1) := by decide +kernel
theorem dX12_faultOf_2 : decode cX12_faultOf 2 = .ok (.iconst 0, 1) := by decide +kernel
theorem dX12_faultOf_3 : decode cX12_faultOf 3 = .ok (.istore_n 2, 1) := by decide +kernel
theorem dX12_faultOf_4 : decode cX12_faultOf 4 = .ok (.iconst 0, 1) := by decide +kernel
theorem dX12_faultOf_5 : decode cX12_faultOf 5 = .ok (.istore_n 3, 1) := by decide +kernel
theorem dX12_faultOf_6 : decode cX12_faultOf 6 = .ok (.iconst 0, 1) := by decide +kernel
theorem dX12_faultOf_7 : decode cX12_faultOf 7 = .ok (.istore 4, 2) := by decide +kernel
theorem dX12_faultOf_9 : decode cX12_faultOf 9 = .ok (.iconst 0, 1) := by decide +kernel
theorem dX12_faultOf_10 : decode cX12_faultOf 10 = .ok (.istore 5, 2) := by decide +kernel
theorem dX12_faultOf_12 : decode cX12_faultOf 12 = .ok (.iload 5, 2) := by decide +kernel
theorem dX12_faultOf_14 : decode cX12_faultOf 14 = .ok (.aload_n 0, 1) := by decide +kernel
theorem dX12_faultOf_15 : decode cX12_faultOf 15 = .ok (.getfield 97, 3) := by decide +kernel
theorem dX12_faultOf_18 : decode cX12_faultOf 18 = .ok (.if_icmp .ge 230, 3) := by decide +kernel
theorem dX12_faultOf_21 : decode cX12_faultOf 21 = .ok (.aload_n 0, 1) := by decide +kernel
theorem dX12_faultOf_22 : decode cX12_faultOf 22 = .ok (.getfield 7, 3) := by decide +kernel
theorem dX12_faultOf_25 : decode cX12_faultOf 25 = .ok (.iload 5, 2) := by decide +kernel
theorem dX12_faultOf_27 : decode cX12_faultOf 27 = .ok (.iaload, 1) := by decide +kernel
theorem dX12_faultOf_28 : decode cX12_faultOf 28 = .ok (.istore 6, 2) := by decide +kernel
theorem dX12_faultOf_30 : decode cX12_faultOf 30 = .ok (.iload 6, 2) := by decide +kernel
theorem dX12_faultOf_32 : decode cX12_faultOf 32 = .ok (.bipush 97, 2) := by decide +kernel
theorem dX12_faultOf_34 : decode cX12_faultOf 34 = .ok (.bipush 100, 2) := by decide +kernel
theorem dX12_faultOf_36 : decode cX12_faultOf 36 = .ok (.invokestatic 93, 3) := by decide +kernel
theorem dX12_faultOf_39 : decode cX12_faultOf 39 = .ok (.ifCond .ne 15, 3) := by decide +kernel
theorem dX12_faultOf_42 : decode cX12_faultOf 42 = .ok (.iload 6, 2) := by decide +kernel
theorem dX12_faultOf_44 : decode cX12_faultOf 44 = .ok (.bipush 65, 2) := by decide +kernel
theorem dX12_faultOf_46 : decode cX12_faultOf 46 = .ok (.bipush 70, 2) := by decide +kernel
theorem dX12_faultOf_48 : decode cX12_faultOf 48 = .ok (.invokestatic 93, 3) := by decide +kernel
theorem dX12_faultOf_51 : decode cX12_faultOf 51 = .ok (.ifCond .eq 7, 3) := by decide +kernel
theorem dX12_faultOf_54 : decode cX12_faultOf 54 = .ok (.iconst 1, 1) := by decide +kernel
theorem dX12_faultOf_55 : decode cX12_faultOf 55 = .ok (.goto 4, 3) := by decide +kernel
theorem dX12_faultOf_58 : decode cX12_faultOf 58 = .ok (.iconst 0, 1) := by decide +kernel
theorem dX12_faultOf_59 : decode cX12_faultOf 59 = .ok (.istore 7, 2) := by decide +kernel
theorem dX12_faultOf_61 : decode cX12_faultOf 61 = .ok (.bipush (-6), 2) := by decide +kernel
theorem dX12_faultOf_63 : decode cX12_faultOf 63 = .ok (.istore 8, 2) := by decide +kernel
theorem dX12_faultOf_65 : decode cX12_faultOf 65 = .ok (.iload_n 1, 1) := by decide +kernel
theorem dX12_faultOf_66 : decode cX12_faultOf 66 = .ok (.ifCond .ne 43, 3) := by decide +kernel
theorem dX12_faultOf_69 : decode cX12_faultOf 69 = .ok (.iload 6, 2) := by decide +kernel
theorem dX12_faultOf_71 : decode cX12_faultOf 71 = .ok (.bipush 65, 2) := by decide +kernel
theorem dX12_faultOf_73 : decode cX12_faultOf 73 = .ok (.bipush 70, 2) := by decide +kernel
theorem dX12_faultOf_75 : decode cX12_faultOf 75 = .ok (.invokestatic 93, 3) := by decide +kernel
theorem dX12_faultOf_78 : decode cX12_faultOf 78 = .ok (.ifCond .eq 153, 3) := by decide +kernel
theorem dX12_faultOf_81 : decode cX12_faultOf 81 = .ok (.iload_n 2, 1) := by decide +kernel
theorem dX12_faultOf_82 : decode cX12_faultOf 82 = .ok (.iload 6, 2) := by decide +kernel
theorem dX12_faultOf_84 : decode cX12_faultOf 84 = .ok (.bipush 65, 2) := by decide +kernel
theorem dX12_faultOf_86 : decode cX12_faultOf 86 = .ok (.isub, 1) := by decide +kernel
theorem dX12_faultOf_87 : decode cX12_faultOf 87 = .ok (.ishr, 1) := by decide +kernel
theorem dX12_faultOf_88 : decode cX12_faultOf 88 = .ok (.iconst 1, 1) := by decide +kernel
theorem dX12_faultOf_89 : decode cX12_faultOf 89 = .ok (.iand, 1) := by decide +kernel
theorem dX12_faultOf_90 : decode cX12_faultOf 90 = .ok (.ifCond .ne 141, 3) := by decide +kernel
theorem dX12_faultOf_93 : decode cX12_faultOf 93 = .ok (.iload_n 2, 1) := by decide +kernel
theorem dX12_faultOf_94 : decode cX12_faultOf 94 = .ok (.iconst 1, 1) := by decide +kernel
theorem dX12_faultOf_95 : decode cX12_faultOf 95 = .ok (.iload 6, 2) := by decide +kernel
theorem dX12_faultOf_97 : decode cX12_faultOf 97 = .ok (.bipush 65, 2) := by decide +kernel
theorem dX12_faultOf_99 : decode cX12_faultOf 99 = .ok (.isub, 1) := by decide +kernel
theorem dX12_faultOf_100 : decode cX12_faultOf 100 = .ok (.ishl, 1) := by decide +kernel
theorem dX12_faultOf_101 : decode cX12_faultOf 101 = .ok (.ior, 1) := by decide +kernel
theorem dX12_faultOf_102 : decode cX12_faultOf 102 = .ok (.istore_n 2, 1) := by decide +kernel
theorem dX12_faultOf_103 : decode cX12_faultOf 103 = .ok (.iconst 1, 1) := by decide +kernel
theorem dX12_faultOf_104 : decode cX12_faultOf 104 = .ok (.istore 8, 2) := by decide +kernel
theorem dX12_faultOf_106 : decode cX12_faultOf 106 = .ok (.goto 125, 3) := by decide +kernel
theorem dX12_faultOf_109 : decode cX12_faultOf 109 = .ok (.iload_n 1, 1) := by decide +kernel
theorem dX12_faultOf_110 : decode cX12_faultOf 110 = .ok (.iconst 1, 1) := by decide +kernel
theorem dX12_faultOf_111 : decode cX12_faultOf 111 = .ok (.if_icmp .ne 23, 3) := by decide +kernel
theorem dX12_faultOf_114 : decode cX12_faultOf 114 = .ok (.iload 6, 2) := by decide +kernel
theorem dX12_faultOf_116 : decode cX12_faultOf 116 = .ok (.bipush 61, 2) := by decide +kernel
theorem dX12_faultOf_118 : decode cX12_faultOf 118 = .ok (.if_icmp .ne 7, 3) := by decide +kernel
theorem dX12_faultOf_121 : decode cX12_faultOf 121 = .ok (.iconst 2, 1) := by decide +kernel
theorem dX12_faultOf_122 : decode cX12_faultOf 122 = .ok (.goto 5, 3) := by decide +kernel
theorem dX12_faultOf_125 : decode cX12_faultOf 125 = .ok (.bipush (-6), 2) := by decide +kernel
theorem dX12_faultOf_127 : decode cX12_faultOf 127 = .ok (.istore 8, 2) := by decide +kernel
theorem dX12_faultOf_129 : decode cX12_faultOf 129 = .ok (.iconst 1, 1) := by decide +kernel
theorem dX12_faultOf_130 : decode cX12_faultOf 130 = .ok (.istore_n 3, 1) := by decide +kernel
theorem dX12_faultOf_131 : decode cX12_faultOf 131 = .ok (.goto 100, 3) := by decide +kernel
theorem dX12_faultOf_134 : decode cX12_faultOf 134 = .ok (.iload_n 1, 1) := by decide +kernel
theorem dX12_faultOf_135 : decode cX12_faultOf 135 = .ok (.iconst 2, 1) := by decide +kernel
theorem dX12_faultOf_136 : decode cX12_faultOf 136 = .ok (.if_icmp .ne 33, 3) := by decide +kernel
theorem dX12_faultOf_139 : decode cX12_faultOf 139 = .ok (.iload 6, 2) := by decide +kernel
theorem dX12_faultOf_141 : decode cX12_faultOf 141 = .ok (.bipush 95, 2) := by decide +kernel
theorem dX12_faultOf_143 : decode cX12_faultOf 143 = .ok (.if_icmp .ne 7, 3) := by decide +kernel
theorem dX12_faultOf_146 : decode cX12_faultOf 146 = .ok (.iconst 4, 1) := by decide +kernel
theorem dX12_faultOf_147 : decode cX12_faultOf 147 = .ok (.goto 14, 3) := by decide +kernel
theorem dX12_faultOf_150 : decode cX12_faultOf 150 = .ok (.iload 7, 2) := by decide +kernel
theorem dX12_faultOf_152 : decode cX12_faultOf 152 = .ok (.ifCond .eq 7, 3) := by decide +kernel
theorem dX12_faultOf_155 : decode cX12_faultOf 155 = .ok (.iconst 3, 1) := by decide +kernel
theorem dX12_faultOf_156 : decode cX12_faultOf 156 = .ok (.goto 5, 3) := by decide +kernel
theorem dX12_faultOf_159 : decode cX12_faultOf 159 = .ok (.bipush (-6), 2) := by decide +kernel
theorem dX12_faultOf_161 : decode cX12_faultOf 161 = .ok (.istore 8, 2) := by decide +kernel
theorem dX12_faultOf_163 : decode cX12_faultOf 163 = .ok (.iconst 1, 1) := by decide +kernel
theorem dX12_faultOf_164 : decode cX12_faultOf 164 = .ok (.istore 4, 2) := by decide +kernel
theorem dX12_faultOf_166 : decode cX12_faultOf 166 = .ok (.goto 65, 3) := by decide +kernel
theorem dX12_faultOf_169 : decode cX12_faultOf 169 = .ok (.iload_n 1, 1) := by decide +kernel
theorem dX12_faultOf_170 : decode cX12_faultOf 170 = .ok (.iconst 3, 1) := by decide +kernel
theorem dX12_faultOf_171 : decode cX12_faultOf 171 = .ok (.if_icmp .ne 23, 3) := by decide +kernel
theorem dX12_faultOf_174 : decode cX12_faultOf 174 = .ok (.iload 7, 2) := by decide +kernel
theorem dX12_faultOf_176 : decode cX12_faultOf 176 = .ok (.ifCond .eq 18, 3) := by decide +kernel
theorem dX12_faultOf_179 : decode cX12_faultOf 179 = .ok (.iload 4, 2) := by decide +kernel
theorem dX12_faultOf_181 : decode cX12_faultOf 181 = .ok (.iconst 4, 1) := by decide +kernel
theorem dX12_faultOf_182 : decode cX12_faultOf 182 = .ok (.if_icmp .ge 12, 3) := by decide +kernel
theorem dX12_faultOf_185 : decode cX12_faultOf 185 = .ok (.iinc 4 1, 3) := by decide +kernel
theorem dX12_faultOf_188 : decode cX12_faultOf 188 = .ok (.iconst 3, 1) := by decide +kernel
theorem dX12_faultOf_189 : decode cX12_faultOf 189 = .ok (.istore 8, 2) := by decide +kernel
theorem dX12_faultOf_191 : decode cX12_faultOf 191 = .ok (.goto 40, 3) := by decide +kernel
theorem dX12_faultOf_194 : decode cX12_faultOf 194 = .ok (.iload 6, 2) := by decide +kernel
theorem dX12_faultOf_196 : decode cX12_faultOf 196 = .ok (.bipush 124, 2) := by decide +kernel
theorem dX12_faultOf_198 : decode cX12_faultOf 198 = .ok (.if_icmp .ne 17, 3) := by decide +kernel
theorem dX12_faultOf_201 : decode cX12_faultOf 201 = .ok (.iload_n 3, 1) := by decide +kernel
theorem dX12_faultOf_202 : decode cX12_faultOf 202 = .ok (.iconst 4, 1) := by decide +kernel
theorem dX12_faultOf_203 : decode cX12_faultOf 203 = .ok (.if_icmp .ge 12, 3) := by decide +kernel
theorem dX12_faultOf_206 : decode cX12_faultOf 206 = .ok (.iinc 3 1, 3) := by decide +kernel
theorem dX12_faultOf_209 : decode cX12_faultOf 209 = .ok (.iconst 2, 1) := by decide +kernel
theorem dX12_faultOf_210 : decode cX12_faultOf 210 = .ok (.istore 8, 2) := by decide +kernel
theorem dX12_faultOf_212 : decode cX12_faultOf 212 = .ok (.goto 19, 3) := by decide +kernel
theorem dX12_faultOf_215 : decode cX12_faultOf 215 = .ok (.iload 6, 2) := by decide +kernel
theorem dX12_faultOf_217 : decode cX12_faultOf 217 = .ok (.bipush 59, 2) := by decide +kernel
theorem dX12_faultOf_219 : decode cX12_faultOf 219 = .ok (.if_icmp .ne 12, 3) := by decide +kernel
theorem dX12_faultOf_222 : decode cX12_faultOf 222 = .ok (.iload_n 2, 1) := by decide +kernel
theorem dX12_faultOf_223 : decode cX12_faultOf 223 = .ok (.bipush 63, 2) := by decide +kernel
theorem dX12_faultOf_225 : decode cX12_faultOf 225 = .ok (.if_icmp .eq 6, 3) := by decide +kernel
theorem dX12_faultOf_228 : decode cX12_faultOf 228 = .ok (.iconst 0, 1) := by decide +kernel
theorem dX12_faultOf_229 : decode cX12_faultOf 229 = .ok (.istore 8, 2) := by decide +kernel
theorem dX12_faultOf_231 : decode cX12_faultOf 231 = .ok (.iload 8, 2) := by decide +kernel
theorem dX12_faultOf_233 : decode cX12_faultOf 233 = .ok (.ifCond .ge 6, 3) := by decide +kernel
theorem dX12_faultOf_236 : decode cX12_faultOf 236 = .ok (.iload 5, 2) := by decide +kernel
theorem dX12_faultOf_238 : decode cX12_faultOf 238 = .ok (.ireturn, 1) := by decide +kernel
theorem dX12_faultOf_239 : decode cX12_faultOf 239 = .ok (.iload 8, 2) := by decide +kernel
theorem dX12_faultOf_241 : decode cX12_faultOf 241 = .ok (.istore_n 1, 1) := by decide +kernel
theorem dX12_faultOf_242 : decode cX12_faultOf 242 = .ok (.iinc 5 1, 3) := by decide +kernel
theorem dX12_faultOf_245 : decode cX12_faultOf 245 = .ok (.goto (-233), 3) := by decide +kernel
theorem dX12_faultOf_248 : decode cX12_faultOf 248 = .ok (.iload_n 1, 1) := by decide +kernel
theorem dX12_faultOf_249 : decode cX12_faultOf 249 = .ok (.iconst 2, 1) := by decide +kernel
theorem dX12_faultOf_250 : decode cX12_faultOf 250 = .ok (.if_icmp .le 8, 3) := by decide +kernel
theorem dX12_faultOf_253 : decode cX12_faultOf 253 = .ok (.bipush (-6), 2) := by decide +kernel
theorem dX12_faultOf_255 : decode cX12_faultOf 255 = .ok (.goto 7, 3) := by decide +kernel
theorem dX12_faultOf_258 : decode cX12_faultOf 258 = .ok (.aload_n 0, 1) := by decide +kernel
theorem dX12_faultOf_259 : decode cX12_faultOf 259 = .ok (.getfield 97, 3) := by decide +kernel
theorem dX12_faultOf_262 : decode cX12_faultOf 262 = .ok (.ireturn, 1) := by decide +kernel
set_option maxRecDepth 20000 in
theorem ggX12_fault_X12_faultOf : GoodIn wsX12_fault wsX12_faultOf := goodIn_r _ [5, 6, 7, 8, 9, 4, 10, 11, 12, 13, 14, 15, 16, 17, 18, 19, 20, 21, 22, 23, 24, 25, 26, 27, 28, 29, 30, 31, 32, 33, 34, 35, 36, 37, 38, 39, 40, 41, 42, 43, 44, 45, 46] (by decide +kernel) (by decide +kernel)
set_option maxRecDepth 20000 in
theorem gX12_fault_X12_faultOf : GoodIn wsX12_fault (wsV RX12 101 RX12 yX12_faultOf wsX12_faultOf) := goodIn_app (goodIn_of _ (by decide +kernel)) ggX12_fault_X12_faultOf
theorem dX12_fault_0 : decode cX12_fault 0 = .ok (.aload_n 0, 1) := by decide +kernel
theorem dX12_fault_1 : decode cX12_fault 1 = .ok (.invokevirtual 101, 3) := by decide +kernel
theorem dX12_fault_4 : decode cX12_fault 4 = .ok (.ireturn, 1) := by decide +kernel
set_option maxRecDepth 20000 in
theorem ggX12_grammar_X12_faultOf : GoodIn wsX12_grammar wsX12_faultOf := goodIn_r _ [11, 4, 2, 12, 13, 10, 14, 20, 21, 22, 23, 24, 25, 26, 27, 28, 29, 30, 31, 32, 33, 34, 35, 36, 37, 38, 39, 40, 41, 42, 43, 44, 45, 46, 47, 48, 49, 50, 51, 52, 53, 54, 55] (by decide +kernel) (by decide +kernel)
set_option maxRecDepth 20000 in
theorem gX12_grammar_X12_faultOf : GoodIn wsX12_grammar (wsV RX12 101 RX12 yX12_faultOf wsX12_faultOf) := goodIn_app (goodIn_of _ (by decide +kernel)) ggX12_grammar_X12_faultOf
set_option maxRecDepth 20000 in
theorem ggX12_grammar_X12_in : GoodIn wsX12_grammar wsX12_in := goodIn_r _ [14] (by decide +kernel) (by decide +kernel)
set_option maxRecDepth 20000 in
theorem gX12_grammar_X12_in : GoodIn wsX12_grammar (va_wsS RX12 93 yX12_in wsX12_in) := goodIn_app (goodIn_of _ (by decide +kernel)) ggX12_grammar_X12_in
set_option maxRecDepth 20000 in
theorem ggX12_grammar_X12_turn : GoodIn wsX12_grammar wsX12_turn := goodIn_r _ [18, 19, 20, 21, 22, 23, 24, 25, 26, 27, 28, 29, 30, 31, 32, 33, 34, 35, 36, 37, 38, 39, 40, 41, 42, 43, 44, 45, 46, 47, 48, 49, 50, 51, 52, 53, 54, 55] (by decide +kernel) (by decide +kernel)
set_option maxRecDepth 20000 in
theorem gX12_grammar_X12_turn : GoodIn wsX12_grammar (wsV RX12 108 RX12 yX12_turn wsX12_turn) := goodIn_app (goodIn_of _ (by decide +kernel)) ggX12_grammar_X12_turn
theorem dX12_grammar_0 : decode cX12_grammar 0 = .ok (.aload_n 0, 1) := by decide +kernel
theorem dX12_grammar_1 : decode cX12_grammar 1 = .ok (.invokevirtual 101, 3) := by decide +kernel
theorem dX12_grammar_4 : decode cX12_grammar 4 = .ok (.ifCond .lt 6, 3) := by decide +kernel
theorem dX12_grammar_7 : decode cX12_grammar 7 = .ok (.bipush (-5), 2) := by decide +kernel
theorem dX12_grammar_9 : decode cX12_grammar 9 = .ok (.ireturn, 1) := by decide +kernel
theorem dX12_grammar_10 : decode cX12_grammar 10 = .ok (.iconst 0, 1) := by decide +kernel
theorem dX12_grammar_11 : decode cX12_grammar 11 = .ok (.istore_n 1, 1) := by decide +kernel
theorem dX12_grammar_12 : decode cX12_grammar 12 = .ok (.iload_n 1, 1) := by decide +kernel
theorem dX12_grammar_13 : decode cX12_grammar 13 = .ok (.bipush 6, 2) := by decide +kernel
theorem dX12_grammar_15 : decode cX12_grammar 15 = .ok (.if_icmp .ge 16, 3) := by decide +kernel
theorem dX12_grammar_18 : decode cX12_grammar 18 = .ok (.aload_n 0, 1) := by decide +kernel
theorem dX12_grammar_19 : decode cX12_grammar 19 = .ok (.getfield 13, 3) := by decide +kernel
theorem dX12_grammar_22 : decode cX12_grammar 22 = .ok (.iload_n 1, 1) := by decide +kernel
theorem dX12_grammar_23 : decode cX12_grammar 23 = .ok (.iconst 0, 1) := by decide +kernel
theorem dX12_grammar_24 : decode cX12_grammar 24 = .ok (.iastore, 1) := by decide +kernel
theorem dX12_grammar_25 : decode cX12_grammar 25 = .ok (.iinc 1 1, 3) := by decide +kernel
theorem dX12_grammar_28 : decode cX12_grammar 28 = .ok (.goto (-16), 3) := by decide +kernel
theorem dX12_grammar_31 : decode cX12_grammar 31 = .ok (.aload_n 0, 1) := by decide +kernel
theorem dX12_grammar_32 : decode cX12_grammar 32 = .ok (.aload_n 0, 1) := by decide +kernel
theorem dX12_grammar_33 : decode cX12_grammar 33 = .ok (.getfield 7, 3) := by decide +kernel
theorem dX12_grammar_36 : decode cX12_grammar 36 = .ok (.iconst 0, 1) := by decide +kernel
theorem dX12_grammar_37 : decode cX12_grammar 37 = .ok (.iaload, 1) := by decide +kernel
theorem dX12_grammar_38 : decode cX12_grammar 38 = .ok (.bipush 65, 2) := by decide +kernel
theorem dX12_grammar_40 : decode cX12_grammar 40 = .ok (.isub, 1) := by decide +kernel
theorem dX12_grammar_41 : decode cX12_grammar 41 = .ok (.putfield 105, 3) := by decide +kernel
theorem dX12_grammar_44 : decode cX12_grammar 44 = .ok (.iconst 0, 1) := by decide +kernel
theorem dX12_grammar_45 : decode cX12_grammar 45 = .ok (.istore_n 1, 1) := by decide +kernel
theorem dX12_grammar_46 : decode cX12_grammar 46 = .ok (.iconst 0, 1) := by decide +kernel
theorem dX12_grammar_47 : decode cX12_grammar 47 = .ok (.istore_n 2, 1) := by decide +kernel
theorem dX12_grammar_48 : decode cX12_grammar 48 = .ok (.iload_n 2, 1) := by decide +kernel
theorem dX12_grammar_49 : decode cX12_grammar 49 = .ok (.aload_n 0, 1) := by decide +kernel
theorem dX12_grammar_50 : decode cX12_grammar 50 = .ok (.getfield 97, 3) := by decide +kernel
theorem dX12_grammar_53 : decode cX12_grammar 53 = .ok (.if_icmp .ge 207, 3) := by decide +kernel
theorem dX12_grammar_56 : decode cX12_grammar 56 = .ok (.aload_n 0, 1) := by decide +kernel
theorem dX12_grammar_57 : decode cX12_grammar 57 = .ok (.getfield 7, 3) := by decide +kernel
theorem dX12_grammar_60 : decode cX12_grammar 60 = .ok (.iload_n 2, 1) := by decide +kernel
theorem dX12_grammar_61 : decode cX12_grammar 61 = .ok (.iaload, 1) := by decide +kernel
theorem dX12_grammar_62 : decode cX12_grammar 62 = .ok (.bipush 65, 2) := by decide +kernel
theorem dX12_grammar_64 : decode cX12_grammar 64 = .ok (.isub, 1) := by decide +kernel
theorem dX12_grammar_65 : decode cX12_grammar 65 = .ok (.istore_n 3, 1) := by decide +kernel
theorem dX12_grammar_66 : decode cX12_grammar 66 = .ok (.iinc 1 1, 3) := by decide +kernel
theorem dX12_grammar_69 : decode cX12_grammar 69 = .ok (.iinc 2 2, 3) := by decide +kernel
theorem dX12_grammar_72 : decode cX12_grammar 72 = .ok (.iconst 1, 1) := by decide +kernel
theorem dX12_grammar_73 : decode cX12_grammar 73 = .ok (.istore 4, 2) := by decide +kernel
theorem dX12_grammar_75 : decode cX12_grammar 75 = .ok (.iload 4, 2) := by decide +kernel
theorem dX12_grammar_77 : decode cX12_grammar 77 = .ok (.ifCond .eq 180, 3) := by decide +kernel
theorem dX12_grammar_80 : decode cX12_grammar 80 = .ok (.iconst 5, 1) := by decide +kernel
theorem dX12_grammar_81 : decode cX12_grammar 81 = .ok (.iload_n 3, 1) := by decide +kernel
theorem dX12_grammar_82 : decode cX12_grammar 82 = .ok (.imul, 1) := by decide +kernel
theorem dX12_grammar_83 : decode cX12_grammar 83 = .ok (.aload_n 0, 1) := by decide +kernel
theorem dX12_grammar_84 : decode cX12_grammar 84 = .ok (.getfield 13, 3) := by decide +kernel
theorem dX12_grammar_87 : decode cX12_grammar 87 = .ok (.iload_n 3, 1) := by decide +kernel
theorem dX12_grammar_88 : decode cX12_grammar 88 = .ok (.iaload, 1) := by decide +kernel
theorem dX12_grammar_89 : decode cX12_grammar 89 = .ok (.iadd, 1) := by decide +kernel
theorem dX12_grammar_90 : decode cX12_grammar 90 = .ok (.istore 5, 2) := by decide +kernel
theorem dX12_grammar_92 : decode cX12_grammar 92 = .ok (.aload_n 0, 1) := by decide +kernel
theorem dX12_grammar_93 : decode cX12_grammar 93 = .ok (.getfield 16, 3) := by decide +kernel
theorem dX12_grammar_96 : decode cX12_grammar 96 = .ok (.iload 5, 2) := by decide +kernel
theorem dX12_grammar_98 : decode cX12_grammar 98 = .ok (.iconst 0, 1) := by decide +kernel
theorem dX12_grammar_99 : decode cX12_grammar 99 = .ok (.iastore, 1) := by decide +kernel
theorem dX12_grammar_100 : decode cX12_grammar 100 = .ok (.iload_n 2, 1) := by decide +kernel
theorem dX12_grammar_101 : decode cX12_grammar 101 = .ok (.aload_n 0, 1) := by decide +kernel
theorem dX12_grammar_102 : decode cX12_grammar 102 = .ok (.getfield 97, 3) := by decide +kernel
theorem dX12_grammar_105 : decode cX12_grammar 105 = .ok (.if_icmp .ge 110, 3) := by decide +kernel
theorem dX12_grammar_108 : decode cX12_grammar 108 = .ok (.aload_n 0, 1) := by decide +kernel
theorem dX12_grammar_109 : decode cX12_grammar 109 = .ok (.getfield 7, 3) := by decide +kernel
theorem dX12_grammar_112 : decode cX12_grammar 112 = .ok (.iload_n 2, 1) := by decide +kernel
theorem dX12_grammar_113 : decode cX12_grammar 113 = .ok (.iaload, 1) := by decide +kernel
theorem dX12_grammar_114 : decode cX12_grammar 114 = .ok (.bipush 124, 2) := by decide +kernel
theorem dX12_grammar_116 : decode cX12_grammar 116 = .ok (.if_icmp .eq 99, 3) := by decide +kernel
theorem dX12_grammar_119 : decode cX12_grammar 119 = .ok (.aload_n 0, 1) := by decide +kernel
theorem dX12_grammar_120 : decode cX12_grammar 120 = .ok (.getfield 7, 3) := by decide +kernel
theorem dX12_grammar_123 : decode cX12_grammar 123 = .ok (.iload_n 2, 1) := by decide +kernel
theorem dX12_grammar_124 : decode cX12_grammar 124 = .ok (.iaload, 1) := by decide +kernel
theorem dX12_grammar_125 : decode cX12_grammar 125 = .ok (.bipush 59, 2) := by decide +kernel
theorem dX12_grammar_127 : decode cX12_grammar 127 = .ok (.if_icmp .eq 88, 3) := by decide +kernel
theorem dX12_grammar_130 : decode cX12_grammar 130 = .ok (.aload_n 0, 1) := by decide +kernel
theorem dX12_grammar_131 : decode cX12_grammar 131 = .ok (.getfield 7, 3) := by decide +kernel
theorem dX12_grammar_134 : decode cX12_grammar 134 = .ok (.iload_n 2, 1) := by decide +kernel
theorem dX12_grammar_135 : decode cX12_grammar 135 = .ok (.iaload, 1) := by decide +kernel
theorem dX12_grammar_136 : decode cX12_grammar 136 = .ok (.bipush 95, 2) := by decide +kernel
theorem dX12_grammar_138 : decode cX12_grammar 138 = .ok (.if_icmp .eq 71, 3) := by decide +kernel
theorem dX12_grammar_141 : decode cX12_grammar 141 = .ok (.aload_n 0, 1) := by decide +kernel
theorem dX12_grammar_142 : decode cX12_grammar 142 = .ok (.getfield 19, 3) := by decide +kernel
theorem dX12_grammar_145 : decode cX12_grammar 145 = .ok (.iconst 4, 1) := by decide +kernel
theorem dX12_grammar_146 : decode cX12_grammar 146 = .ok (.iload 5, 2) := by decide +kernel
theorem dX12_grammar_148 : decode cX12_grammar 148 = .ok (.imul, 1) := by decide +kernel
theorem dX12_grammar_149 : decode cX12_grammar 149 = .ok (.aload_n 0, 1) := by decide +kernel
theorem dX12_grammar_150 : decode cX12_grammar 150 = .ok (.getfield 16, 3) := by decide +kernel
theorem dX12_grammar_153 : decode cX12_grammar 153 = .ok (.iload 5, 2) := by decide +kernel
theorem dX12_grammar_155 : decode cX12_grammar 155 = .ok (.iaload, 1) := by decide +kernel
theorem dX12_grammar_156 : decode cX12_grammar 156 = .ok (.iadd, 1) := by decide +kernel
theorem dX12_grammar_157 : decode cX12_grammar 157 = .ok (.aload_n 0, 1) := by decide +kernel
theorem dX12_grammar_158 : decode cX12_grammar 158 = .ok (.getfield 7, 3) := by decide +kernel
theorem dX12_grammar_161 : decode cX12_grammar 161 = .ok (.iload_n 2, 1) := by decide +kernel
theorem dX12_grammar_162 : decode cX12_grammar 162 = .ok (.iaload, 1) := by decide +kernel
theorem dX12_grammar_163 : decode cX12_grammar 163 = .ok (.bipush 97, 2) := by decide +kernel
theorem dX12_grammar_165 : decode cX12_grammar 165 = .ok (.bipush 100, 2) := by decide +kernel
theorem dX12_grammar_167 : decode cX12_grammar 167 = .ok (.invokestatic 93, 3) := by decide +kernel
theorem dX12_grammar_170 : decode cX12_grammar 170 = .ok (.ifCond .eq 15, 3) := by decide +kernel
theorem dX12_grammar_173 : decode cX12_grammar 173 = .ok (.aload_n 0, 1) := by decide +kernel
theorem dX12_grammar_174 : decode cX12_grammar 174 = .ok (.getfield 7, 3) := by decide +kernel
theorem dX12_grammar_177 : decode cX12_grammar 177 = .ok (.iload_n 2, 1) := by decide +kernel
theorem dX12_grammar_178 : decode cX12_grammar 178 = .ok (.iaload, 1) := by decide +kernel
theorem dX12_grammar_179 : decode cX12_grammar 179 = .ok (.bipush 97, 2) := by decide +kernel
theorem dX12_grammar_181 : decode cX12_grammar 181 = .ok (.isub, 1) := by decide +kernel
theorem dX12_grammar_182 : decode cX12_grammar 182 = .ok (.goto 15, 3) := by decide +kernel
theorem dX12_grammar_185 : decode cX12_grammar 185 = .ok (.bipush 10, 2) := by decide +kernel
theorem dX12_grammar_187 : decode cX12_grammar 187 = .ok (.aload_n 0, 1) := by decide +kernel
theorem dX12_grammar_188 : decode cX12_grammar 188 = .ok (.getfield 7, 3) := by decide +kernel
theorem dX12_grammar_191 : decode cX12_grammar 191 = .ok (.iload_n 2, 1) := by decide +kernel
theorem dX12_grammar_192 : decode cX12_grammar 192 = .ok (.iaload, 1) := by decide +kernel
theorem dX12_grammar_193 : decode cX12_grammar 193 = .ok (.iadd, 1) := by decide +kernel
theorem dX12_grammar_194 : decode cX12_grammar 194 = .ok (.bipush 65, 2) := by decide +kernel
theorem dX12_grammar_196 : decode cX12_grammar 196 = .ok (.isub, 1) := by decide +kernel
theorem dX12_grammar_197 : decode cX12_grammar 197 = .ok (.iastore, 1) := by decide +kernel
theorem dX12_grammar_198 : decode cX12_grammar 198 = .ok (.aload_n 0, 1) := by decide +kernel
theorem dX12_grammar_199 : decode cX12_grammar 199 = .ok (.getfield 16, 3) := by decide +kernel
theorem dX12_grammar_202 : decode cX12_grammar 202 = .ok (.iload 5, 2) := by decide +kernel
theorem dX12_grammar_204 : decode cX12_grammar 204 = .ok (.dup2, 1) := by decide +kernel
theorem dX12_grammar_205 : decode cX12_grammar 205 = .ok (.iaload, 1) := by decide +kernel
theorem dX12_grammar_206 : decode cX12_grammar 206 = .ok (.iconst 1, 1) := by decide +kernel
theorem dX12_grammar_207 : decode cX12_grammar 207 = .ok (.iadd, 1) := by decide +kernel
theorem dX12_grammar_208 : decode cX12_grammar 208 = .ok (.iastore, 1) := by decide +kernel
theorem dX12_grammar_209 : decode cX12_grammar 209 = .ok (.iinc 2 1, 3) := by decide +kernel
theorem dX12_grammar_212 : decode cX12_grammar 212 = .ok (.goto (-112), 3) := by decide +kernel
theorem dX12_grammar_215 : decode cX12_grammar 215 = .ok (.aload_n 0, 1) := by decide +kernel
theorem dX12_grammar_216 : decode cX12_grammar 216 = .ok (.getfield 13, 3) := by decide +kernel
theorem dX12_grammar_219 : decode cX12_grammar 219 = .ok (.iload_n 3, 1) := by decide +kernel
theorem dX12_grammar_220 : decode cX12_grammar 220 = .ok (.dup2, 1) := by decide +kernel
theorem dX12_grammar_221 : decode cX12_grammar 221 = .ok (.iaload, 1) := by decide +kernel
theorem dX12_grammar_222 : decode cX12_grammar 222 = .ok (.iconst 1, 1) := by decide +kernel
theorem dX12_grammar_223 : decode cX12_grammar 223 = .ok (.iadd, 1) := by decide +kernel
theorem dX12_grammar_224 : decode cX12_grammar 224 = .ok (.iastore, 1) := by decide +kernel
theorem dX12_grammar_225 : decode cX12_grammar 225 = .ok (.iload_n 2, 1) := by decide +kernel
theorem dX12_grammar_226 : decode cX12_grammar 226 = .ok (.aload_n 0, 1) := by decide +kernel
theorem dX12_grammar_227 : decode cX12_grammar 227 = .ok (.getfield 97, 3) := by decide +kernel
theorem dX12_grammar_230 : decode cX12_grammar 230 = .ok (.if_icmp .ge 18, 3) := by decide +kernel
theorem dX12_grammar_233 : decode cX12_grammar 233 = .ok (.aload_n 0, 1) := by decide +kernel
theorem dX12_grammar_234 : decode cX12_grammar 234 = .ok (.getfield 7, 3) := by decide +kernel
theorem dX12_grammar_237 : decode cX12_grammar 237 = .ok (.iload_n 2, 1) := by decide +kernel
theorem dX12_grammar_238 : decode cX12_grammar 238 = .ok (.iaload, 1) := by decide +kernel
theorem dX12_grammar_239 : decode cX12_grammar 239 = .ok (.bipush 124, 2) := by decide +kernel
theorem dX12_grammar_241 : decode cX12_grammar 241 = .ok (.if_icmp .ne 7, 3) := by decide +kernel
theorem dX12_grammar_244 : decode cX12_grammar 244 = .ok (.iconst 1, 1) := by decide +kernel
theorem dX12_grammar_245 : decode cX12_grammar 245 = .ok (.goto 4, 3) := by decide +kernel
theorem dX12_grammar_248 : decode cX12_grammar 248 = .ok (.iconst 0, 1) := by decide +kernel
theorem dX12_grammar_249 : decode cX12_grammar 249 = .ok (.istore 4, 2) := by decide +kernel
theorem dX12_grammar_251 : decode cX12_grammar 251 = .ok (.iinc 2 1, 3) := by decide +kernel
theorem dX12_grammar_254 : decode cX12_grammar 254 = .ok (.goto (-179), 3) := by decide +kernel
theorem dX12_grammar_257 : decode cX12_grammar 257 = .ok (.goto (-209), 3) := by decide +kernel
theorem dX12_grammar_260 : decode cX12_grammar 260 = .ok (.aload_n 0, 1) := by decide +kernel
theorem dX12_grammar_261 : decode cX12_grammar 261 = .ok (.iconst 0, 1) := by decide +kernel
theorem dX12_grammar_262 : decode cX12_grammar 262 = .ok (.putfield 97, 3) := by decide +kernel
theorem dX12_grammar_265 : decode cX12_grammar 265 = .ok (.aload_n 0, 1) := by decide +kernel
theorem dX12_grammar_266 : decode cX12_grammar 266 = .ok (.invokevirtual 108, 3) := by decide +kernel
theorem dX12_grammar_269 : decode cX12_grammar 269 = .ok (.iload_n 1, 1) := by decide +kernel
theorem dX12_grammar_270 : decode cX12_grammar 270 = .ok (.ireturn, 1) := by decide +kernel
set_option maxRecDepth 20000 in
theorem ggX12_rule_X12_isName : GoodIn wsX12_rule wsX12_isName := goodIn_r _ [7, 8, 9, 6, 10] (by decide +kernel) (by decide +kernel)
set_option maxRecDepth 20000 in
theorem gX12_rule_X12_isName : GoodIn wsX12_rule (va_wsS RX12 111 yX12_isName wsX12_isName) := goodIn_app (goodIn_of _ (by decide +kernel)) ggX12_rule_X12_isName
set_option maxRecDepth 20000 in
theorem ggX12_rule_X12_in : GoodIn wsX12_rule wsX12_in := goodIn_r _ [10] (by decide +kernel) (by decide +kernel)
set_option maxRecDepth 20000 in
theorem gX12_rule_X12_in : GoodIn wsX12_rule (va_wsS RX12 93 yX12_in wsX12_in) := goodIn_app (goodIn_of _ (by decide +kernel)) ggX12_rule_X12_in
theorem dX12_rule_0 : decode cX12_rule 0 = .ok (.iload_n 1, 1) := by decide +kernel
theorem dX12_rule_1 : decode cX12_rule 1 = .ok (.invokestatic 111, 3) := by decide +kernel
theorem dX12_rule_4 : decode cX12_rule 4 = .ok (.ifCond .eq 19, 3) := by decide +kernel
theorem dX12_rule_7 : decode cX12_rule 7 = .ok (.iload_n 2, 1) := by decide +kernel
theorem dX12_rule_8 : decode cX12_rule 8 = .ok (.iconst 0, 1) := by decide +kernel
theorem dX12_rule_9 : decode cX12_rule 9 = .ok (.aload_n 0, 1) := by decide +kernel
theorem dX12_rule_10 : decode cX12_rule 10 = .ok (.getfield 13, 3) := by decide +kernel
theorem dX12_rule_13 : decode cX12_rule 13 = .ok (.iload_n 1, 1) := by decide +kernel
theorem dX12_rule_14 : decode cX12_rule 14 = .ok (.iaload, 1) := by decide +kernel
theorem dX12_rule_15 : decode cX12_rule 15 = .ok (.iconst 1, 1) := by decide +kernel
theorem dX12_rule_16 : decode cX12_rule 16 = .ok (.isub, 1) := by decide +kernel
theorem dX12_rule_17 : decode cX12_rule 17 = .ok (.invokestatic 93, 3) := by decide +kernel
theorem dX12_rule_20 : decode cX12_rule 20 = .ok (.ifCond .ne 5, 3) := by decide +kernel
theorem dX12_rule_23 : decode cX12_rule 23 = .ok (.iconst (-1), 1) := by decide +kernel
theorem dX12_rule_24 : decode cX12_rule 24 = .ok (.ireturn, 1) := by decide +kernel
theorem dX12_rule_25 : decode cX12_rule 25 = .ok (.iconst 5, 1) := by decide +kernel
theorem dX12_rule_26 : decode cX12_rule 26 = .ok (.iload_n 1, 1) := by decide +kernel
theorem dX12_rule_27 : decode cX12_rule 27 = .ok (.imul, 1) := by decide +kernel
theorem dX12_rule_28 : decode cX12_rule 28 = .ok (.iload_n 2, 1) := by decide +kernel
theorem dX12_rule_29 : decode cX12_rule 29 = .ok (.iadd, 1) := by decide +kernel
theorem dX12_rule_30 : decode cX12_rule 30 = .ok (.istore 4, 2) := by decide +kernel
theorem dX12_rule_32 : decode cX12_rule 32 = .ok (.iload_n 3, 1) := by decide +kernel
theorem dX12_rule_33 : decode cX12_rule 33 = .ok (.iconst (-1), 1) := by decide +kernel
theorem dX12_rule_34 : decode cX12_rule 34 = .ok (.if_icmp .ne 13, 3) := by decide +kernel
theorem dX12_rule_37 : decode cX12_rule 37 = .ok (.aload_n 0, 1) := by decide +kernel
theorem dX12_rule_38 : decode cX12_rule 38 = .ok (.getfield 16, 3) := by decide +kernel
theorem dX12_rule_41 : decode cX12_rule 41 = .ok (.iload 4, 2) := by decide +kernel
theorem dX12_rule_43 : decode cX12_rule 43 = .ok (.iaload, 1) := by decide +kernel
theorem dX12_rule_44 : decode cX12_rule 44 = .ok (.goto 36, 3) := by decide +kernel
theorem dX12_rule_47 : decode cX12_rule 47 = .ok (.iload_n 3, 1) := by decide +kernel
theorem dX12_rule_48 : decode cX12_rule 48 = .ok (.iconst 0, 1) := by decide +kernel
theorem dX12_rule_49 : decode cX12_rule 49 = .ok (.aload_n 0, 1) := by decide +kernel
theorem dX12_rule_50 : decode cX12_rule 50 = .ok (.getfield 16, 3) := by decide +kernel
theorem dX12_rule_53 : decode cX12_rule 53 = .ok (.iload 4, 2) := by decide +kernel
theorem dX12_rule_55 : decode cX12_rule 55 = .ok (.iaload, 1) := by decide +kernel
theorem dX12_rule_56 : decode cX12_rule 56 = .ok (.iconst 1, 1) := by decide +kernel
theorem dX12_rule_57 : decode cX12_rule 57 = .ok (.isub, 1) := by decide +kernel
theorem dX12_rule_58 : decode cX12_rule 58 = .ok (.invokestatic 93, 3) := by decide +kernel
theorem dX12_rule_61 : decode cX12_rule 61 = .ok (.ifCond .eq 17, 3) := by decide +kernel
theorem dX12_rule_64 : decode cX12_rule 64 = .ok (.aload_n 0, 1) := by decide +kernel
theorem dX12_rule_65 : decode cX12_rule 65 = .ok (.getfield 19, 3) := by decide +kernel
theorem dX12_rule_68 : decode cX12_rule 68 = .ok (.iconst 4, 1) := by decide +kernel
theorem dX12_rule_69 : decode cX12_rule 69 = .ok (.iload 4, 2) := by decide +kernel
theorem dX12_rule_71 : decode cX12_rule 71 = .ok (.imul, 1) := by decide +kernel
theorem dX12_rule_72 : decode cX12_rule 72 = .ok (.iload_n 3, 1) := by decide +kernel
theorem dX12_rule_73 : decode cX12_rule 73 = .ok (.iadd, 1) := by decide +kernel
theorem dX12_rule_74 : decode cX12_rule 74 = .ok (.iaload, 1) := by decide +kernel
theorem dX12_rule_75 : decode cX12_rule 75 = .ok (.goto 5, 3) := by decide +kernel
theorem dX12_rule_78 : decode cX12_rule 78 = .ok (.bipush (-6), 2) := by decide +kernel
theorem dX12_rule_80 : decode cX12_rule 80 = .ok (.ireturn, 1) := by decide +kernel
theorem dX12_one_0 : decode cX12_one 0 = .ok (.iload_n 1, 1) := by decide +kernel
theorem dX12_one_1 : decode cX12_one 1 = .ok (.bipush 10, 2) := by decide +kernel
theorem dX12_one_3 : decode cX12_one 3 = .ok (.if_icmp .lt 53, 3) := by decide +kernel
theorem dX12_one_6 : decode cX12_one 6 = .ok (.bipush 49, 2) := by decide +kernel
theorem dX12_one_8 : decode cX12_one 8 = .ok (.iload_n 1, 1) := by decide +kernel
theorem dX12_one_9 : decode cX12_one 9 = .ok (.bipush 10, 2) := by decide +kernel
theorem dX12_one_11 : decode cX12_one 11 = .ok (.isub, 1) := by decide +kernel
theorem dX12_one_12 : decode cX12_one 12 = .ok (.imul, 1) := by decide +kernel
theorem dX12_one_13 : decode cX12_one 13 = .ok (.bipush 7, 2) := by decide +kernel
theorem dX12_one_15 : decode cX12_one 15 = .ok (.iload_n 2, 1) := by decide +kernel
theorem dX12_one_16 : decode cX12_one 16 = .ok (.imul, 1) := by decide +kernel
theorem dX12_one_17 : decode cX12_one 17 = .ok (.iadd, 1) := by decide +kernel
theorem dX12_one_18 : decode cX12_one 18 = .ok (.iload_n 3, 1) := by decide +kernel
theorem dX12_one_19 : decode cX12_one 19 = .ok (.iadd, 1) := by decide +kernel
theorem dX12_one_20 : decode cX12_one 20 = .ok (.istore 4, 2) := by decide +kernel
theorem dX12_one_22 : decode cX12_one 22 = .ok (.aload_n 0, 1) := by decide +kernel
theorem dX12_one_23 : decode cX12_one 23 = .ok (.aload_n 0, 1) := by decide +kernel
theorem dX12_one_24 : decode cX12_one 24 = .ok (.getfield 37, 3) := by decide +kernel
theorem dX12_one_27 : decode cX12_one 27 = .ok (.iload 4, 2) := by decide +kernel
theorem dX12_one_29 : decode cX12_one 29 = .ok (.iaload, 1) := by decide +kernel
theorem dX12_one_30 : decode cX12_one 30 = .ok (.putfield 115, 3) := by decide +kernel
theorem dX12_one_33 : decode cX12_one 33 = .ok (.aload_n 0, 1) := by decide +kernel
theorem dX12_one_34 : decode cX12_one 34 = .ok (.aload_n 0, 1) := by decide +kernel
theorem dX12_one_35 : decode cX12_one 35 = .ok (.getfield 40, 3) := by decide +kernel
theorem dX12_one_38 : decode cX12_one 38 = .ok (.iload 4, 2) := by decide +kernel
theorem dX12_one_40 : decode cX12_one 40 = .ok (.iaload, 1) := by decide +kernel
theorem dX12_one_41 : decode cX12_one 41 = .ok (.putfield 118, 3) := by decide +kernel
theorem dX12_one_44 : decode cX12_one 44 = .ok (.aload_n 0, 1) := by decide +kernel
theorem dX12_one_45 : decode cX12_one 45 = .ok (.aload_n 0, 1) := by decide +kernel
theorem dX12_one_46 : decode cX12_one 46 = .ok (.getfield 43, 3) := by decide +kernel
theorem dX12_one_49 : decode cX12_one 49 = .ok (.iload 4, 2) := by decide +kernel
theorem dX12_one_51 : decode cX12_one 51 = .ok (.iaload, 1) := by decide +kernel
theorem dX12_one_52 : decode cX12_one 52 = .ok (.putfield 121, 3) := by decide +kernel
theorem dX12_one_55 : decode cX12_one 55 = .ok (.return_, 1) := by decide +kernel
theorem dX12_one_56 : decode cX12_one 56 = .ok (.aload_n 0, 1) := by decide +kernel
theorem dX12_one_57 : decode cX12_one 57 = .ok (.iload_n 3, 1) := by decide +kernel
theorem dX12_one_58 : decode cX12_one 58 = .ok (.iload_n 2, 1) := by decide +kernel
theorem dX12_one_59 : decode cX12_one 59 = .ok (.isub, 1) := by decide +kernel
theorem dX12_one_60 : decode cX12_one 60 = .ok (.aload_n 0, 1) := by decide +kernel
theorem dX12_one_61 : decode cX12_one 61 = .ok (.getfield 31, 3) := by decide +kernel
theorem dX12_one_64 : decode cX12_one 64 = .ok (.iconst 0, 1) := by decide +kernel
theorem dX12_one_65 : decode cX12_one 65 = .ok (.iaload, 1) := by decide +kernel
theorem dX12_one_66 : decode cX12_one 66 = .ok (.imul, 1) := by decide +kernel
theorem dX12_one_67 : decode cX12_one 67 = .ok (.aload_n 0, 1) := by decide +kernel
theorem dX12_one_68 : decode cX12_one 68 = .ok (.getfield 31, 3) := by decide +kernel
theorem dX12_one_71 : decode cX12_one 71 = .ok (.iconst 1, 1) := by decide +kernel
theorem dX12_one_72 : decode cX12_one 72 = .ok (.iaload, 1) := by decide +kernel
theorem dX12_one_73 : decode cX12_one 73 = .ok (.iadd, 1) := by decide +kernel
theorem dX12_one_74 : decode cX12_one 74 = .ok (.putfield 115, 3) := by decide +kernel
theorem dX12_one_77 : decode cX12_one 77 = .ok (.iload_n 2, 1) := by decide +kernel
theorem dX12_one_78 : decode cX12_one 78 = .ok (.istore 4, 2) := by decide +kernel
theorem dX12_one_80 : decode cX12_one 80 = .ok (.iload 4, 2) := by decide +kernel
theorem dX12_one_82 : decode cX12_one 82 = .ok (.iload_n 3, 1) := by decide +kernel
theorem dX12_one_83 : decode cX12_one 83 = .ok (.if_icmp .ge 67, 3) := by decide +kernel
theorem dX12_one_86 : decode cX12_one 86 = .ok (.iload_n 3, 1) := by decide +kernel
theorem dX12_one_87 : decode cX12_one 87 = .ok (.iload_n 2, 1) := by decide +kernel
theorem dX12_one_88 : decode cX12_one 88 = .ok (.isub, 1) := by decide +kernel
theorem dX12_one_89 : decode cX12_one 89 = .ok (.iconst 1, 1) := by decide +kernel
theorem dX12_one_90 : decode cX12_one 90 = .ok (.isub, 1) := by decide +kernel
theorem dX12_one_91 : decode cX12_one 91 = .ok (.aload_n 0, 1) := by decide +kernel
theorem dX12_one_92 : decode cX12_one 92 = .ok (.getfield 31, 3) := by decide +kernel
theorem dX12_one_95 : decode cX12_one 95 = .ok (.iconst 0, 1) := by decide +kernel
theorem dX12_one_96 : decode cX12_one 96 = .ok (.iaload, 1) := by decide +kernel
theorem dX12_one_97 : decode cX12_one 97 = .ok (.imul, 1) := by decide +kernel
theorem dX12_one_98 : decode cX12_one 98 = .ok (.aload_n 0, 1) := by decide +kernel
theorem dX12_one_99 : decode cX12_one 99 = .ok (.getfield 34, 3) := by decide +kernel
theorem dX12_one_102 : decode cX12_one 102 = .ok (.iload 4, 2) := by decide +kernel
theorem dX12_one_104 : decode cX12_one 104 = .ok (.iaload, 1) := by decide +kernel
theorem dX12_one_105 : decode cX12_one 105 = .ok (.iload_n 1, 1) := by decide +kernel
theorem dX12_one_106 : decode cX12_one 106 = .ok (.if_icmp .ne 7, 3) := by decide +kernel
theorem dX12_one_109 : decode cX12_one 109 = .ok (.iconst 0, 1) := by decide +kernel
theorem dX12_one_110 : decode cX12_one 110 = .ok (.goto 9, 3) := by decide +kernel
theorem dX12_one_113 : decode cX12_one 113 = .ok (.aload_n 0, 1) := by decide +kernel
theorem dX12_one_114 : decode cX12_one 114 = .ok (.getfield 31, 3) := by decide +kernel
theorem dX12_one_117 : decode cX12_one 117 = .ok (.iconst 2, 1) := by decide +kernel
theorem dX12_one_118 : decode cX12_one 118 = .ok (.iaload, 1) := by decide +kernel
theorem dX12_one_119 : decode cX12_one 119 = .ok (.iadd, 1) := by decide +kernel
theorem dX12_one_120 : decode cX12_one 120 = .ok (.istore 5, 2) := by decide +kernel
theorem dX12_one_122 : decode cX12_one 122 = .ok (.aload_n 0, 1) := by decide +kernel
theorem dX12_one_123 : decode cX12_one 123 = .ok (.iload 5, 2) := by decide +kernel
theorem dX12_one_125 : decode cX12_one 125 = .ok (.aload_n 0, 1) := by decide +kernel
theorem dX12_one_126 : decode cX12_one 126 = .ok (.getfield 115, 3) := by decide +kernel
theorem dX12_one_129 : decode cX12_one 129 = .ok (.if_icmp .ge 8, 3) := by decide +kernel
theorem dX12_one_132 : decode cX12_one 132 = .ok (.iload 5, 2) := by decide +kernel
theorem dX12_one_134 : decode cX12_one 134 = .ok (.goto 7, 3) := by decide +kernel
theorem dX12_one_137 : decode cX12_one 137 = .ok (.aload_n 0, 1) := by decide +kernel
theorem dX12_one_138 : decode cX12_one 138 = .ok (.getfield 115, 3) := by decide +kernel
theorem dX12_one_141 : decode cX12_one 141 = .ok (.putfield 115, 3) := by decide +kernel
theorem dX12_one_144 : decode cX12_one 144 = .ok (.iinc 4 1, 3) := by decide +kernel
theorem dX12_one_147 : decode cX12_one 147 = .ok (.goto (-67), 3) := by decide +kernel
theorem dX12_one_150 : decode cX12_one 150 = .ok (.aload_n 0, 1) := by decide +kernel
theorem dX12_one_151 : decode cX12_one 151 = .ok (.iconst 1, 1) := by decide +kernel
theorem dX12_one_152 : decode cX12_one 152 = .ok (.putfield 118, 3) := by decide +kernel
theorem dX12_one_155 : decode cX12_one 155 = .ok (.aload_n 0, 1) := by decide +kernel
theorem dX12_one_156 : decode cX12_one 156 = .ok (.iload_n 1, 1) := by decide +kernel
theorem dX12_one_157 : decode cX12_one 157 = .ok (.putfield 121, 3) := by decide +kernel
theorem dX12_one_160 : decode cX12_one 160 = .ok (.return_, 1) := by decide +kernel
theorem dX12_isBetter_0 : decode cX12_isBetter 0 = .ok (.iload_n 0, 1) := by decide +kernel
theorem dX12_isBetter_1 : decode cX12_isBetter 1 = .ok (.iload_n 3, 1) := by decide +kernel
theorem dX12_isBetter_2 : decode cX12_isBetter 2 = .ok (.if_icmp .eq 14, 3) := by decide +kernel
theorem dX12_isBetter_5 : decode cX12_isBetter 5 = .ok (.iload_n 0, 1) := by decide +kernel
theorem dX12_isBetter_6 : decode cX12_isBetter 6 = .ok (.iload_n 3, 1) := by decide +kernel
theorem dX12_isBetter_7 : decode cX12_isBetter 7 = .ok (.if_icmp .ge 7, 3) := by decide +kernel
theorem dX12_isBetter_10 : decode cX12_isBetter 10 = .ok (.iconst 1, 1) := by decide +kernel
theorem dX12_isBetter_11 : decode cX12_isBetter 11 = .ok (.goto 4, 3) := by decide +kernel
theorem dX12_isBetter_14 : decode cX12_isBetter 14 = .ok (.iconst 0, 1) := by decide +kernel
theorem dX12_isBetter_15 : decode cX12_isBetter 15 = .ok (.ireturn, 1) := by decide +kernel
theorem dX12_isBetter_16 : decode cX12_isBetter 16 = .ok (.iload_n 1, 1) := by decide +kernel
theorem dX12_isBetter_17 : decode cX12_isBetter 17 = .ok (.iload 4, 2) := by decide +kernel
theorem dX12_isBetter_19 : decode cX12_isBetter 19 = .ok (.if_icmp .eq 17, 3) := by decide +kernel
theorem dX12_isBetter_22 : decode cX12_isBetter 22 = .ok (.iload_n 1, 1) := by decide +kernel
theorem dX12_isBetter_23 : decode cX12_isBetter 23 = .ok (.iload 4, 2) := by decide +kernel
theorem dX12_isBetter_25 : decode cX12_isBetter 25 = .ok (.if_icmp .ge 7, 3) := by decide +kernel
theorem dX12_isBetter_28 : decode cX12_isBetter 28 = .ok (.iconst 1, 1) := by decide +kernel
theorem dX12_isBetter_29 : decode cX12_isBetter 29 = .ok (.goto 24, 3) := by decide +kernel
theorem dX12_isBetter_32 : decode cX12_isBetter 32 = .ok (.iconst 0, 1) := by decide +kernel
theorem dX12_isBetter_33 : decode cX12_isBetter 33 = .ok (.goto 20, 3) := by decide +kernel
theorem dX12_isBetter_36 : decode cX12_isBetter 36 = .ok (.iload_n 1, 1) := by decide +kernel
theorem dX12_isBetter_37 : decode cX12_isBetter 37 = .ok (.bipush 12, 2) := by decide +kernel
theorem dX12_isBetter_39 : decode cX12_isBetter 39 = .ok (.if_icmp .gt 13, 3) := by decide +kernel
theorem dX12_isBetter_42 : decode cX12_isBetter 42 = .ok (.iload_n 2, 1) := by decide +kernel
theorem dX12_isBetter_43 : decode cX12_isBetter 43 = .ok (.iload 5, 2) := by decide +kernel
theorem dX12_isBetter_45 : decode cX12_isBetter 45 = .ok (.if_icmp .ge 7, 3) := by decide +kernel
theorem dX12_isBetter_48 : decode cX12_isBetter 48 = .ok (.iconst 1, 1) := by decide +kernel
theorem dX12_isBetter_49 : decode cX12_isBetter 49 = .ok (.goto 4, 3) := by decide +kernel
theorem dX12_isBetter_52 : decode cX12_isBetter 52 = .ok (.iconst 0, 1) := by decide +kernel
theorem dX12_isBetter_53 : decode cX12_isBetter 53 = .ok (.ireturn, 1) := by decide +kernel
set_option maxRecDepth 20000 in
theorem ggX12_better_X12_one : GoodIn wsX12_better wsX12_one := goodIn_r _ [18, 11, 7, 12, 8, 13, 9, 10, 19, 23, 24, 25, 26, 27, 28, 29, 30, 31, 32, 33, 34, 35, 36, 37, 38, 39, 40, 41, 42, 43, 44, 45, 46, 47, 48, 49, 50, 51, 52, 53, 54, 55, 56, 57, 58] (by decide +kernel) (by decide +kernel)
set_option maxRecDepth 20000 in
theorem gX12_better_X12_one : GoodIn wsX12_better (wsV RX12 125 RX12 yX12_one wsX12_one) := goodIn_app (goodIn_of _ (by decide +kernel)) ggX12_better_X12_one
set_option maxRecDepth 20000 in
theorem ggX12_better_X12_isBetter : GoodIn wsX12_better wsX12_isBetter := goodIn_r _ [22] (by decide +kernel) (by decide +kernel)
set_option maxRecDepth 20000 in
theorem gX12_better_X12_isBetter : GoodIn wsX12_better (va_wsS RX12 129 yX12_isBetter wsX12_isBetter) := goodIn_app (goodIn_of _ (by decide +kernel)) ggX12_better_X12_isBetter
theorem dX12_better_0 : decode cX12_better 0 = .ok (.iconst 5, 1) := by decide +kernel
theorem dX12_better_1 : decode cX12_better 1 = .ok (.iload_n 1, 1) := by decide +kernel
theorem dX12_better_2 : decode cX12_better 2 = .ok (.imul, 1) := by decide +kernel
theorem dX12_better_3 : decode cX12_better 3 = .ok (.iload_n 2, 1) := by decide +kernel
theorem dX12_better_4 : decode cX12_better 4 = .ok (.iadd, 1) := by decide +kernel
theorem dX12_better_5 : decode cX12_better 5 = .ok (.istore 5, 2) := by decide +kernel
theorem dX12_better_7 : decode cX12_better 7 = .ok (.aload_n 0, 1) := by decide +kernel
theorem dX12_better_8 : decode cX12_better 8 = .ok (.getfield 16, 3) := by decide +kernel
theorem dX12_better_11 : decode cX12_better 11 = .ok (.iload 5, 2) := by decide +kernel
theorem dX12_better_13 : decode cX12_better 13 = .ok (.iaload, 1) := by decide +kernel
theorem dX12_better_14 : decode cX12_better 14 = .ok (.istore 6, 2) := by decide +kernel
theorem dX12_better_16 : decode cX12_better 16 = .ok (.iconst 0, 1) := by decide +kernel
theorem dX12_better_17 : decode cX12_better 17 = .ok (.istore 7, 2) := by decide +kernel
theorem dX12_better_19 : decode cX12_better 19 = .ok (.iload 7, 2) := by decide +kernel
theorem dX12_better_21 : decode cX12_better 21 = .ok (.bipush 7, 2) := by decide +kernel
theorem dX12_better_23 : decode cX12_better 23 = .ok (.iload 6, 2) := by decide +kernel
theorem dX12_better_25 : decode cX12_better 25 = .ok (.iconst 1, 1) := by decide +kernel
theorem dX12_better_26 : decode cX12_better 26 = .ok (.iadd, 1) := by decide +kernel
theorem dX12_better_27 : decode cX12_better 27 = .ok (.imul, 1) := by decide +kernel
theorem dX12_better_28 : decode cX12_better 28 = .ok (.if_icmp .ge 18, 3) := by decide +kernel
theorem dX12_better_31 : decode cX12_better 31 = .ok (.aload_n 0, 1) := by decide +kernel
theorem dX12_better_32 : decode cX12_better 32 = .ok (.getfield 46, 3) := by decide +kernel
theorem dX12_better_35 : decode cX12_better 35 = .ok (.iload 7, 2) := by decide +kernel
theorem dX12_better_37 : decode cX12_better 37 = .ok (.ldc 124, 2) := by decide +kernel
theorem dX12_better_39 : decode cX12_better 39 = .ok (.iastore, 1) := by decide +kernel
theorem dX12_better_40 : decode cX12_better 40 = .ok (.iinc 7 1, 3) := by decide +kernel
theorem dX12_better_43 : decode cX12_better 43 = .ok (.goto (-24), 3) := by decide +kernel
theorem dX12_better_46 : decode cX12_better 46 = .ok (.aload_n 0, 1) := by decide +kernel
theorem dX12_better_47 : decode cX12_better 47 = .ok (.getfield 46, 3) := by decide +kernel
theorem dX12_better_50 : decode cX12_better 50 = .ok (.iload_n 3, 1) := by decide +kernel
theorem dX12_better_51 : decode cX12_better 51 = .ok (.iconst 0, 1) := by decide +kernel
theorem dX12_better_52 : decode cX12_better 52 = .ok (.iastore, 1) := by decide +kernel
theorem dX12_better_53 : decode cX12_better 53 = .ok (.aload_n 0, 1) := by decide +kernel
theorem dX12_better_54 : decode cX12_better 54 = .ok (.getfield 49, 3) := by decide +kernel
theorem dX12_better_57 : decode cX12_better 57 = .ok (.iload_n 3, 1) := by decide +kernel
theorem dX12_better_58 : decode cX12_better 58 = .ok (.iconst 0, 1) := by decide +kernel
theorem dX12_better_59 : decode cX12_better 59 = .ok (.iastore, 1) := by decide +kernel
theorem dX12_better_60 : decode cX12_better 60 = .ok (.aload_n 0, 1) := by decide +kernel
theorem dX12_better_61 : decode cX12_better 61 = .ok (.getfield 52, 3) := by decide +kernel
theorem dX12_better_64 : decode cX12_better 64 = .ok (.iload_n 3, 1) := by decide +kernel
theorem dX12_better_65 : decode cX12_better 65 = .ok (.iconst 0, 1) := by decide +kernel
theorem dX12_better_66 : decode cX12_better 66 = .ok (.iastore, 1) := by decide +kernel
theorem dX12_better_67 : decode cX12_better 67 = .ok (.iconst 0, 1) := by decide +kernel
theorem dX12_better_68 : decode cX12_better 68 = .ok (.istore 7, 2) := by decide +kernel
theorem dX12_better_70 : decode cX12_better 70 = .ok (.iload 7, 2) := by decide +kernel
theorem dX12_better_72 : decode cX12_better 72 = .ok (.iload 6, 2) := by decide +kernel
theorem dX12_better_74 : decode cX12_better 74 = .ok (.if_icmp .ge 251, 3) := by decide +kernel
theorem dX12_better_77 : decode cX12_better 77 = .ok (.iload_n 3, 1) := by decide +kernel
theorem dX12_better_78 : decode cX12_better 78 = .ok (.istore 8, 2) := by decide +kernel
theorem dX12_better_80 : decode cX12_better 80 = .ok (.iload 8, 2) := by decide +kernel
theorem dX12_better_82 : decode cX12_better 82 = .ok (.iload 4, 2) := by decide +kernel
theorem dX12_better_84 : decode cX12_better 84 = .ok (.if_icmp .gt 235, 3) := by decide +kernel
theorem dX12_better_87 : decode cX12_better 87 = .ok (.iload 8, 2) := by decide +kernel
theorem dX12_better_89 : decode cX12_better 89 = .ok (.istore 9, 2) := by decide +kernel
theorem dX12_better_91 : decode cX12_better 91 = .ok (.iload 9, 2) := by decide +kernel
theorem dX12_better_93 : decode cX12_better 93 = .ok (.iload 4, 2) := by decide +kernel
theorem dX12_better_95 : decode cX12_better 95 = .ok (.if_icmp .gt 218, 3) := by decide +kernel
theorem dX12_better_98 : decode cX12_better 98 = .ok (.aload_n 0, 1) := by decide +kernel
theorem dX12_better_99 : decode cX12_better 99 = .ok (.getfield 46, 3) := by decide +kernel
theorem dX12_better_102 : decode cX12_better 102 = .ok (.bipush 7, 2) := by decide +kernel
theorem dX12_better_104 : decode cX12_better 104 = .ok (.iload 7, 2) := by decide +kernel
theorem dX12_better_106 : decode cX12_better 106 = .ok (.imul, 1) := by decide +kernel
theorem dX12_better_107 : decode cX12_better 107 = .ok (.iload 8, 2) := by decide +kernel
theorem dX12_better_109 : decode cX12_better 109 = .ok (.iadd, 1) := by decide +kernel
theorem dX12_better_110 : decode cX12_better 110 = .ok (.iaload, 1) := by decide +kernel
theorem dX12_better_111 : decode cX12_better 111 = .ok (.ldc 124, 2) := by decide +kernel
theorem dX12_better_113 : decode cX12_better 113 = .ok (.if_icmp .ge 200, 3) := by decide +kernel
theorem dX12_better_116 : decode cX12_better 116 = .ok (.aload_n 0, 1) := by decide +kernel
theorem dX12_better_117 : decode cX12_better 117 = .ok (.aload_n 0, 1) := by decide +kernel
theorem dX12_better_118 : decode cX12_better 118 = .ok (.getfield 19, 3) := by decide +kernel
theorem dX12_better_121 : decode cX12_better 121 = .ok (.iconst 4, 1) := by decide +kernel
theorem dX12_better_122 : decode cX12_better 122 = .ok (.iload 5, 2) := by decide +kernel
theorem dX12_better_124 : decode cX12_better 124 = .ok (.imul, 1) := by decide +kernel
theorem dX12_better_125 : decode cX12_better 125 = .ok (.iload 7, 2) := by decide +kernel
theorem dX12_better_127 : decode cX12_better 127 = .ok (.iadd, 1) := by decide +kernel
theorem dX12_better_128 : decode cX12_better 128 = .ok (.iaload, 1) := by decide +kernel
theorem dX12_better_129 : decode cX12_better 129 = .ok (.iload 8, 2) := by decide +kernel
theorem dX12_better_131 : decode cX12_better 131 = .ok (.iload 9, 2) := by decide +kernel
theorem dX12_better_133 : decode cX12_better 133 = .ok (.invokevirtual 125, 3) := by decide +kernel
theorem dX12_better_136 : decode cX12_better 136 = .ok (.bipush 7, 2) := by decide +kernel
theorem dX12_better_138 : decode cX12_better 138 = .ok (.iload 7, 2) := by decide +kernel
theorem dX12_better_140 : decode cX12_better 140 = .ok (.iconst 1, 1) := by decide +kernel
theorem dX12_better_141 : decode cX12_better 141 = .ok (.iadd, 1) := by decide +kernel
theorem dX12_better_142 : decode cX12_better 142 = .ok (.imul, 1) := by decide +kernel
theorem dX12_better_143 : decode cX12_better 143 = .ok (.iload 9, 2) := by decide +kernel
theorem dX12_better_145 : decode cX12_better 145 = .ok (.iadd, 1) := by decide +kernel
theorem dX12_better_146 : decode cX12_better 146 = .ok (.istore 10, 2) := by decide +kernel
theorem dX12_better_148 : decode cX12_better 148 = .ok (.aload_n 0, 1) := by decide +kernel
theorem dX12_better_149 : decode cX12_better 149 = .ok (.getfield 46, 3) := by decide +kernel
theorem dX12_better_152 : decode cX12_better 152 = .ok (.bipush 7, 2) := by decide +kernel
theorem dX12_better_154 : decode cX12_better 154 = .ok (.iload 7, 2) := by decide +kernel
theorem dX12_better_156 : decode cX12_better 156 = .ok (.imul, 1) := by decide +kernel
theorem dX12_better_157 : decode cX12_better 157 = .ok (.iload 8, 2) := by decide +kernel
theorem dX12_better_159 : decode cX12_better 159 = .ok (.iadd, 1) := by decide +kernel
theorem dX12_better_160 : decode cX12_better 160 = .ok (.iaload, 1) := by decide +kernel
theorem dX12_better_161 : decode cX12_better 161 = .ok (.aload_n 0, 1) := by decide +kernel
theorem dX12_better_162 : decode cX12_better 162 = .ok (.getfield 115, 3) := by decide +kernel
theorem dX12_better_165 : decode cX12_better 165 = .ok (.iadd, 1) := by decide +kernel
theorem dX12_better_166 : decode cX12_better 166 = .ok (.istore 11, 2) := by decide +kernel
theorem dX12_better_168 : decode cX12_better 168 = .ok (.aload_n 0, 1) := by decide +kernel
theorem dX12_better_169 : decode cX12_better 169 = .ok (.getfield 49, 3) := by decide +kernel
theorem dX12_better_172 : decode cX12_better 172 = .ok (.bipush 7, 2) := by decide +kernel
theorem dX12_better_174 : decode cX12_better 174 = .ok (.iload 7, 2) := by decide +kernel
theorem dX12_better_176 : decode cX12_better 176 = .ok (.imul, 1) := by decide +kernel
theorem dX12_better_177 : decode cX12_better 177 = .ok (.iload 8, 2) := by decide +kernel
theorem dX12_better_179 : decode cX12_better 179 = .ok (.iadd, 1) := by decide +kernel
theorem dX12_better_180 : decode cX12_better 180 = .ok (.iaload, 1) := by decide +kernel
theorem dX12_better_181 : decode cX12_better 181 = .ok (.aload_n 0, 1) := by decide +kernel
theorem dX12_better_182 : decode cX12_better 182 = .ok (.getfield 118, 3) := by decide +kernel
theorem dX12_better_185 : decode cX12_better 185 = .ok (.iadd, 1) := by decide +kernel
theorem dX12_better_186 : decode cX12_better 186 = .ok (.istore 12, 2) := by decide +kernel
theorem dX12_better_188 : decode cX12_better 188 = .ok (.iload 12, 2) := by decide +kernel
theorem dX12_better_190 : decode cX12_better 190 = .ok (.bipush 12, 2) := by decide +kernel
theorem dX12_better_192 : decode cX12_better 192 = .ok (.if_icmp .le 7, 3) := by decide +kernel
theorem dX12_better_195 : decode cX12_better 195 = .ok (.iconst 0, 1) := by decide +kernel
theorem dX12_better_196 : decode cX12_better 196 = .ok (.goto 28, 3) := by decide +kernel
theorem dX12_better_199 : decode cX12_better 199 = .ok (.aload_n 0, 1) := by decide +kernel
theorem dX12_better_200 : decode cX12_better 200 = .ok (.getfield 52, 3) := by decide +kernel
theorem dX12_better_203 : decode cX12_better 203 = .ok (.bipush 7, 2) := by decide +kernel
theorem dX12_better_205 : decode cX12_better 205 = .ok (.iload 7, 2) := by decide +kernel
theorem dX12_better_207 : decode cX12_better 207 = .ok (.imul, 1) := by decide +kernel
theorem dX12_better_208 : decode cX12_better 208 = .ok (.iload 8, 2) := by decide +kernel
theorem dX12_better_210 : decode cX12_better 210 = .ok (.iadd, 1) := by decide +kernel
theorem dX12_better_211 : decode cX12_better 211 = .ok (.iaload, 1) := by decide +kernel
theorem dX12_better_212 : decode cX12_better 212 = .ok (.iconst 2, 1) := by decide +kernel
theorem dX12_better_213 : decode cX12_better 213 = .ok (.aload_n 0, 1) := by decide +kernel
theorem dX12_better_214 : decode cX12_better 214 = .ok (.getfield 118, 3) := by decide +kernel
theorem dX12_better_217 : decode cX12_better 217 = .ok (.imul, 1) := by decide +kernel
theorem dX12_better_218 : decode cX12_better 218 = .ok (.ishl, 1) := by decide +kernel
theorem dX12_better_219 : decode cX12_better 219 = .ok (.aload_n 0, 1) := by decide +kernel
theorem dX12_better_220 : decode cX12_better 220 = .ok (.getfield 121, 3) := by decide +kernel
theorem dX12_better_223 : decode cX12_better 223 = .ok (.ior, 1) := by decide +kernel
theorem dX12_better_224 : decode cX12_better 224 = .ok (.istore 13, 2) := by decide +kernel
theorem dX12_better_226 : decode cX12_better 226 = .ok (.aload_n 0, 1) := by decide +kernel
theorem dX12_better_227 : decode cX12_better 227 = .ok (.getfield 115, 3) := by decide +kernel
theorem dX12_better_230 : decode cX12_better 230 = .ok (.ldc 124, 2) := by decide +kernel
theorem dX12_better_232 : decode cX12_better 232 = .ok (.if_icmp .ge 75, 3) := by decide +kernel
theorem dX12_better_235 : decode cX12_better 235 = .ok (.aload_n 0, 1) := by decide +kernel
theorem dX12_better_236 : decode cX12_better 236 = .ok (.getfield 46, 3) := by decide +kernel
theorem dX12_better_239 : decode cX12_better 239 = .ok (.iload 10, 2) := by decide +kernel
theorem dX12_better_241 : decode cX12_better 241 = .ok (.iaload, 1) := by decide +kernel
theorem dX12_better_242 : decode cX12_better 242 = .ok (.ldc 124, 2) := by decide +kernel
theorem dX12_better_244 : decode cX12_better 244 = .ok (.if_icmp .eq 36, 3) := by decide +kernel
theorem dX12_better_247 : decode cX12_better 247 = .ok (.iload 11, 2) := by decide +kernel
theorem dX12_better_249 : decode cX12_better 249 = .ok (.iload 12, 2) := by decide +kernel
theorem dX12_better_251 : decode cX12_better 251 = .ok (.iload 13, 2) := by decide +kernel
theorem dX12_better_253 : decode cX12_better 253 = .ok (.aload_n 0, 1) := by decide +kernel
theorem dX12_better_254 : decode cX12_better 254 = .ok (.getfield 46, 3) := by decide +kernel
theorem dX12_better_257 : decode cX12_better 257 = .ok (.iload 10, 2) := by decide +kernel
theorem dX12_better_259 : decode cX12_better 259 = .ok (.iaload, 1) := by decide +kernel
theorem dX12_better_260 : decode cX12_better 260 = .ok (.aload_n 0, 1) := by decide +kernel
theorem dX12_better_261 : decode cX12_better 261 = .ok (.getfield 49, 3) := by decide +kernel
theorem dX12_better_264 : decode cX12_better 264 = .ok (.iload 10, 2) := by decide +kernel
theorem dX12_better_266 : decode cX12_better 266 = .ok (.iaload, 1) := by decide +kernel
theorem dX12_better_267 : decode cX12_better 267 = .ok (.aload_n 0, 1) := by decide +kernel
theorem dX12_better_268 : decode cX12_better 268 = .ok (.getfield 52, 3) := by decide +kernel
theorem dX12_better_271 : decode cX12_better 271 = .ok (.iload 10, 2) := by decide +kernel
theorem dX12_better_273 : decode cX12_better 273 = .ok (.iaload, 1) := by decide +kernel
theorem dX12_better_274 : decode cX12_better 274 = .ok (.invokestatic 129, 3) := by decide +kernel
theorem dX12_better_277 : decode cX12_better 277 = .ok (.ifCond .eq 30, 3) := by decide +kernel
theorem dX12_better_280 : decode cX12_better 280 = .ok (.aload_n 0, 1) := by decide +kernel
theorem dX12_better_281 : decode cX12_better 281 = .ok (.getfield 46, 3) := by decide +kernel
theorem dX12_better_284 : decode cX12_better 284 = .ok (.iload 10, 2) := by decide +kernel
theorem dX12_better_286 : decode cX12_better 286 = .ok (.iload 11, 2) := by decide +kernel
theorem dX12_better_288 : decode cX12_better 288 = .ok (.iastore, 1) := by decide +kernel
theorem dX12_better_289 : decode cX12_better 289 = .ok (.aload_n 0, 1) := by decide +kernel
theorem dX12_better_290 : decode cX12_better 290 = .ok (.getfield 49, 3) := by decide +kernel
theorem dX12_better_293 : decode cX12_better 293 = .ok (.iload 10, 2) := by decide +kernel
theorem dX12_better_295 : decode cX12_better 295 = .ok (.iload 12, 2) := by decide +kernel
theorem dX12_better_297 : decode cX12_better 297 = .ok (.iastore, 1) := by decide +kernel
theorem dX12_better_298 : decode cX12_better 298 = .ok (.aload_n 0, 1) := by decide +kernel
theorem dX12_better_299 : decode cX12_better 299 = .ok (.getfield 52, 3) := by decide +kernel
theorem dX12_better_302 : decode cX12_better 302 = .ok (.iload 10, 2) := by decide +kernel
theorem dX12_better_304 : decode cX12_better 304 = .ok (.iload 13, 2) := by decide +kernel
theorem dX12_better_306 : decode cX12_better 306 = .ok (.iastore, 1) := by decide +kernel
theorem dX12_better_307 : decode cX12_better 307 = .ok (.iinc 9 1, 3) := by decide +kernel
theorem dX12_better_310 : decode cX12_better 310 = .ok (.goto (-219), 3) := by decide +kernel
theorem dX12_better_313 : decode cX12_better 313 = .ok (.iinc 8 1, 3) := by decide +kernel
theorem dX12_better_316 : decode cX12_better 316 = .ok (.goto (-236), 3) := by decide +kernel
theorem dX12_better_319 : decode cX12_better 319 = .ok (.iinc 7 1, 3) := by decide +kernel
theorem dX12_better_322 : decode cX12_better 322 = .ok (.goto (-252), 3) := by decide +kernel
theorem dX12_better_325 : decode cX12_better 325 = .ok (.iload 6, 2) := by decide +kernel
theorem dX12_better_327 : decode cX12_better 327 = .ok (.ifCond .ne 7, 3) := by decide +kernel
theorem dX12_better_330 : decode cX12_better 330 = .ok (.iload_n 3, 1) := by decide +kernel
theorem dX12_better_331 : decode cX12_better 331 = .ok (.goto 11, 3) := by decide +kernel
theorem dX12_better_334 : decode cX12_better 334 = .ok (.bipush 7, 2) := by decide +kernel
theorem dX12_better_336 : decode cX12_better 336 = .ok (.iload 6, 2) := by decide +kernel
theorem dX12_better_338 : decode cX12_better 338 = .ok (.imul, 1) := by decide +kernel
theorem dX12_better_339 : decode cX12_better 339 = .ok (.iload 4, 2) := by decide +kernel
theorem dX12_better_341 : decode cX12_better 341 = .ok (.iadd, 1) := by decide +kernel
theorem dX12_better_342 : decode cX12_better 342 = .ok (.istore 7, 2) := by decide +kernel
theorem dX12_better_344 : decode cX12_better 344 = .ok (.iload 6, 2) := by decide +kernel
theorem dX12_better_346 : decode cX12_better 346 = .ok (.ifCond .ne 17, 3) := by decide +kernel
theorem dX12_better_349 : decode cX12_better 349 = .ok (.iload 4, 2) := by decide +kernel
theorem dX12_better_351 : decode cX12_better 351 = .ok (.iload_n 3, 1) := by decide +kernel
theorem dX12_better_352 : decode cX12_better 352 = .ok (.isub, 1) := by decide +kernel
theorem dX12_better_353 : decode cX12_better 353 = .ok (.aload_n 0, 1) := by decide +kernel
theorem dX12_better_354 : decode cX12_better 354 = .ok (.getfield 31, 3) := by decide +kernel
theorem dX12_better_357 : decode cX12_better 357 = .ok (.iconst 0, 1) := by decide +kernel
theorem dX12_better_358 : decode cX12_better 358 = .ok (.iaload, 1) := by decide +kernel
theorem dX12_better_359 : decode cX12_better 359 = .ok (.imul, 1) := by decide +kernel
theorem dX12_better_360 : decode cX12_better 360 = .ok (.goto 10, 3) := by decide +kernel
theorem dX12_better_363 : decode cX12_better 363 = .ok (.aload_n 0, 1) := by decide +kernel
theorem dX12_better_364 : decode cX12_better 364 = .ok (.getfield 46, 3) := by decide +kernel
theorem dX12_better_367 : decode cX12_better 367 = .ok (.iload 7, 2) := by decide +kernel
theorem dX12_better_369 : decode cX12_better 369 = .ok (.iaload, 1) := by decide +kernel
theorem dX12_better_370 : decode cX12_better 370 = .ok (.istore 8, 2) := by decide +kernel
theorem dX12_better_372 : decode cX12_better 372 = .ok (.bipush 49, 2) := by decide +kernel
theorem dX12_better_374 : decode cX12_better 374 = .ok (.iload_n 1, 1) := by decide +kernel
theorem dX12_better_375 : decode cX12_better 375 = .ok (.imul, 1) := by decide +kernel
theorem dX12_better_376 : decode cX12_better 376 = .ok (.bipush 7, 2) := by decide +kernel
theorem dX12_better_378 : decode cX12_better 378 = .ok (.iload_n 3, 1) := by decide +kernel
theorem dX12_better_379 : decode cX12_better 379 = .ok (.imul, 1) := by decide +kernel
theorem dX12_better_380 : decode cX12_better 380 = .ok (.iadd, 1) := by decide +kernel
theorem dX12_better_381 : decode cX12_better 381 = .ok (.iload 4, 2) := by decide +kernel
theorem dX12_better_383 : decode cX12_better 383 = .ok (.iadd, 1) := by decide +kernel
theorem dX12_better_384 : decode cX12_better 384 = .ok (.istore 9, 2) := by decide +kernel
theorem dX12_better_386 : decode cX12_better 386 = .ok (.iload 8, 2) := by decide +kernel
theorem dX12_better_388 : decode cX12_better 388 = .ok (.ldc 124, 2) := by decide +kernel
theorem dX12_better_390 : decode cX12_better 390 = .ok (.if_icmp .ge 58, 3) := by decide +kernel
theorem dX12_better_393 : decode cX12_better 393 = .ok (.aload_n 0, 1) := by decide +kernel
theorem dX12_better_394 : decode cX12_better 394 = .ok (.getfield 37, 3) := by decide +kernel
theorem dX12_better_397 : decode cX12_better 397 = .ok (.iload 9, 2) := by decide +kernel
theorem dX12_better_399 : decode cX12_better 399 = .ok (.iaload, 1) := by decide +kernel
theorem dX12_better_400 : decode cX12_better 400 = .ok (.ldc 124, 2) := by decide +kernel
theorem dX12_better_402 : decode cX12_better 402 = .ok (.if_icmp .ge 48, 3) := by decide +kernel
theorem dX12_better_405 : decode cX12_better 405 = .ok (.iload 8, 2) := by decide +kernel
theorem dX12_better_407 : decode cX12_better 407 = .ok (.aload_n 0, 1) := by decide +kernel
theorem dX12_better_408 : decode cX12_better 408 = .ok (.getfield 49, 3) := by decide +kernel
theorem dX12_better_411 : decode cX12_better 411 = .ok (.iload 7, 2) := by decide +kernel
theorem dX12_better_413 : decode cX12_better 413 = .ok (.iaload, 1) := by decide +kernel
theorem dX12_better_414 : decode cX12_better 414 = .ok (.aload_n 0, 1) := by decide +kernel
theorem dX12_better_415 : decode cX12_better 415 = .ok (.getfield 52, 3) := by decide +kernel
theorem dX12_better_418 : decode cX12_better 418 = .ok (.iload 7, 2) := by decide +kernel
theorem dX12_better_420 : decode cX12_better 420 = .ok (.iaload, 1) := by decide +kernel
theorem dX12_better_421 : decode cX12_better 421 = .ok (.aload_n 0, 1) := by decide +kernel
theorem dX12_better_422 : decode cX12_better 422 = .ok (.getfield 37, 3) := by decide +kernel
theorem dX12_better_425 : decode cX12_better 425 = .ok (.iload 9, 2) := by decide +kernel
theorem dX12_better_427 : decode cX12_better 427 = .ok (.iaload, 1) := by decide +kernel
theorem dX12_better_428 : decode cX12_better 428 = .ok (.aload_n 0, 1) := by decide +kernel
theorem dX12_better_429 : decode cX12_better 429 = .ok (.getfield 40, 3) := by decide +kernel
theorem dX12_better_432 : decode cX12_better 432 = .ok (.iload 9, 2) := by decide +kernel
theorem dX12_better_434 : decode cX12_better 434 = .ok (.iaload, 1) := by decide +kernel
theorem dX12_better_435 : decode cX12_better 435 = .ok (.aload_n 0, 1) := by decide +kernel
theorem dX12_better_436 : decode cX12_better 436 = .ok (.getfield 43, 3) := by decide +kernel
theorem dX12_better_439 : decode cX12_better 439 = .ok (.iload 9, 2) := by decide +kernel
theorem dX12_better_441 : decode cX12_better 441 = .ok (.iaload, 1) := by decide +kernel
theorem dX12_better_442 : decode cX12_better 442 = .ok (.invokestatic 129, 3) := by decide +kernel
theorem dX12_better_445 : decode cX12_better 445 = .ok (.ifCond .ne 5, 3) := by decide +kernel
theorem dX12_better_448 : decode cX12_better 448 = .ok (.iconst 0, 1) := by decide +kernel
theorem dX12_better_449 : decode cX12_better 449 = .ok (.ireturn, 1) := by decide +kernel
theorem dX12_better_450 : decode cX12_better 450 = .ok (.aload_n 0, 1) := by decide +kernel
theorem dX12_better_451 : decode cX12_better 451 = .ok (.getfield 37, 3) := by decide +kernel
theorem dX12_better_454 : decode cX12_better 454 = .ok (.iload 9, 2) := by decide +kernel
theorem dX12_better_456 : decode cX12_better 456 = .ok (.iload 8, 2) := by decide +kernel
theorem dX12_better_458 : decode cX12_better 458 = .ok (.iastore, 1) := by decide +kernel
theorem dX12_better_459 : decode cX12_better 459 = .ok (.aload_n 0, 1) := by decide +kernel
theorem dX12_better_460 : decode cX12_better 460 = .ok (.getfield 40, 3) := by decide +kernel
theorem dX12_better_463 : decode cX12_better 463 = .ok (.iload 9, 2) := by decide +kernel
theorem dX12_better_465 : decode cX12_better 465 = .ok (.aload_n 0, 1) := by decide +kernel
theorem dX12_better_466 : decode cX12_better 466 = .ok (.getfield 49, 3) := by decide +kernel
theorem dX12_better_469 : decode cX12_better 469 = .ok (.iload 7, 2) := by decide +kernel
theorem dX12_better_471 : decode cX12_better 471 = .ok (.iaload, 1) := by decide +kernel
theorem dX12_better_472 : decode cX12_better 472 = .ok (.iastore, 1) := by decide +kernel
theorem dX12_better_473 : decode cX12_better 473 = .ok (.aload_n 0, 1) := by decide +kernel
theorem dX12_better_474 : decode cX12_better 474 = .ok (.getfield 43, 3) := by decide +kernel
theorem dX12_better_477 : decode cX12_better 477 = .ok (.iload 9, 2) := by decide +kernel
theorem dX12_better_479 : decode cX12_better 479 = .ok (.aload_n 0, 1) := by decide +kernel
theorem dX12_better_480 : decode cX12_better 480 = .ok (.getfield 52, 3) := by decide +kernel
theorem dX12_better_483 : decode cX12_better 483 = .ok (.iload 7, 2) := by decide +kernel
theorem dX12_better_485 : decode cX12_better 485 = .ok (.iaload, 1) := by decide +kernel
theorem dX12_better_486 : decode cX12_better 486 = .ok (.iastore, 1) := by decide +kernel
theorem dX12_better_487 : decode cX12_better 487 = .ok (.iconst 1, 1) := by decide +kernel
theorem dX12_better_488 : decode cX12_better 488 = .ok (.ireturn, 1) := by decide +kernel
set_option maxRecDepth 20000 in
theorem ggX12_layMends_X12_better : GoodIn wsX12_layMends wsX12_better := goodIn_r _ [11, 12, 13, 2, 14, 15, 16, 17, 18, 19, 20, 1, 3, 4, 21, 22, 23, 10, 24, 25, 26, 27, 28, 29, 30, 31, 32, 33, 34, 35, 36, 37, 38, 39, 40, 41, 42, 43, 44, 45, 46, 47, 48, 49, 50, 51, 52, 53, 54, 55, 56, 57, 58, 59, 60, 61, 62, 63, 64] (by decide +kernel) (by decide +kernel)
set_option maxRecDepth 20000 in
theorem gX12_layMends_X12_better : GoodIn wsX12_layMends (wsV RX12 136 RX12 yX12_better wsX12_better) := goodIn_app (goodIn_of _ (by decide +kernel)) ggX12_layMends_X12_better
theorem dX12_layMends_0 : decode cX12_layMends 0 = .ok (.iconst 0, 1) := by decide +kernel
theorem dX12_layMends_1 : decode cX12_layMends 1 = .ok (.istore_n 1, 1) := by decide +kernel
theorem dX12_layMends_2 : decode cX12_layMends 2 = .ok (.iload_n 1, 1) := by decide +kernel
theorem dX12_layMends_3 : decode cX12_layMends 3 = .ok (.sipush 294, 3) := by decide +kernel
theorem dX12_layMends_6 : decode cX12_layMends 6 = .ok (.if_icmp .ge 31, 3) := by decide +kernel
theorem dX12_layMends_9 : decode cX12_layMends 9 = .ok (.aload_n 0, 1) := by decide +kernel
theorem dX12_layMends_10 : decode cX12_layMends 10 = .ok (.getfield 37, 3) := by decide +kernel
theorem dX12_layMends_13 : decode cX12_layMends 13 = .ok (.iload_n 1, 1) := by decide +kernel
theorem dX12_layMends_14 : decode cX12_layMends 14 = .ok (.ldc 124, 2) := by decide +kernel
theorem dX12_layMends_16 : decode cX12_layMends 16 = .ok (.iastore, 1) := by decide +kernel
theorem dX12_layMends_17 : decode cX12_layMends 17 = .ok (.aload_n 0, 1) := by decide +kernel
theorem dX12_layMends_18 : decode cX12_layMends 18 = .ok (.getfield 40, 3) := by decide +kernel
theorem dX12_layMends_21 : decode cX12_layMends 21 = .ok (.iload_n 1, 1) := by decide +kernel
theorem dX12_layMends_22 : decode cX12_layMends 22 = .ok (.iconst 0, 1) := by decide +kernel
theorem dX12_layMends_23 : decode cX12_layMends 23 = .ok (.iastore, 1) := by decide +kernel
theorem dX12_layMends_24 : decode cX12_layMends 24 = .ok (.aload_n 0, 1) := by decide +kernel
theorem dX12_layMends_25 : decode cX12_layMends 25 = .ok (.getfield 43, 3) := by decide +kernel
theorem dX12_layMends_28 : decode cX12_layMends 28 = .ok (.iload_n 1, 1) := by decide +kernel
theorem dX12_layMends_29 : decode cX12_layMends 29 = .ok (.iconst 0, 1) := by decide +kernel
theorem dX12_layMends_30 : decode cX12_layMends 30 = .ok (.iastore, 1) := by decide +kernel
theorem dX12_layMends_31 : decode cX12_layMends 31 = .ok (.iinc 1 1, 3) := by decide +kernel
theorem dX12_layMends_34 : decode cX12_layMends 34 = .ok (.goto (-32), 3) := by decide +kernel
theorem dX12_layMends_37 : decode cX12_layMends 37 = .ok (.iconst 1, 1) := by decide +kernel
theorem dX12_layMends_38 : decode cX12_layMends 38 = .ok (.istore_n 1, 1) := by decide +kernel
theorem dX12_layMends_39 : decode cX12_layMends 39 = .ok (.iload_n 1, 1) := by decide +kernel
theorem dX12_layMends_40 : decode cX12_layMends 40 = .ok (.ifCond .eq 99, 3) := by decide +kernel
theorem dX12_layMends_43 : decode cX12_layMends 43 = .ok (.iconst 0, 1) := by decide +kernel
theorem dX12_layMends_44 : decode cX12_layMends 44 = .ok (.istore_n 1, 1) := by decide +kernel
theorem dX12_layMends_45 : decode cX12_layMends 45 = .ok (.iconst 0, 1) := by decide +kernel
theorem dX12_layMends_46 : decode cX12_layMends 46 = .ok (.istore_n 2, 1) := by decide +kernel
theorem dX12_layMends_47 : decode cX12_layMends 47 = .ok (.iload_n 2, 1) := by decide +kernel
theorem dX12_layMends_48 : decode cX12_layMends 48 = .ok (.bipush 6, 2) := by decide +kernel
theorem dX12_layMends_50 : decode cX12_layMends 50 = .ok (.if_icmp .ge 86, 3) := by decide +kernel
theorem dX12_layMends_53 : decode cX12_layMends 53 = .ok (.iconst 0, 1) := by decide +kernel
theorem dX12_layMends_54 : decode cX12_layMends 54 = .ok (.istore_n 3, 1) := by decide +kernel
theorem dX12_layMends_55 : decode cX12_layMends 55 = .ok (.iload_n 3, 1) := by decide +kernel
theorem dX12_layMends_56 : decode cX12_layMends 56 = .ok (.aload_n 0, 1) := by decide +kernel
theorem dX12_layMends_57 : decode cX12_layMends 57 = .ok (.getfield 133, 3) := by decide +kernel
theorem dX12_layMends_60 : decode cX12_layMends 60 = .ok (.if_icmp .gt 70, 3) := by decide +kernel
theorem dX12_layMends_63 : decode cX12_layMends 63 = .ok (.iload_n 3, 1) := by decide +kernel
theorem dX12_layMends_64 : decode cX12_layMends 64 = .ok (.istore 4, 2) := by decide +kernel
theorem dX12_layMends_66 : decode cX12_layMends 66 = .ok (.iload 4, 2) := by decide +kernel
theorem dX12_layMends_68 : decode cX12_layMends 68 = .ok (.aload_n 0, 1) := by decide +kernel
theorem dX12_layMends_69 : decode cX12_layMends 69 = .ok (.getfield 133, 3) := by decide +kernel
theorem dX12_layMends_72 : decode cX12_layMends 72 = .ok (.if_icmp .gt 52, 3) := by decide +kernel
theorem dX12_layMends_75 : decode cX12_layMends 75 = .ok (.iconst 0, 1) := by decide +kernel
theorem dX12_layMends_76 : decode cX12_layMends 76 = .ok (.istore 5, 2) := by decide +kernel
theorem dX12_layMends_78 : decode cX12_layMends 78 = .ok (.iload 5, 2) := by decide +kernel
theorem dX12_layMends_80 : decode cX12_layMends 80 = .ok (.aload_n 0, 1) := by decide +kernel
theorem dX12_layMends_81 : decode cX12_layMends 81 = .ok (.getfield 13, 3) := by decide +kernel
theorem dX12_layMends_84 : decode cX12_layMends 84 = .ok (.iload_n 2, 1) := by decide +kernel
theorem dX12_layMends_85 : decode cX12_layMends 85 = .ok (.iaload, 1) := by decide +kernel
theorem dX12_layMends_86 : decode cX12_layMends 86 = .ok (.if_icmp .ge 32, 3) := by decide +kernel
theorem dX12_layMends_89 : decode cX12_layMends 89 = .ok (.aload_n 0, 1) := by decide +kernel
theorem dX12_layMends_90 : decode cX12_layMends 90 = .ok (.iload_n 2, 1) := by decide +kernel
theorem dX12_layMends_91 : decode cX12_layMends 91 = .ok (.iload 5, 2) := by decide +kernel
theorem dX12_layMends_93 : decode cX12_layMends 93 = .ok (.iload_n 3, 1) := by decide +kernel
theorem dX12_layMends_94 : decode cX12_layMends 94 = .ok (.iload 4, 2) := by decide +kernel
theorem dX12_layMends_96 : decode cX12_layMends 96 = .ok (.invokevirtual 136, 3) := by decide +kernel
theorem dX12_layMends_99 : decode cX12_layMends 99 = .ok (.ifCond .ne 7, 3) := by decide +kernel
theorem dX12_layMends_102 : decode cX12_layMends 102 = .ok (.iload_n 1, 1) := by decide +kernel
theorem dX12_layMends_103 : decode cX12_layMends 103 = .ok (.ifCond .eq 7, 3) := by decide +kernel
theorem dX12_layMends_106 : decode cX12_layMends 106 = .ok (.iconst 1, 1) := by decide +kernel
theorem dX12_layMends_107 : decode cX12_layMends 107 = .ok (.goto 4, 3) := by decide +kernel
theorem dX12_layMends_110 : decode cX12_layMends 110 = .ok (.iconst 0, 1) := by decide +kernel
theorem dX12_layMends_111 : decode cX12_layMends 111 = .ok (.istore_n 1, 1) := by decide +kernel
theorem dX12_layMends_112 : decode cX12_layMends 112 = .ok (.iinc 5 1, 3) := by decide +kernel
theorem dX12_layMends_115 : decode cX12_layMends 115 = .ok (.goto (-37), 3) := by decide +kernel
theorem dX12_layMends_118 : decode cX12_layMends 118 = .ok (.iinc 4 1, 3) := by decide +kernel
theorem dX12_layMends_121 : decode cX12_layMends 121 = .ok (.goto (-55), 3) := by decide +kernel
theorem dX12_layMends_124 : decode cX12_layMends 124 = .ok (.iinc 3 1, 3) := by decide +kernel
theorem dX12_layMends_127 : decode cX12_layMends 127 = .ok (.goto (-72), 3) := by decide +kernel
theorem dX12_layMends_130 : decode cX12_layMends 130 = .ok (.iinc 2 1, 3) := by decide +kernel
theorem dX12_layMends_133 : decode cX12_layMends 133 = .ok (.goto (-86), 3) := by decide +kernel
theorem dX12_layMends_136 : decode cX12_layMends 136 = .ok (.goto (-97), 3) := by decide +kernel
theorem dX12_layMends_139 : decode cX12_layMends 139 = .ok (.return_, 1) := by decide +kernel
theorem dX12_take_0 : decode cX12_take 0 = .ok (.aload_n 0, 1) := by decide +kernel
theorem dX12_take_1 : decode cX12_take 1 = .ok (.iload_n 1, 1) := by decide +kernel
theorem dX12_take_2 : decode cX12_take 2 = .ok (.ifCond .ge 10, 3) := by decide +kernel
theorem dX12_take_5 : decode cX12_take 5 = .ok (.aload_n 0, 1) := by decide +kernel
theorem dX12_take_6 : decode cX12_take 6 = .ok (.getfield 140, 3) := by decide +kernel
theorem dX12_take_9 : decode cX12_take 9 = .ok (.goto 9, 3) := by decide +kernel
theorem dX12_take_12 : decode cX12_take 12 = .ok (.aload_n 0, 1) := by decide +kernel
theorem dX12_take_13 : decode cX12_take 13 = .ok (.getfield 25, 3) := by decide +kernel
theorem dX12_take_16 : decode cX12_take 16 = .ok (.iload_n 1, 1) := by decide +kernel
theorem dX12_take_17 : decode cX12_take 17 = .ok (.iaload, 1) := by decide +kernel
theorem dX12_take_18 : decode cX12_take 18 = .ok (.putfield 133, 3) := by decide +kernel
theorem dX12_take_21 : decode cX12_take 21 = .ok (.iconst 0, 1) := by decide +kernel
theorem dX12_take_22 : decode cX12_take 22 = .ok (.istore_n 2, 1) := by decide +kernel
theorem dX12_take_23 : decode cX12_take 23 = .ok (.iload_n 2, 1) := by decide +kernel
theorem dX12_take_24 : decode cX12_take 24 = .ok (.aload_n 0, 1) := by decide +kernel
theorem dX12_take_25 : decode cX12_take 25 = .ok (.getfield 133, 3) := by decide +kernel
theorem dX12_take_28 : decode cX12_take 28 = .ok (.if_icmp .ge 39, 3) := by decide +kernel
theorem dX12_take_31 : decode cX12_take 31 = .ok (.aload_n 0, 1) := by decide +kernel
theorem dX12_take_32 : decode cX12_take 32 = .ok (.getfield 34, 3) := by decide +kernel
theorem dX12_take_35 : decode cX12_take 35 = .ok (.iload_n 2, 1) := by decide +kernel
theorem dX12_take_36 : decode cX12_take 36 = .ok (.iload_n 1, 1) := by decide +kernel
theorem dX12_take_37 : decode cX12_take 37 = .ok (.ifCond .ge 12, 3) := by decide +kernel
theorem dX12_take_40 : decode cX12_take 40 = .ok (.aload_n 0, 1) := by decide +kernel
theorem dX12_take_41 : decode cX12_take 41 = .ok (.getfield 22, 3) := by decide +kernel
theorem dX12_take_44 : decode cX12_take 44 = .ok (.iload_n 2, 1) := by decide +kernel
theorem dX12_take_45 : decode cX12_take 45 = .ok (.iaload, 1) := by decide +kernel
theorem dX12_take_46 : decode cX12_take 46 = .ok (.goto 14, 3) := by decide +kernel
theorem dX12_take_49 : decode cX12_take 49 = .ok (.aload_n 0, 1) := by decide +kernel
theorem dX12_take_50 : decode cX12_take 50 = .ok (.getfield 28, 3) := by decide +kernel
theorem dX12_take_53 : decode cX12_take 53 = .ok (.bipush 6, 2) := by decide +kernel
theorem dX12_take_55 : decode cX12_take 55 = .ok (.iload_n 1, 1) := by decide +kernel
theorem dX12_take_56 : decode cX12_take 56 = .ok (.imul, 1) := by decide +kernel
theorem dX12_take_57 : decode cX12_take 57 = .ok (.iload_n 2, 1) := by decide +kernel
theorem dX12_take_58 : decode cX12_take 58 = .ok (.iadd, 1) := by decide +kernel
theorem dX12_take_59 : decode cX12_take 59 = .ok (.iaload, 1) := by decide +kernel
theorem dX12_take_60 : decode cX12_take 60 = .ok (.iastore, 1) := by decide +kernel
theorem dX12_take_61 : decode cX12_take 61 = .ok (.iinc 2 1, 3) := by decide +kernel
theorem dX12_take_64 : decode cX12_take 64 = .ok (.goto (-41), 3) := by decide +kernel
theorem dX12_take_67 : decode cX12_take 67 = .ok (.return_, 1) := by decide +kernel
