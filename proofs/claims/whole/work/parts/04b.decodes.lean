set_option maxRecDepth 20000 in
theorem ggX12_least_X12_isName : GoodIn wsX12_least wsX12_isName := goodIn_r _ [9, 10, 11, 8, 12] (by decide +kernel) (by decide +kernel)
set_option maxRecDepth 20000 in
theorem gX12_least_X12_isName : GoodIn wsX12_least (va_wsS RX12 111 yX12_isName wsX12_isName) := goodIn_app (goodIn_of _ (by decide +kernel)) ggX12_least_X12_isName
set_option maxRecDepth 20000 in
theorem ggX12_least_X12_layMends : GoodIn wsX12_least wsX12_layMends := goodIn_r _ [16, 3, 4, 2, 5, 1, 17, 18, 19, 20, 8, 21, 22, 23, 24, 25, 26, 27, 28, 29, 30, 31, 32, 33, 34, 35, 36, 37, 38, 39, 40, 41, 42, 43, 44, 45, 46, 47, 48, 49, 50, 51, 52, 53, 54, 55, 56, 57, 58, 59, 60, 61, 62, 63, 64, 65, 66, 67, 68, 69, 70, 71, 72, 73, 74] (by decide +kernel) (by decide +kernel)
set_option maxRecDepth 20000 in
theorem gX12_least_X12_layMends : GoodIn wsX12_least (wsV RX12 143 RX12 yX12_layMends wsX12_layMends) := goodIn_app (goodIn_of _ (by decide +kernel)) ggX12_least_X12_layMends
set_option maxRecDepth 20000 in
theorem ggX12_least_X12_in : GoodIn wsX12_least wsX12_in := goodIn_r _ [12] (by decide +kernel) (by decide +kernel)
set_option maxRecDepth 20000 in
theorem gX12_least_X12_in : GoodIn wsX12_least (va_wsS RX12 93 yX12_in wsX12_in) := goodIn_app (goodIn_of _ (by decide +kernel)) ggX12_least_X12_in
theorem dX12_least_0 : decode cX12_least 0 = .ok (.iload_n 1, 1) := by decide +kernel
theorem dX12_least_1 : decode cX12_least 1 = .ok (.invokestatic 111, 3) := by decide +kernel
theorem dX12_least_4 : decode cX12_least 4 = .ok (.ifCond .ne 5, 3) := by decide +kernel
theorem dX12_least_7 : decode cX12_least 7 = .ok (.iconst (-1), 1) := by decide +kernel
theorem dX12_least_8 : decode cX12_least 8 = .ok (.ireturn, 1) := by decide +kernel
theorem dX12_least_9 : decode cX12_least 9 = .ok (.aload_n 0, 1) := by decide +kernel
theorem dX12_least_10 : decode cX12_least 10 = .ok (.iconst 0, 1) := by decide +kernel
theorem dX12_least_11 : decode cX12_least 11 = .ok (.putfield 133, 3) := by decide +kernel
theorem dX12_least_14 : decode cX12_least 14 = .ok (.aload_n 0, 1) := by decide +kernel
theorem dX12_least_15 : decode cX12_least 15 = .ok (.invokevirtual 143, 3) := by decide +kernel
theorem dX12_least_18 : decode cX12_least 18 = .ok (.aload_n 0, 1) := by decide +kernel
theorem dX12_least_19 : decode cX12_least 19 = .ok (.getfield 40, 3) := by decide +kernel
theorem dX12_least_22 : decode cX12_least 22 = .ok (.bipush 49, 2) := by decide +kernel
theorem dX12_least_24 : decode cX12_least 24 = .ok (.iload_n 1, 1) := by decide +kernel
theorem dX12_least_25 : decode cX12_least 25 = .ok (.imul, 1) := by decide +kernel
theorem dX12_least_26 : decode cX12_least 26 = .ok (.iaload, 1) := by decide +kernel
theorem dX12_least_27 : decode cX12_least 27 = .ok (.istore_n 3, 1) := by decide +kernel
theorem dX12_least_28 : decode cX12_least 28 = .ok (.aload_n 0, 1) := by decide +kernel
theorem dX12_least_29 : decode cX12_least 29 = .ok (.getfield 37, 3) := by decide +kernel
theorem dX12_least_32 : decode cX12_least 32 = .ok (.bipush 49, 2) := by decide +kernel
theorem dX12_least_34 : decode cX12_least 34 = .ok (.iload_n 1, 1) := by decide +kernel
theorem dX12_least_35 : decode cX12_least 35 = .ok (.imul, 1) := by decide +kernel
theorem dX12_least_36 : decode cX12_least 36 = .ok (.iaload, 1) := by decide +kernel
theorem dX12_least_37 : decode cX12_least 37 = .ok (.ldc 124, 2) := by decide +kernel
theorem dX12_least_39 : decode cX12_least 39 = .ok (.if_icmp .ge 9, 3) := by decide +kernel
theorem dX12_least_42 : decode cX12_least 42 = .ok (.iload_n 3, 1) := by decide +kernel
theorem dX12_least_43 : decode cX12_least 43 = .ok (.bipush 12, 2) := by decide +kernel
theorem dX12_least_45 : decode cX12_least 45 = .ok (.if_icmp .le 6, 3) := by decide +kernel
theorem dX12_least_48 : decode cX12_least 48 = .ok (.bipush (-6), 2) := by decide +kernel
theorem dX12_least_50 : decode cX12_least 50 = .ok (.ireturn, 1) := by decide +kernel
theorem dX12_least_51 : decode cX12_least 51 = .ok (.iload_n 2, 1) := by decide +kernel
theorem dX12_least_52 : decode cX12_least 52 = .ok (.iconst (-1), 1) := by decide +kernel
theorem dX12_least_53 : decode cX12_least 53 = .ok (.if_icmp .ne 7, 3) := by decide +kernel
theorem dX12_least_56 : decode cX12_least 56 = .ok (.iload_n 3, 1) := by decide +kernel
theorem dX12_least_57 : decode cX12_least 57 = .ok (.goto 38, 3) := by decide +kernel
theorem dX12_least_60 : decode cX12_least 60 = .ok (.iload_n 2, 1) := by decide +kernel
theorem dX12_least_61 : decode cX12_least 61 = .ok (.iconst 0, 1) := by decide +kernel
theorem dX12_least_62 : decode cX12_least 62 = .ok (.iload_n 3, 1) := by decide +kernel
theorem dX12_least_63 : decode cX12_least 63 = .ok (.iconst 1, 1) := by decide +kernel
theorem dX12_least_64 : decode cX12_least 64 = .ok (.isub, 1) := by decide +kernel
theorem dX12_least_65 : decode cX12_least 65 = .ok (.invokestatic 93, 3) := by decide +kernel
theorem dX12_least_68 : decode cX12_least 68 = .ok (.ifCond .eq 25, 3) := by decide +kernel
theorem dX12_least_71 : decode cX12_least 71 = .ok (.aload_n 0, 1) := by decide +kernel
theorem dX12_least_72 : decode cX12_least 72 = .ok (.getfield 43, 3) := by decide +kernel
theorem dX12_least_75 : decode cX12_least 75 = .ok (.bipush 49, 2) := by decide +kernel
theorem dX12_least_77 : decode cX12_least 77 = .ok (.iload_n 1, 1) := by decide +kernel
theorem dX12_least_78 : decode cX12_least 78 = .ok (.imul, 1) := by decide +kernel
theorem dX12_least_79 : decode cX12_least 79 = .ok (.iaload, 1) := by decide +kernel
theorem dX12_least_80 : decode cX12_least 80 = .ok (.iconst 2, 1) := by decide +kernel
theorem dX12_least_81 : decode cX12_least 81 = .ok (.iload_n 3, 1) := by decide +kernel
theorem dX12_least_82 : decode cX12_least 82 = .ok (.iconst 1, 1) := by decide +kernel
theorem dX12_least_83 : decode cX12_least 83 = .ok (.isub, 1) := by decide +kernel
theorem dX12_least_84 : decode cX12_least 84 = .ok (.iload_n 2, 1) := by decide +kernel
theorem dX12_least_85 : decode cX12_least 85 = .ok (.isub, 1) := by decide +kernel
theorem dX12_least_86 : decode cX12_least 86 = .ok (.imul, 1) := by decide +kernel
theorem dX12_least_87 : decode cX12_least 87 = .ok (.ishr, 1) := by decide +kernel
theorem dX12_least_88 : decode cX12_least 88 = .ok (.iconst 3, 1) := by decide +kernel
theorem dX12_least_89 : decode cX12_least 89 = .ok (.iand, 1) := by decide +kernel
theorem dX12_least_90 : decode cX12_least 90 = .ok (.goto 5, 3) := by decide +kernel
theorem dX12_least_93 : decode cX12_least 93 = .ok (.bipush (-6), 2) := by decide +kernel
theorem dX12_least_95 : decode cX12_least 95 = .ok (.ireturn, 1) := by decide +kernel
set_option maxRecDepth 20000 in
theorem ggX12_nothing_X12_layMends : GoodIn wsX12_nothing wsX12_layMends := goodIn_r _ [8, 2, 3, 9, 10, 1, 11, 12, 13, 14, 7, 15, 16, 17, 18, 19, 20, 21, 22, 23, 24, 25, 26, 27, 28, 29, 30, 31, 32, 33, 34, 35, 36, 37, 38, 39, 40, 41, 42, 43, 44, 45, 46, 47, 48, 49, 50, 51, 52, 53, 54, 55, 56, 57, 58, 59, 60, 61, 62, 63, 64, 65, 66, 67, 68] (by decide +kernel) (by decide +kernel)
set_option maxRecDepth 20000 in
theorem gX12_nothing_X12_layMends : GoodIn wsX12_nothing (wsV RX12 143 RX12 yX12_layMends wsX12_layMends) := goodIn_app (goodIn_of _ (by decide +kernel)) ggX12_nothing_X12_layMends
theorem dX12_nothing_0 : decode cX12_nothing 0 = .ok (.aload_n 0, 1) := by decide +kernel
theorem dX12_nothing_1 : decode cX12_nothing 1 = .ok (.iconst 0, 1) := by decide +kernel
theorem dX12_nothing_2 : decode cX12_nothing 2 = .ok (.putfield 133, 3) := by decide +kernel
theorem dX12_nothing_5 : decode cX12_nothing 5 = .ok (.aload_n 0, 1) := by decide +kernel
theorem dX12_nothing_6 : decode cX12_nothing 6 = .ok (.invokevirtual 143, 3) := by decide +kernel
theorem dX12_nothing_9 : decode cX12_nothing 9 = .ok (.iconst 0, 1) := by decide +kernel
theorem dX12_nothing_10 : decode cX12_nothing 10 = .ok (.istore_n 1, 1) := by decide +kernel
theorem dX12_nothing_11 : decode cX12_nothing 11 = .ok (.iconst 0, 1) := by decide +kernel
theorem dX12_nothing_12 : decode cX12_nothing 12 = .ok (.istore_n 2, 1) := by decide +kernel
theorem dX12_nothing_13 : decode cX12_nothing 13 = .ok (.iload_n 2, 1) := by decide +kernel
theorem dX12_nothing_14 : decode cX12_nothing 14 = .ok (.bipush 6, 2) := by decide +kernel
theorem dX12_nothing_16 : decode cX12_nothing 16 = .ok (.if_icmp .ge 33, 3) := by decide +kernel
theorem dX12_nothing_19 : decode cX12_nothing 19 = .ok (.iload_n 1, 1) := by decide +kernel
theorem dX12_nothing_20 : decode cX12_nothing 20 = .ok (.aload_n 0, 1) := by decide +kernel
theorem dX12_nothing_21 : decode cX12_nothing 21 = .ok (.getfield 37, 3) := by decide +kernel
theorem dX12_nothing_24 : decode cX12_nothing 24 = .ok (.bipush 49, 2) := by decide +kernel
theorem dX12_nothing_26 : decode cX12_nothing 26 = .ok (.iload_n 2, 1) := by decide +kernel
theorem dX12_nothing_27 : decode cX12_nothing 27 = .ok (.imul, 1) := by decide +kernel
theorem dX12_nothing_28 : decode cX12_nothing 28 = .ok (.iaload, 1) := by decide +kernel
theorem dX12_nothing_29 : decode cX12_nothing 29 = .ok (.ldc 124, 2) := by decide +kernel
theorem dX12_nothing_31 : decode cX12_nothing 31 = .ok (.if_icmp .lt 9, 3) := by decide +kernel
theorem dX12_nothing_34 : decode cX12_nothing 34 = .ok (.iconst 1, 1) := by decide +kernel
theorem dX12_nothing_35 : decode cX12_nothing 35 = .ok (.iload_n 2, 1) := by decide +kernel
theorem dX12_nothing_36 : decode cX12_nothing 36 = .ok (.ishl, 1) := by decide +kernel
theorem dX12_nothing_37 : decode cX12_nothing 37 = .ok (.goto 4, 3) := by decide +kernel
theorem dX12_nothing_40 : decode cX12_nothing 40 = .ok (.iconst 0, 1) := by decide +kernel
theorem dX12_nothing_41 : decode cX12_nothing 41 = .ok (.ior, 1) := by decide +kernel
theorem dX12_nothing_42 : decode cX12_nothing 42 = .ok (.istore_n 1, 1) := by decide +kernel
theorem dX12_nothing_43 : decode cX12_nothing 43 = .ok (.iinc 2 1, 3) := by decide +kernel
theorem dX12_nothing_46 : decode cX12_nothing 46 = .ok (.goto (-33), 3) := by decide +kernel
theorem dX12_nothing_49 : decode cX12_nothing 49 = .ok (.iload_n 1, 1) := by decide +kernel
theorem dX12_nothing_50 : decode cX12_nothing 50 = .ok (.ireturn, 1) := by decide +kernel
set_option maxRecDepth 20000 in
theorem ggX12_word_X12_in : GoodIn wsX12_word wsX12_in := goodIn_r _ [8] (by decide +kernel) (by decide +kernel)
set_option maxRecDepth 20000 in
theorem gX12_word_X12_in : GoodIn wsX12_word (va_wsS RX12 93 yX12_in wsX12_in) := goodIn_app (goodIn_of _ (by decide +kernel)) ggX12_word_X12_in
theorem dX12_word_0 : decode cX12_word 0 = .ok (.aload_n 0, 1) := by decide +kernel
theorem dX12_word_1 : decode cX12_word 1 = .ok (.getfield 97, 3) := by decide +kernel
theorem dX12_word_4 : decode cX12_word 4 = .ok (.bipush 6, 2) := by decide +kernel
theorem dX12_word_6 : decode cX12_word 6 = .ok (.if_icmp .gt 7, 3) := by decide +kernel
theorem dX12_word_9 : decode cX12_word 9 = .ok (.iconst 1, 1) := by decide +kernel
theorem dX12_word_10 : decode cX12_word 10 = .ok (.goto 4, 3) := by decide +kernel
theorem dX12_word_13 : decode cX12_word 13 = .ok (.iconst 0, 1) := by decide +kernel
theorem dX12_word_14 : decode cX12_word 14 = .ok (.istore_n 1, 1) := by decide +kernel
theorem dX12_word_15 : decode cX12_word 15 = .ok (.iconst 0, 1) := by decide +kernel
theorem dX12_word_16 : decode cX12_word 16 = .ok (.istore_n 2, 1) := by decide +kernel
theorem dX12_word_17 : decode cX12_word 17 = .ok (.iload_n 2, 1) := by decide +kernel
theorem dX12_word_18 : decode cX12_word 18 = .ok (.aload_n 0, 1) := by decide +kernel
theorem dX12_word_19 : decode cX12_word 19 = .ok (.getfield 97, 3) := by decide +kernel
theorem dX12_word_22 : decode cX12_word 22 = .ok (.if_icmp .ge 35, 3) := by decide +kernel
theorem dX12_word_25 : decode cX12_word 25 = .ok (.iload_n 1, 1) := by decide +kernel
theorem dX12_word_26 : decode cX12_word 26 = .ok (.ifCond .eq 23, 3) := by decide +kernel
theorem dX12_word_29 : decode cX12_word 29 = .ok (.aload_n 0, 1) := by decide +kernel
theorem dX12_word_30 : decode cX12_word 30 = .ok (.getfield 7, 3) := by decide +kernel
theorem dX12_word_33 : decode cX12_word 33 = .ok (.iload_n 2, 1) := by decide +kernel
theorem dX12_word_34 : decode cX12_word 34 = .ok (.iaload, 1) := by decide +kernel
theorem dX12_word_35 : decode cX12_word 35 = .ok (.bipush 97, 2) := by decide +kernel
theorem dX12_word_37 : decode cX12_word 37 = .ok (.bipush 100, 2) := by decide +kernel
theorem dX12_word_39 : decode cX12_word 39 = .ok (.invokestatic 93, 3) := by decide +kernel
theorem dX12_word_42 : decode cX12_word 42 = .ok (.ifCond .eq 7, 3) := by decide +kernel
theorem dX12_word_45 : decode cX12_word 45 = .ok (.iconst 1, 1) := by decide +kernel
theorem dX12_word_46 : decode cX12_word 46 = .ok (.goto 4, 3) := by decide +kernel
theorem dX12_word_49 : decode cX12_word 49 = .ok (.iconst 0, 1) := by decide +kernel
theorem dX12_word_50 : decode cX12_word 50 = .ok (.istore_n 1, 1) := by decide +kernel
theorem dX12_word_51 : decode cX12_word 51 = .ok (.iinc 2 1, 3) := by decide +kernel
theorem dX12_word_54 : decode cX12_word 54 = .ok (.goto (-37), 3) := by decide +kernel
theorem dX12_word_57 : decode cX12_word 57 = .ok (.iload_n 1, 1) := by decide +kernel
theorem dX12_word_58 : decode cX12_word 58 = .ok (.ifCond .ne 6, 3) := by decide +kernel
theorem dX12_word_61 : decode cX12_word 61 = .ok (.bipush (-5), 2) := by decide +kernel
theorem dX12_word_63 : decode cX12_word 63 = .ok (.ireturn, 1) := by decide +kernel
theorem dX12_word_64 : decode cX12_word 64 = .ok (.aload_n 0, 1) := by decide +kernel
theorem dX12_word_65 : decode cX12_word 65 = .ok (.aload_n 0, 1) := by decide +kernel
theorem dX12_word_66 : decode cX12_word 66 = .ok (.getfield 97, 3) := by decide +kernel
theorem dX12_word_69 : decode cX12_word 69 = .ok (.putfield 140, 3) := by decide +kernel
theorem dX12_word_72 : decode cX12_word 72 = .ok (.iconst 0, 1) := by decide +kernel
theorem dX12_word_73 : decode cX12_word 73 = .ok (.istore_n 2, 1) := by decide +kernel
theorem dX12_word_74 : decode cX12_word 74 = .ok (.iload_n 2, 1) := by decide +kernel
theorem dX12_word_75 : decode cX12_word 75 = .ok (.aload_n 0, 1) := by decide +kernel
theorem dX12_word_76 : decode cX12_word 76 = .ok (.getfield 97, 3) := by decide +kernel
theorem dX12_word_79 : decode cX12_word 79 = .ok (.if_icmp .ge 24, 3) := by decide +kernel
theorem dX12_word_82 : decode cX12_word 82 = .ok (.aload_n 0, 1) := by decide +kernel
theorem dX12_word_83 : decode cX12_word 83 = .ok (.getfield 22, 3) := by decide +kernel
theorem dX12_word_86 : decode cX12_word 86 = .ok (.iload_n 2, 1) := by decide +kernel
theorem dX12_word_87 : decode cX12_word 87 = .ok (.aload_n 0, 1) := by decide +kernel
theorem dX12_word_88 : decode cX12_word 88 = .ok (.getfield 7, 3) := by decide +kernel
theorem dX12_word_91 : decode cX12_word 91 = .ok (.iload_n 2, 1) := by decide +kernel
theorem dX12_word_92 : decode cX12_word 92 = .ok (.iaload, 1) := by decide +kernel
theorem dX12_word_93 : decode cX12_word 93 = .ok (.bipush 97, 2) := by decide +kernel
theorem dX12_word_95 : decode cX12_word 95 = .ok (.isub, 1) := by decide +kernel
theorem dX12_word_96 : decode cX12_word 96 = .ok (.iastore, 1) := by decide +kernel
theorem dX12_word_97 : decode cX12_word 97 = .ok (.iinc 2 1, 3) := by decide +kernel
theorem dX12_word_100 : decode cX12_word 100 = .ok (.goto (-26), 3) := by decide +kernel
theorem dX12_word_103 : decode cX12_word 103 = .ok (.aload_n 0, 1) := by decide +kernel
theorem dX12_word_104 : decode cX12_word 104 = .ok (.iconst 0, 1) := by decide +kernel
theorem dX12_word_105 : decode cX12_word 105 = .ok (.putfield 97, 3) := by decide +kernel
theorem dX12_word_108 : decode cX12_word 108 = .ok (.aload_n 0, 1) := by decide +kernel
theorem dX12_word_109 : decode cX12_word 109 = .ok (.getfield 140, 3) := by decide +kernel
theorem dX12_word_112 : decode cX12_word 112 = .ok (.ireturn, 1) := by decide +kernel
set_option maxRecDepth 20000 in
theorem ggX12_is_X12_isName : GoodIn wsX12_is wsX12_isName := goodIn_r _ [6, 7, 8, 5, 9] (by decide +kernel) (by decide +kernel)
set_option maxRecDepth 20000 in
theorem gX12_is_X12_isName : GoodIn wsX12_is (va_wsS RX12 111 yX12_isName wsX12_isName) := goodIn_app (goodIn_of _ (by decide +kernel)) ggX12_is_X12_isName
set_option maxRecDepth 20000 in
theorem ggX12_is_X12_take : GoodIn wsX12_is wsX12_take := goodIn_r _ [13, 2, 14, 15, 16, 17, 18, 47, 48, 49, 50, 51, 52, 53, 54, 55, 56, 57, 58, 59, 60, 61, 62, 63, 64, 65, 66, 67, 68, 69, 70, 71, 72, 73, 74, 75, 76, 77, 78, 79, 80, 81, 82] (by decide +kernel) (by decide +kernel)
set_option maxRecDepth 20000 in
theorem gX12_is_X12_take : GoodIn wsX12_is (wsV RX12 146 RX12 yX12_take wsX12_take) := goodIn_app (goodIn_of _ (by decide +kernel)) ggX12_is_X12_take
set_option maxRecDepth 20000 in
theorem ggX12_is_X12_layMends : GoodIn wsX12_is wsX12_layMends := goodIn_r _ [22, 1, 23, 24, 25, 15, 26, 27, 28, 29, 5, 30, 31, 32, 33, 34, 35, 36, 37, 38, 39, 40, 41, 42, 43, 16, 44, 45, 46, 47, 48, 49, 50, 51, 52, 53, 54, 55, 56, 57, 58, 59, 60, 61, 62, 63, 64, 65, 66, 67, 68, 69, 70, 71, 72, 73, 74, 75, 76, 77, 78, 79, 80, 81, 82] (by decide +kernel) (by decide +kernel)
set_option maxRecDepth 20000 in
theorem gX12_is_X12_layMends : GoodIn wsX12_is (wsV RX12 143 RX12 yX12_layMends wsX12_layMends) := goodIn_app (goodIn_of _ (by decide +kernel)) ggX12_is_X12_layMends
theorem dX12_is_0 : decode cX12_is 0 = .ok (.iload_n 1, 1) := by decide +kernel
theorem dX12_is_1 : decode cX12_is 1 = .ok (.invokestatic 111, 3) := by decide +kernel
theorem dX12_is_4 : decode cX12_is 4 = .ok (.ifCond .ne 5, 3) := by decide +kernel
theorem dX12_is_7 : decode cX12_is 7 = .ok (.iconst (-1), 1) := by decide +kernel
theorem dX12_is_8 : decode cX12_is 8 = .ok (.ireturn, 1) := by decide +kernel
theorem dX12_is_9 : decode cX12_is 9 = .ok (.aload_n 0, 1) := by decide +kernel
theorem dX12_is_10 : decode cX12_is 10 = .ok (.bipush (-6), 2) := by decide +kernel
theorem dX12_is_12 : decode cX12_is 12 = .ok (.invokevirtual 146, 3) := by decide +kernel
theorem dX12_is_15 : decode cX12_is 15 = .ok (.aload_n 0, 1) := by decide +kernel
theorem dX12_is_16 : decode cX12_is 16 = .ok (.invokevirtual 143, 3) := by decide +kernel
theorem dX12_is_19 : decode cX12_is 19 = .ok (.aload_n 0, 1) := by decide +kernel
theorem dX12_is_20 : decode cX12_is 20 = .ok (.getfield 37, 3) := by decide +kernel
theorem dX12_is_23 : decode cX12_is 23 = .ok (.bipush 49, 2) := by decide +kernel
theorem dX12_is_25 : decode cX12_is 25 = .ok (.iload_n 1, 1) := by decide +kernel
theorem dX12_is_26 : decode cX12_is 26 = .ok (.imul, 1) := by decide +kernel
theorem dX12_is_27 : decode cX12_is 27 = .ok (.aload_n 0, 1) := by decide +kernel
theorem dX12_is_28 : decode cX12_is 28 = .ok (.getfield 140, 3) := by decide +kernel
theorem dX12_is_31 : decode cX12_is 31 = .ok (.iadd, 1) := by decide +kernel
theorem dX12_is_32 : decode cX12_is 32 = .ok (.iaload, 1) := by decide +kernel
theorem dX12_is_33 : decode cX12_is 33 = .ok (.ifCond .ne 7, 3) := by decide +kernel
theorem dX12_is_36 : decode cX12_is 36 = .ok (.iconst 1, 1) := by decide +kernel
theorem dX12_is_37 : decode cX12_is 37 = .ok (.goto 4, 3) := by decide +kernel
theorem dX12_is_40 : decode cX12_is 40 = .ok (.iconst 0, 1) := by decide +kernel
theorem dX12_is_41 : decode cX12_is 41 = .ok (.ireturn, 1) := by decide +kernel
theorem dX12_comes_0 : decode cX12_comes 0 = .ok (.iload_n 1, 1) := by decide +kernel
theorem dX12_comes_1 : decode cX12_comes 1 = .ok (.bipush 10, 2) := by decide +kernel
theorem dX12_comes_3 : decode cX12_comes 3 = .ok (.if_icmp .lt 20, 3) := by decide +kernel
theorem dX12_comes_6 : decode cX12_comes 6 = .ok (.aload_n 0, 1) := by decide +kernel
theorem dX12_comes_7 : decode cX12_comes 7 = .ok (.getfield 37, 3) := by decide +kernel
theorem dX12_comes_10 : decode cX12_comes 10 = .ok (.bipush 49, 2) := by decide +kernel
theorem dX12_comes_12 : decode cX12_comes 12 = .ok (.iload_n 1, 1) := by decide +kernel
theorem dX12_comes_13 : decode cX12_comes 13 = .ok (.bipush 10, 2) := by decide +kernel
theorem dX12_comes_15 : decode cX12_comes 15 = .ok (.isub, 1) := by decide +kernel
theorem dX12_comes_16 : decode cX12_comes 16 = .ok (.imul, 1) := by decide +kernel
theorem dX12_comes_17 : decode cX12_comes 17 = .ok (.iaload, 1) := by decide +kernel
theorem dX12_comes_18 : decode cX12_comes 18 = .ok (.ldc 124, 2) := by decide +kernel
theorem dX12_comes_20 : decode cX12_comes 20 = .ok (.if_icmp .ge 7, 3) := by decide +kernel
theorem dX12_comes_23 : decode cX12_comes 23 = .ok (.iconst 1, 1) := by decide +kernel
theorem dX12_comes_24 : decode cX12_comes 24 = .ok (.goto 4, 3) := by decide +kernel
theorem dX12_comes_27 : decode cX12_comes 27 = .ok (.iconst 0, 1) := by decide +kernel
theorem dX12_comes_28 : decode cX12_comes 28 = .ok (.ireturn, 1) := by decide +kernel
theorem dX12_makes_0 : decode cX12_makes 0 = .ok (.iload_n 1, 1) := by decide +kernel
theorem dX12_makes_1 : decode cX12_makes 1 = .ok (.bipush 10, 2) := by decide +kernel
theorem dX12_makes_3 : decode cX12_makes 3 = .ok (.if_icmp .lt 33, 3) := by decide +kernel
theorem dX12_makes_6 : decode cX12_makes 6 = .ok (.aload_n 0, 1) := by decide +kernel
theorem dX12_makes_7 : decode cX12_makes 7 = .ok (.getfield 37, 3) := by decide +kernel
theorem dX12_makes_10 : decode cX12_makes 10 = .ok (.bipush 49, 2) := by decide +kernel
theorem dX12_makes_12 : decode cX12_makes 12 = .ok (.iload_n 1, 1) := by decide +kernel
theorem dX12_makes_13 : decode cX12_makes 13 = .ok (.bipush 10, 2) := by decide +kernel
theorem dX12_makes_15 : decode cX12_makes 15 = .ok (.isub, 1) := by decide +kernel
theorem dX12_makes_16 : decode cX12_makes 16 = .ok (.imul, 1) := by decide +kernel
theorem dX12_makes_17 : decode cX12_makes 17 = .ok (.bipush 7, 2) := by decide +kernel
theorem dX12_makes_19 : decode cX12_makes 19 = .ok (.iload_n 2, 1) := by decide +kernel
theorem dX12_makes_20 : decode cX12_makes 20 = .ok (.imul, 1) := by decide +kernel
theorem dX12_makes_21 : decode cX12_makes 21 = .ok (.iadd, 1) := by decide +kernel
theorem dX12_makes_22 : decode cX12_makes 22 = .ok (.iload_n 3, 1) := by decide +kernel
theorem dX12_makes_23 : decode cX12_makes 23 = .ok (.iadd, 1) := by decide +kernel
theorem dX12_makes_24 : decode cX12_makes 24 = .ok (.iaload, 1) := by decide +kernel
theorem dX12_makes_25 : decode cX12_makes 25 = .ok (.ifCond .ne 7, 3) := by decide +kernel
theorem dX12_makes_28 : decode cX12_makes 28 = .ok (.iconst 1, 1) := by decide +kernel
theorem dX12_makes_29 : decode cX12_makes 29 = .ok (.goto 29, 3) := by decide +kernel
theorem dX12_makes_32 : decode cX12_makes 32 = .ok (.iconst 0, 1) := by decide +kernel
theorem dX12_makes_33 : decode cX12_makes 33 = .ok (.goto 25, 3) := by decide +kernel
theorem dX12_makes_36 : decode cX12_makes 36 = .ok (.iload_n 3, 1) := by decide +kernel
theorem dX12_makes_37 : decode cX12_makes 37 = .ok (.iload_n 2, 1) := by decide +kernel
theorem dX12_makes_38 : decode cX12_makes 38 = .ok (.iconst 1, 1) := by decide +kernel
theorem dX12_makes_39 : decode cX12_makes 39 = .ok (.iadd, 1) := by decide +kernel
theorem dX12_makes_40 : decode cX12_makes 40 = .ok (.if_icmp .ne 17, 3) := by decide +kernel
theorem dX12_makes_43 : decode cX12_makes 43 = .ok (.aload_n 0, 1) := by decide +kernel
theorem dX12_makes_44 : decode cX12_makes 44 = .ok (.getfield 34, 3) := by decide +kernel
theorem dX12_makes_47 : decode cX12_makes 47 = .ok (.iload_n 2, 1) := by decide +kernel
theorem dX12_makes_48 : decode cX12_makes 48 = .ok (.iaload, 1) := by decide +kernel
theorem dX12_makes_49 : decode cX12_makes 49 = .ok (.iload_n 1, 1) := by decide +kernel
theorem dX12_makes_50 : decode cX12_makes 50 = .ok (.if_icmp .ne 7, 3) := by decide +kernel
theorem dX12_makes_53 : decode cX12_makes 53 = .ok (.iconst 1, 1) := by decide +kernel
theorem dX12_makes_54 : decode cX12_makes 54 = .ok (.goto 4, 3) := by decide +kernel
theorem dX12_makes_57 : decode cX12_makes 57 = .ok (.iconst 0, 1) := by decide +kernel
theorem dX12_makes_58 : decode cX12_makes 58 = .ok (.ireturn, 1) := by decide +kernel
theorem dX12_beginsOne_0 : decode cX12_beginsOne 0 = .ok (.iload_n 1, 1) := by decide +kernel
theorem dX12_beginsOne_1 : decode cX12_beginsOne 1 = .ok (.bipush 10, 2) := by decide +kernel
theorem dX12_beginsOne_3 : decode cX12_beginsOne 3 = .ok (.if_icmp .lt 25, 3) := by decide +kernel
theorem dX12_beginsOne_6 : decode cX12_beginsOne 6 = .ok (.aload_n 0, 1) := by decide +kernel
theorem dX12_beginsOne_7 : decode cX12_beginsOne 7 = .ok (.getfield 55, 3) := by decide +kernel
theorem dX12_beginsOne_10 : decode cX12_beginsOne 10 = .ok (.bipush 49, 2) := by decide +kernel
theorem dX12_beginsOne_12 : decode cX12_beginsOne 12 = .ok (.iload_n 1, 1) := by decide +kernel
theorem dX12_beginsOne_13 : decode cX12_beginsOne 13 = .ok (.bipush 10, 2) := by decide +kernel
theorem dX12_beginsOne_15 : decode cX12_beginsOne 15 = .ok (.isub, 1) := by decide +kernel
theorem dX12_beginsOne_16 : decode cX12_beginsOne 16 = .ok (.imul, 1) := by decide +kernel
theorem dX12_beginsOne_17 : decode cX12_beginsOne 17 = .ok (.bipush 7, 2) := by decide +kernel
theorem dX12_beginsOne_19 : decode cX12_beginsOne 19 = .ok (.iload_n 2, 1) := by decide +kernel
theorem dX12_beginsOne_20 : decode cX12_beginsOne 20 = .ok (.imul, 1) := by decide +kernel
theorem dX12_beginsOne_21 : decode cX12_beginsOne 21 = .ok (.iadd, 1) := by decide +kernel
theorem dX12_beginsOne_22 : decode cX12_beginsOne 22 = .ok (.iload_n 3, 1) := by decide +kernel
theorem dX12_beginsOne_23 : decode cX12_beginsOne 23 = .ok (.iadd, 1) := by decide +kernel
theorem dX12_beginsOne_24 : decode cX12_beginsOne 24 = .ok (.baload, 1) := by decide +kernel
theorem dX12_beginsOne_25 : decode cX12_beginsOne 25 = .ok (.goto 30, 3) := by decide +kernel
theorem dX12_beginsOne_28 : decode cX12_beginsOne 28 = .ok (.iload_n 3, 1) := by decide +kernel
theorem dX12_beginsOne_29 : decode cX12_beginsOne 29 = .ok (.iload_n 2, 1) := by decide +kernel
theorem dX12_beginsOne_30 : decode cX12_beginsOne 30 = .ok (.if_icmp .eq 20, 3) := by decide +kernel
theorem dX12_beginsOne_33 : decode cX12_beginsOne 33 = .ok (.iload_n 3, 1) := by decide +kernel
theorem dX12_beginsOne_34 : decode cX12_beginsOne 34 = .ok (.iload_n 2, 1) := by decide +kernel
theorem dX12_beginsOne_35 : decode cX12_beginsOne 35 = .ok (.iconst 1, 1) := by decide +kernel
theorem dX12_beginsOne_36 : decode cX12_beginsOne 36 = .ok (.iadd, 1) := by decide +kernel
theorem dX12_beginsOne_37 : decode cX12_beginsOne 37 = .ok (.if_icmp .ne 17, 3) := by decide +kernel
theorem dX12_beginsOne_40 : decode cX12_beginsOne 40 = .ok (.aload_n 0, 1) := by decide +kernel
theorem dX12_beginsOne_41 : decode cX12_beginsOne 41 = .ok (.getfield 34, 3) := by decide +kernel
theorem dX12_beginsOne_44 : decode cX12_beginsOne 44 = .ok (.iload_n 2, 1) := by decide +kernel
theorem dX12_beginsOne_45 : decode cX12_beginsOne 45 = .ok (.iaload, 1) := by decide +kernel
theorem dX12_beginsOne_46 : decode cX12_beginsOne 46 = .ok (.iload_n 1, 1) := by decide +kernel
theorem dX12_beginsOne_47 : decode cX12_beginsOne 47 = .ok (.if_icmp .ne 7, 3) := by decide +kernel
theorem dX12_beginsOne_50 : decode cX12_beginsOne 50 = .ok (.iconst 1, 1) := by decide +kernel
theorem dX12_beginsOne_51 : decode cX12_beginsOne 51 = .ok (.goto 4, 3) := by decide +kernel
theorem dX12_beginsOne_54 : decode cX12_beginsOne 54 = .ok (.iconst 0, 1) := by decide +kernel
theorem dX12_beginsOne_55 : decode cX12_beginsOne 55 = .ok (.ireturn, 1) := by decide +kernel
set_option maxRecDepth 20000 in
theorem ggX12_beginsRule_X12_comes : GoodIn wsX12_beginsRule wsX12_comes := goodIn_r _ [8, 9, 10, 21, 22, 23, 24, 25, 26, 27, 28, 29, 30, 31, 32, 33, 34, 35, 36, 37, 38, 39, 40, 41, 42, 43, 44, 45, 46, 47, 48, 49, 50, 51, 52, 53, 54, 55, 56] (by decide +kernel) (by decide +kernel)
set_option maxRecDepth 20000 in
theorem gX12_beginsRule_X12_comes : GoodIn wsX12_beginsRule (wsV RX12 150 RX12 yX12_comes wsX12_comes) := goodIn_app (goodIn_of _ (by decide +kernel)) ggX12_beginsRule_X12_comes
set_option maxRecDepth 20000 in
theorem ggX12_beginsRule_X12_beginsOne : GoodIn wsX12_beginsRule wsX12_beginsOne := goodIn_r _ [14, 15, 16, 21, 22, 23, 24, 25, 26, 27, 28, 29, 30, 31, 32, 33, 34, 35, 36, 37, 38, 39, 40, 41, 42, 43, 44, 45, 46, 47, 48, 49, 50, 51, 52, 53, 54, 55, 56] (by decide +kernel) (by decide +kernel)
set_option maxRecDepth 20000 in
theorem gX12_beginsRule_X12_beginsOne : GoodIn wsX12_beginsRule (wsV RX12 153 RX12 yX12_beginsOne wsX12_beginsOne) := goodIn_app (goodIn_of _ (by decide +kernel)) ggX12_beginsRule_X12_beginsOne
set_option maxRecDepth 20000 in
theorem ggX12_beginsRule_X12_makes : GoodIn wsX12_beginsRule wsX12_makes := goodIn_r _ [20, 9, 16, 21, 22, 23, 24, 25, 26, 27, 28, 29, 30, 31, 32, 33, 34, 35, 36, 37, 38, 39, 40, 41, 42, 43, 44, 45, 46, 47, 48, 49, 50, 51, 52, 53, 54, 55, 56] (by decide +kernel) (by decide +kernel)
set_option maxRecDepth 20000 in
theorem gX12_beginsRule_X12_makes : GoodIn wsX12_beginsRule (wsV RX12 156 RX12 yX12_makes wsX12_makes) := goodIn_app (goodIn_of _ (by decide +kernel)) ggX12_beginsRule_X12_makes
theorem dX12_beginsRule_0 : decode cX12_beginsRule 0 = .ok (.iconst 5, 1) := by decide +kernel
theorem dX12_beginsRule_1 : decode cX12_beginsRule 1 = .ok (.iload_n 1, 1) := by decide +kernel
theorem dX12_beginsRule_2 : decode cX12_beginsRule 2 = .ok (.imul, 1) := by decide +kernel
theorem dX12_beginsRule_3 : decode cX12_beginsRule 3 = .ok (.iload_n 2, 1) := by decide +kernel
theorem dX12_beginsRule_4 : decode cX12_beginsRule 4 = .ok (.iadd, 1) := by decide +kernel
theorem dX12_beginsRule_5 : decode cX12_beginsRule 5 = .ok (.istore 5, 2) := by decide +kernel
theorem dX12_beginsRule_7 : decode cX12_beginsRule 7 = .ok (.aload_n 0, 1) := by decide +kernel
theorem dX12_beginsRule_8 : decode cX12_beginsRule 8 = .ok (.getfield 16, 3) := by decide +kernel
theorem dX12_beginsRule_11 : decode cX12_beginsRule 11 = .ok (.iload 5, 2) := by decide +kernel
theorem dX12_beginsRule_13 : decode cX12_beginsRule 13 = .ok (.iaload, 1) := by decide +kernel
theorem dX12_beginsRule_14 : decode cX12_beginsRule 14 = .ok (.istore 6, 2) := by decide +kernel
theorem dX12_beginsRule_16 : decode cX12_beginsRule 16 = .ok (.iconst 0, 1) := by decide +kernel
theorem dX12_beginsRule_17 : decode cX12_beginsRule 17 = .ok (.istore 7, 2) := by decide +kernel
theorem dX12_beginsRule_19 : decode cX12_beginsRule 19 = .ok (.iload 7, 2) := by decide +kernel
theorem dX12_beginsRule_21 : decode cX12_beginsRule 21 = .ok (.bipush 35, 2) := by decide +kernel
theorem dX12_beginsRule_23 : decode cX12_beginsRule 23 = .ok (.if_icmp .ge 27, 3) := by decide +kernel
theorem dX12_beginsRule_26 : decode cX12_beginsRule 26 = .ok (.aload_n 0, 1) := by decide +kernel
theorem dX12_beginsRule_27 : decode cX12_beginsRule 27 = .ok (.getfield 59, 3) := by decide +kernel
theorem dX12_beginsRule_30 : decode cX12_beginsRule 30 = .ok (.iload 7, 2) := by decide +kernel
theorem dX12_beginsRule_32 : decode cX12_beginsRule 32 = .ok (.iload 7, 2) := by decide +kernel
theorem dX12_beginsRule_34 : decode cX12_beginsRule 34 = .ok (.iload_n 3, 1) := by decide +kernel
theorem dX12_beginsRule_35 : decode cX12_beginsRule 35 = .ok (.if_icmp .ne 7, 3) := by decide +kernel
theorem dX12_beginsRule_38 : decode cX12_beginsRule 38 = .ok (.iconst 1, 1) := by decide +kernel
theorem dX12_beginsRule_39 : decode cX12_beginsRule 39 = .ok (.goto 4, 3) := by decide +kernel
theorem dX12_beginsRule_42 : decode cX12_beginsRule 42 = .ok (.iconst 0, 1) := by decide +kernel
theorem dX12_beginsRule_43 : decode cX12_beginsRule 43 = .ok (.bastore, 1) := by decide +kernel
theorem dX12_beginsRule_44 : decode cX12_beginsRule 44 = .ok (.iinc 7 1, 3) := by decide +kernel
theorem dX12_beginsRule_47 : decode cX12_beginsRule 47 = .ok (.goto (-28), 3) := by decide +kernel
theorem dX12_beginsRule_50 : decode cX12_beginsRule 50 = .ok (.iconst 0, 1) := by decide +kernel
theorem dX12_beginsRule_51 : decode cX12_beginsRule 51 = .ok (.istore 7, 2) := by decide +kernel
theorem dX12_beginsRule_53 : decode cX12_beginsRule 53 = .ok (.iload 7, 2) := by decide +kernel
theorem dX12_beginsRule_55 : decode cX12_beginsRule 55 = .ok (.iload 6, 2) := by decide +kernel
theorem dX12_beginsRule_57 : decode cX12_beginsRule 57 = .ok (.if_icmp .ge 30, 3) := by decide +kernel
theorem dX12_beginsRule_60 : decode cX12_beginsRule 60 = .ok (.aload_n 0, 1) := by decide +kernel
theorem dX12_beginsRule_61 : decode cX12_beginsRule 61 = .ok (.aload_n 0, 1) := by decide +kernel
theorem dX12_beginsRule_62 : decode cX12_beginsRule 62 = .ok (.getfield 19, 3) := by decide +kernel
theorem dX12_beginsRule_65 : decode cX12_beginsRule 65 = .ok (.iconst 4, 1) := by decide +kernel
theorem dX12_beginsRule_66 : decode cX12_beginsRule 66 = .ok (.iload 5, 2) := by decide +kernel
theorem dX12_beginsRule_68 : decode cX12_beginsRule 68 = .ok (.imul, 1) := by decide +kernel
theorem dX12_beginsRule_69 : decode cX12_beginsRule 69 = .ok (.iload 7, 2) := by decide +kernel
theorem dX12_beginsRule_71 : decode cX12_beginsRule 71 = .ok (.iadd, 1) := by decide +kernel
theorem dX12_beginsRule_72 : decode cX12_beginsRule 72 = .ok (.iaload, 1) := by decide +kernel
theorem dX12_beginsRule_73 : decode cX12_beginsRule 73 = .ok (.invokevirtual 150, 3) := by decide +kernel
theorem dX12_beginsRule_76 : decode cX12_beginsRule 76 = .ok (.ifCond .ne 5, 3) := by decide +kernel
theorem dX12_beginsRule_79 : decode cX12_beginsRule 79 = .ok (.iconst 0, 1) := by decide +kernel
theorem dX12_beginsRule_80 : decode cX12_beginsRule 80 = .ok (.ireturn, 1) := by decide +kernel
theorem dX12_beginsRule_81 : decode cX12_beginsRule 81 = .ok (.iinc 7 1, 3) := by decide +kernel
theorem dX12_beginsRule_84 : decode cX12_beginsRule 84 = .ok (.goto (-31), 3) := by decide +kernel
theorem dX12_beginsRule_87 : decode cX12_beginsRule 87 = .ok (.iconst 0, 1) := by decide +kernel
theorem dX12_beginsRule_88 : decode cX12_beginsRule 88 = .ok (.istore 7, 2) := by decide +kernel
theorem dX12_beginsRule_90 : decode cX12_beginsRule 90 = .ok (.iload 7, 2) := by decide +kernel
theorem dX12_beginsRule_92 : decode cX12_beginsRule 92 = .ok (.iload 6, 2) := by decide +kernel
theorem dX12_beginsRule_94 : decode cX12_beginsRule 94 = .ok (.if_icmp .ge 160, 3) := by decide +kernel
theorem dX12_beginsRule_97 : decode cX12_beginsRule 97 = .ok (.iload_n 3, 1) := by decide +kernel
theorem dX12_beginsRule_98 : decode cX12_beginsRule 98 = .ok (.istore 8, 2) := by decide +kernel
theorem dX12_beginsRule_100 : decode cX12_beginsRule 100 = .ok (.iload 8, 2) := by decide +kernel
theorem dX12_beginsRule_102 : decode cX12_beginsRule 102 = .ok (.iload 4, 2) := by decide +kernel
theorem dX12_beginsRule_104 : decode cX12_beginsRule 104 = .ok (.if_icmp .gt 144, 3) := by decide +kernel
theorem dX12_beginsRule_107 : decode cX12_beginsRule 107 = .ok (.aload_n 0, 1) := by decide +kernel
theorem dX12_beginsRule_108 : decode cX12_beginsRule 108 = .ok (.getfield 59, 3) := by decide +kernel
theorem dX12_beginsRule_111 : decode cX12_beginsRule 111 = .ok (.bipush 7, 2) := by decide +kernel
theorem dX12_beginsRule_113 : decode cX12_beginsRule 113 = .ok (.iload 7, 2) := by decide +kernel
theorem dX12_beginsRule_115 : decode cX12_beginsRule 115 = .ok (.imul, 1) := by decide +kernel
theorem dX12_beginsRule_116 : decode cX12_beginsRule 116 = .ok (.iload 8, 2) := by decide +kernel
theorem dX12_beginsRule_118 : decode cX12_beginsRule 118 = .ok (.iadd, 1) := by decide +kernel
theorem dX12_beginsRule_119 : decode cX12_beginsRule 119 = .ok (.baload, 1) := by decide +kernel
theorem dX12_beginsRule_120 : decode cX12_beginsRule 120 = .ok (.ifCond .eq 28, 3) := by decide +kernel
theorem dX12_beginsRule_123 : decode cX12_beginsRule 123 = .ok (.aload_n 0, 1) := by decide +kernel
theorem dX12_beginsRule_124 : decode cX12_beginsRule 124 = .ok (.aload_n 0, 1) := by decide +kernel
theorem dX12_beginsRule_125 : decode cX12_beginsRule 125 = .ok (.getfield 19, 3) := by decide +kernel
theorem dX12_beginsRule_128 : decode cX12_beginsRule 128 = .ok (.iconst 4, 1) := by decide +kernel
theorem dX12_beginsRule_129 : decode cX12_beginsRule 129 = .ok (.iload 5, 2) := by decide +kernel
theorem dX12_beginsRule_131 : decode cX12_beginsRule 131 = .ok (.imul, 1) := by decide +kernel
theorem dX12_beginsRule_132 : decode cX12_beginsRule 132 = .ok (.iload 7, 2) := by decide +kernel
theorem dX12_beginsRule_134 : decode cX12_beginsRule 134 = .ok (.iadd, 1) := by decide +kernel
theorem dX12_beginsRule_135 : decode cX12_beginsRule 135 = .ok (.iaload, 1) := by decide +kernel
theorem dX12_beginsRule_136 : decode cX12_beginsRule 136 = .ok (.iload 8, 2) := by decide +kernel
theorem dX12_beginsRule_138 : decode cX12_beginsRule 138 = .ok (.iload 4, 2) := by decide +kernel
theorem dX12_beginsRule_140 : decode cX12_beginsRule 140 = .ok (.invokevirtual 153, 3) := by decide +kernel
theorem dX12_beginsRule_143 : decode cX12_beginsRule 143 = .ok (.ifCond .eq 5, 3) := by decide +kernel
theorem dX12_beginsRule_146 : decode cX12_beginsRule 146 = .ok (.iconst 1, 1) := by decide +kernel
theorem dX12_beginsRule_147 : decode cX12_beginsRule 147 = .ok (.ireturn, 1) := by decide +kernel
theorem dX12_beginsRule_148 : decode cX12_beginsRule 148 = .ok (.iload 8, 2) := by decide +kernel
theorem dX12_beginsRule_150 : decode cX12_beginsRule 150 = .ok (.istore 9, 2) := by decide +kernel
theorem dX12_beginsRule_152 : decode cX12_beginsRule 152 = .ok (.iload 9, 2) := by decide +kernel
theorem dX12_beginsRule_154 : decode cX12_beginsRule 154 = .ok (.iload 4, 2) := by decide +kernel
theorem dX12_beginsRule_156 : decode cX12_beginsRule 156 = .ok (.if_icmp .gt 86, 3) := by decide +kernel
theorem dX12_beginsRule_159 : decode cX12_beginsRule 159 = .ok (.aload_n 0, 1) := by decide +kernel
theorem dX12_beginsRule_160 : decode cX12_beginsRule 160 = .ok (.getfield 59, 3) := by decide +kernel
theorem dX12_beginsRule_163 : decode cX12_beginsRule 163 = .ok (.bipush 7, 2) := by decide +kernel
theorem dX12_beginsRule_165 : decode cX12_beginsRule 165 = .ok (.iload 7, 2) := by decide +kernel
theorem dX12_beginsRule_167 : decode cX12_beginsRule 167 = .ok (.imul, 1) := by decide +kernel
theorem dX12_beginsRule_168 : decode cX12_beginsRule 168 = .ok (.iload 8, 2) := by decide +kernel
theorem dX12_beginsRule_170 : decode cX12_beginsRule 170 = .ok (.iadd, 1) := by decide +kernel
theorem dX12_beginsRule_171 : decode cX12_beginsRule 171 = .ok (.baload, 1) := by decide +kernel
theorem dX12_beginsRule_172 : decode cX12_beginsRule 172 = .ok (.ifCond .eq 70, 3) := by decide +kernel
theorem dX12_beginsRule_175 : decode cX12_beginsRule 175 = .ok (.aload_n 0, 1) := by decide +kernel
theorem dX12_beginsRule_176 : decode cX12_beginsRule 176 = .ok (.getfield 59, 3) := by decide +kernel
theorem dX12_beginsRule_179 : decode cX12_beginsRule 179 = .ok (.bipush 7, 2) := by decide +kernel
theorem dX12_beginsRule_181 : decode cX12_beginsRule 181 = .ok (.iload 7, 2) := by decide +kernel
theorem dX12_beginsRule_183 : decode cX12_beginsRule 183 = .ok (.iconst 1, 1) := by decide +kernel
theorem dX12_beginsRule_184 : decode cX12_beginsRule 184 = .ok (.iadd, 1) := by decide +kernel
theorem dX12_beginsRule_185 : decode cX12_beginsRule 185 = .ok (.imul, 1) := by decide +kernel
theorem dX12_beginsRule_186 : decode cX12_beginsRule 186 = .ok (.iload 9, 2) := by decide +kernel
theorem dX12_beginsRule_188 : decode cX12_beginsRule 188 = .ok (.iadd, 1) := by decide +kernel
theorem dX12_beginsRule_189 : decode cX12_beginsRule 189 = .ok (.aload_n 0, 1) := by decide +kernel
theorem dX12_beginsRule_190 : decode cX12_beginsRule 190 = .ok (.getfield 59, 3) := by decide +kernel
theorem dX12_beginsRule_193 : decode cX12_beginsRule 193 = .ok (.bipush 7, 2) := by decide +kernel
theorem dX12_beginsRule_195 : decode cX12_beginsRule 195 = .ok (.iload 7, 2) := by decide +kernel
theorem dX12_beginsRule_197 : decode cX12_beginsRule 197 = .ok (.iconst 1, 1) := by decide +kernel
theorem dX12_beginsRule_198 : decode cX12_beginsRule 198 = .ok (.iadd, 1) := by decide +kernel
theorem dX12_beginsRule_199 : decode cX12_beginsRule 199 = .ok (.imul, 1) := by decide +kernel
theorem dX12_beginsRule_200 : decode cX12_beginsRule 200 = .ok (.iload 9, 2) := by decide +kernel
theorem dX12_beginsRule_202 : decode cX12_beginsRule 202 = .ok (.iadd, 1) := by decide +kernel
theorem dX12_beginsRule_203 : decode cX12_beginsRule 203 = .ok (.baload, 1) := by decide +kernel
theorem dX12_beginsRule_204 : decode cX12_beginsRule 204 = .ok (.ifCond .ne 26, 3) := by decide +kernel
theorem dX12_beginsRule_207 : decode cX12_beginsRule 207 = .ok (.aload_n 0, 1) := by decide +kernel
theorem dX12_beginsRule_208 : decode cX12_beginsRule 208 = .ok (.aload_n 0, 1) := by decide +kernel
theorem dX12_beginsRule_209 : decode cX12_beginsRule 209 = .ok (.getfield 19, 3) := by decide +kernel
theorem dX12_beginsRule_212 : decode cX12_beginsRule 212 = .ok (.iconst 4, 1) := by decide +kernel
theorem dX12_beginsRule_213 : decode cX12_beginsRule 213 = .ok (.iload 5, 2) := by decide +kernel
theorem dX12_beginsRule_215 : decode cX12_beginsRule 215 = .ok (.imul, 1) := by decide +kernel
theorem dX12_beginsRule_216 : decode cX12_beginsRule 216 = .ok (.iload 7, 2) := by decide +kernel
theorem dX12_beginsRule_218 : decode cX12_beginsRule 218 = .ok (.iadd, 1) := by decide +kernel
theorem dX12_beginsRule_219 : decode cX12_beginsRule 219 = .ok (.iaload, 1) := by decide +kernel
theorem dX12_beginsRule_220 : decode cX12_beginsRule 220 = .ok (.iload 8, 2) := by decide +kernel
theorem dX12_beginsRule_222 : decode cX12_beginsRule 222 = .ok (.iload 9, 2) := by decide +kernel
theorem dX12_beginsRule_224 : decode cX12_beginsRule 224 = .ok (.invokevirtual 156, 3) := by decide +kernel
theorem dX12_beginsRule_227 : decode cX12_beginsRule 227 = .ok (.ifCond .eq 7, 3) := by decide +kernel
theorem dX12_beginsRule_230 : decode cX12_beginsRule 230 = .ok (.iconst 1, 1) := by decide +kernel
theorem dX12_beginsRule_231 : decode cX12_beginsRule 231 = .ok (.goto 4, 3) := by decide +kernel
theorem dX12_beginsRule_234 : decode cX12_beginsRule 234 = .ok (.iconst 0, 1) := by decide +kernel
theorem dX12_beginsRule_235 : decode cX12_beginsRule 235 = .ok (.bastore, 1) := by decide +kernel
theorem dX12_beginsRule_236 : decode cX12_beginsRule 236 = .ok (.iinc 9 1, 3) := by decide +kernel
theorem dX12_beginsRule_239 : decode cX12_beginsRule 239 = .ok (.goto (-87), 3) := by decide +kernel
theorem dX12_beginsRule_242 : decode cX12_beginsRule 242 = .ok (.iinc 8 1, 3) := by decide +kernel
theorem dX12_beginsRule_245 : decode cX12_beginsRule 245 = .ok (.goto (-145), 3) := by decide +kernel
theorem dX12_beginsRule_248 : decode cX12_beginsRule 248 = .ok (.iinc 7 1, 3) := by decide +kernel
theorem dX12_beginsRule_251 : decode cX12_beginsRule 251 = .ok (.goto (-161), 3) := by decide +kernel
theorem dX12_beginsRule_254 : decode cX12_beginsRule 254 = .ok (.aload_n 0, 1) := by decide +kernel
theorem dX12_beginsRule_255 : decode cX12_beginsRule 255 = .ok (.getfield 59, 3) := by decide +kernel
theorem dX12_beginsRule_258 : decode cX12_beginsRule 258 = .ok (.bipush 7, 2) := by decide +kernel
theorem dX12_beginsRule_260 : decode cX12_beginsRule 260 = .ok (.iload 6, 2) := by decide +kernel
theorem dX12_beginsRule_262 : decode cX12_beginsRule 262 = .ok (.imul, 1) := by decide +kernel
theorem dX12_beginsRule_263 : decode cX12_beginsRule 263 = .ok (.iload 4, 2) := by decide +kernel
theorem dX12_beginsRule_265 : decode cX12_beginsRule 265 = .ok (.iadd, 1) := by decide +kernel
theorem dX12_beginsRule_266 : decode cX12_beginsRule 266 = .ok (.baload, 1) := by decide +kernel
theorem dX12_beginsRule_267 : decode cX12_beginsRule 267 = .ok (.ireturn, 1) := by decide +kernel
set_option maxRecDepth 20000 in
theorem ggX12_first_X12_isName : GoodIn wsX12_first wsX12_isName := goodIn_r _ [8, 9, 10, 7, 11] (by decide +kernel) (by decide +kernel)
set_option maxRecDepth 20000 in
theorem gX12_first_X12_isName : GoodIn wsX12_first (va_wsS RX12 111 yX12_isName wsX12_isName) := goodIn_app (goodIn_of _ (by decide +kernel)) ggX12_first_X12_isName
set_option maxRecDepth 20000 in
theorem ggX12_first_X12_take : GoodIn wsX12_first wsX12_take := goodIn_r _ [15, 4, 16, 2, 17, 18, 19, 65, 66, 67, 68, 69, 70, 71, 72, 73, 74, 75, 76, 77, 78, 79, 80, 81, 82, 83, 84, 85, 86, 87, 88, 89, 90, 91, 92, 93, 94, 95, 96, 97, 98, 99, 100] (by decide +kernel) (by decide +kernel)
set_option maxRecDepth 20000 in
theorem gX12_first_X12_take : GoodIn wsX12_first (wsV RX12 146 RX12 yX12_take wsX12_take) := goodIn_app (goodIn_of _ (by decide +kernel)) ggX12_first_X12_take
set_option maxRecDepth 20000 in
theorem ggX12_first_X12_layMends : GoodIn wsX12_first wsX12_layMends := goodIn_r _ [23, 24, 25, 26, 27, 2, 3, 28, 29, 30, 7, 31, 32, 33, 34, 35, 36, 37, 38, 39, 40, 41, 42, 43, 44, 17, 45, 46, 47, 65, 66, 67, 68, 69, 70, 71, 72, 73, 74, 75, 76, 77, 78, 79, 80, 81, 82, 83, 84, 85, 86, 87, 88, 89, 90, 91, 92, 93, 94, 95, 96, 97, 98, 99, 100] (by decide +kernel) (by decide +kernel)
set_option maxRecDepth 20000 in
theorem gX12_first_X12_layMends : GoodIn wsX12_first (wsV RX12 143 RX12 yX12_layMends wsX12_layMends) := goodIn_app (goodIn_of _ (by decide +kernel)) ggX12_first_X12_layMends
set_option maxRecDepth 20000 in
theorem ggX12_first_X12_beginsRule : GoodIn wsX12_first wsX12_beginsRule := goodIn_r _ [51, 32, 52, 36, 53, 54, 55, 7, 56, 24, 25, 57, 58, 59, 60, 1, 17, 61, 62, 63, 64, 65, 66, 67, 68, 69, 70, 71, 72, 73, 74, 75, 76, 77, 78, 79, 80, 81, 82, 83, 84, 85, 86, 87, 88, 89, 90, 91, 92, 93, 94, 95, 96, 97, 98, 99, 100] (by decide +kernel) (by decide +kernel)
set_option maxRecDepth 20000 in
theorem gX12_first_X12_beginsRule : GoodIn wsX12_first (wsV RX12 159 RX12 yX12_beginsRule wsX12_beginsRule) := goodIn_app (goodIn_of _ (by decide +kernel)) ggX12_first_X12_beginsRule
theorem dX12_first_0 : decode cX12_first 0 = .ok (.iload_n 1, 1) := by decide +kernel
theorem dX12_first_1 : decode cX12_first 1 = .ok (.invokestatic 111, 3) := by decide +kernel
theorem dX12_first_4 : decode cX12_first 4 = .ok (.ifCond .ne 5, 3) := by decide +kernel
theorem dX12_first_7 : decode cX12_first 7 = .ok (.iconst (-1), 1) := by decide +kernel
theorem dX12_first_8 : decode cX12_first 8 = .ok (.ireturn, 1) := by decide +kernel
theorem dX12_first_9 : decode cX12_first 9 = .ok (.aload_n 0, 1) := by decide +kernel
theorem dX12_first_10 : decode cX12_first 10 = .ok (.bipush (-6), 2) := by decide +kernel
theorem dX12_first_12 : decode cX12_first 12 = .ok (.invokevirtual 146, 3) := by decide +kernel
theorem dX12_first_15 : decode cX12_first 15 = .ok (.aload_n 0, 1) := by decide +kernel
theorem dX12_first_16 : decode cX12_first 16 = .ok (.invokevirtual 143, 3) := by decide +kernel
theorem dX12_first_19 : decode cX12_first 19 = .ok (.iconst 0, 1) := by decide +kernel
theorem dX12_first_20 : decode cX12_first 20 = .ok (.istore_n 2, 1) := by decide +kernel
theorem dX12_first_21 : decode cX12_first 21 = .ok (.iload_n 2, 1) := by decide +kernel
theorem dX12_first_22 : decode cX12_first 22 = .ok (.sipush 294, 3) := by decide +kernel
theorem dX12_first_25 : decode cX12_first 25 = .ok (.if_icmp .ge 16, 3) := by decide +kernel
theorem dX12_first_28 : decode cX12_first 28 = .ok (.aload_n 0, 1) := by decide +kernel
theorem dX12_first_29 : decode cX12_first 29 = .ok (.getfield 55, 3) := by decide +kernel
theorem dX12_first_32 : decode cX12_first 32 = .ok (.iload_n 2, 1) := by decide +kernel
theorem dX12_first_33 : decode cX12_first 33 = .ok (.iconst 0, 1) := by decide +kernel
theorem dX12_first_34 : decode cX12_first 34 = .ok (.bastore, 1) := by decide +kernel
theorem dX12_first_35 : decode cX12_first 35 = .ok (.iinc 2 1, 3) := by decide +kernel
theorem dX12_first_38 : decode cX12_first 38 = .ok (.goto (-17), 3) := by decide +kernel
theorem dX12_first_41 : decode cX12_first 41 = .ok (.iconst 1, 1) := by decide +kernel
theorem dX12_first_42 : decode cX12_first 42 = .ok (.istore_n 2, 1) := by decide +kernel
theorem dX12_first_43 : decode cX12_first 43 = .ok (.iload_n 2, 1) := by decide +kernel
theorem dX12_first_44 : decode cX12_first 44 = .ok (.ifCond .eq 142, 3) := by decide +kernel
theorem dX12_first_47 : decode cX12_first 47 = .ok (.iconst 0, 1) := by decide +kernel
theorem dX12_first_48 : decode cX12_first 48 = .ok (.istore_n 2, 1) := by decide +kernel
theorem dX12_first_49 : decode cX12_first 49 = .ok (.iconst 0, 1) := by decide +kernel
theorem dX12_first_50 : decode cX12_first 50 = .ok (.istore_n 3, 1) := by decide +kernel
theorem dX12_first_51 : decode cX12_first 51 = .ok (.iload_n 3, 1) := by decide +kernel
theorem dX12_first_52 : decode cX12_first 52 = .ok (.bipush 6, 2) := by decide +kernel
theorem dX12_first_54 : decode cX12_first 54 = .ok (.if_icmp .ge 129, 3) := by decide +kernel
theorem dX12_first_57 : decode cX12_first 57 = .ok (.iconst 0, 1) := by decide +kernel
theorem dX12_first_58 : decode cX12_first 58 = .ok (.istore 4, 2) := by decide +kernel
theorem dX12_first_60 : decode cX12_first 60 = .ok (.iload 4, 2) := by decide +kernel
theorem dX12_first_62 : decode cX12_first 62 = .ok (.aload_n 0, 1) := by decide +kernel
theorem dX12_first_63 : decode cX12_first 63 = .ok (.getfield 133, 3) := by decide +kernel
theorem dX12_first_66 : decode cX12_first 66 = .ok (.if_icmp .gt 111, 3) := by decide +kernel
theorem dX12_first_69 : decode cX12_first 69 = .ok (.iload 4, 2) := by decide +kernel
theorem dX12_first_71 : decode cX12_first 71 = .ok (.istore 5, 2) := by decide +kernel
theorem dX12_first_73 : decode cX12_first 73 = .ok (.iload 5, 2) := by decide +kernel
theorem dX12_first_75 : decode cX12_first 75 = .ok (.aload_n 0, 1) := by decide +kernel
theorem dX12_first_76 : decode cX12_first 76 = .ok (.getfield 133, 3) := by decide +kernel
theorem dX12_first_79 : decode cX12_first 79 = .ok (.if_icmp .gt 92, 3) := by decide +kernel
theorem dX12_first_82 : decode cX12_first 82 = .ok (.bipush 49, 2) := by decide +kernel
theorem dX12_first_84 : decode cX12_first 84 = .ok (.iload_n 3, 1) := by decide +kernel
theorem dX12_first_85 : decode cX12_first 85 = .ok (.imul, 1) := by decide +kernel
theorem dX12_first_86 : decode cX12_first 86 = .ok (.bipush 7, 2) := by decide +kernel
theorem dX12_first_88 : decode cX12_first 88 = .ok (.iload 4, 2) := by decide +kernel
theorem dX12_first_90 : decode cX12_first 90 = .ok (.imul, 1) := by decide +kernel
theorem dX12_first_91 : decode cX12_first 91 = .ok (.iadd, 1) := by decide +kernel
theorem dX12_first_92 : decode cX12_first 92 = .ok (.iload 5, 2) := by decide +kernel
theorem dX12_first_94 : decode cX12_first 94 = .ok (.iadd, 1) := by decide +kernel
theorem dX12_first_95 : decode cX12_first 95 = .ok (.istore 6, 2) := by decide +kernel
theorem dX12_first_97 : decode cX12_first 97 = .ok (.iconst 0, 1) := by decide +kernel
theorem dX12_first_98 : decode cX12_first 98 = .ok (.istore 7, 2) := by decide +kernel
theorem dX12_first_100 : decode cX12_first 100 = .ok (.iload 7, 2) := by decide +kernel
theorem dX12_first_102 : decode cX12_first 102 = .ok (.aload_n 0, 1) := by decide +kernel
theorem dX12_first_103 : decode cX12_first 103 = .ok (.getfield 13, 3) := by decide +kernel
theorem dX12_first_106 : decode cX12_first 106 = .ok (.iload_n 3, 1) := by decide +kernel
theorem dX12_first_107 : decode cX12_first 107 = .ok (.iaload, 1) := by decide +kernel
theorem dX12_first_108 : decode cX12_first 108 = .ok (.if_icmp .ge 57, 3) := by decide +kernel
theorem dX12_first_111 : decode cX12_first 111 = .ok (.aload_n 0, 1) := by decide +kernel
theorem dX12_first_112 : decode cX12_first 112 = .ok (.getfield 55, 3) := by decide +kernel
theorem dX12_first_115 : decode cX12_first 115 = .ok (.iload 6, 2) := by decide +kernel
theorem dX12_first_117 : decode cX12_first 117 = .ok (.baload, 1) := by decide +kernel
theorem dX12_first_118 : decode cX12_first 118 = .ok (.ifCond .ne 47, 3) := by decide +kernel
theorem dX12_first_121 : decode cX12_first 121 = .ok (.aload_n 0, 1) := by decide +kernel
theorem dX12_first_122 : decode cX12_first 122 = .ok (.getfield 55, 3) := by decide +kernel
theorem dX12_first_125 : decode cX12_first 125 = .ok (.iload 6, 2) := by decide +kernel
theorem dX12_first_127 : decode cX12_first 127 = .ok (.aload_n 0, 1) := by decide +kernel
theorem dX12_first_128 : decode cX12_first 128 = .ok (.iload_n 3, 1) := by decide +kernel
theorem dX12_first_129 : decode cX12_first 129 = .ok (.iload 7, 2) := by decide +kernel
theorem dX12_first_131 : decode cX12_first 131 = .ok (.iload 4, 2) := by decide +kernel
theorem dX12_first_133 : decode cX12_first 133 = .ok (.iload 5, 2) := by decide +kernel
theorem dX12_first_135 : decode cX12_first 135 = .ok (.invokevirtual 159, 3) := by decide +kernel
theorem dX12_first_138 : decode cX12_first 138 = .ok (.bastore, 1) := by decide +kernel
theorem dX12_first_139 : decode cX12_first 139 = .ok (.iload_n 2, 1) := by decide +kernel
theorem dX12_first_140 : decode cX12_first 140 = .ok (.ifCond .ne 13, 3) := by decide +kernel
theorem dX12_first_143 : decode cX12_first 143 = .ok (.aload_n 0, 1) := by decide +kernel
theorem dX12_first_144 : decode cX12_first 144 = .ok (.getfield 55, 3) := by decide +kernel
theorem dX12_first_147 : decode cX12_first 147 = .ok (.iload 6, 2) := by decide +kernel
theorem dX12_first_149 : decode cX12_first 149 = .ok (.baload, 1) := by decide +kernel
theorem dX12_first_150 : decode cX12_first 150 = .ok (.ifCond .eq 7, 3) := by decide +kernel
theorem dX12_first_153 : decode cX12_first 153 = .ok (.iconst 1, 1) := by decide +kernel
theorem dX12_first_154 : decode cX12_first 154 = .ok (.goto 4, 3) := by decide +kernel
theorem dX12_first_157 : decode cX12_first 157 = .ok (.iconst 0, 1) := by decide +kernel
theorem dX12_first_158 : decode cX12_first 158 = .ok (.istore_n 2, 1) := by decide +kernel
theorem dX12_first_159 : decode cX12_first 159 = .ok (.iinc 7 1, 3) := by decide +kernel
theorem dX12_first_162 : decode cX12_first 162 = .ok (.goto (-62), 3) := by decide +kernel
theorem dX12_first_165 : decode cX12_first 165 = .ok (.iinc 5 1, 3) := by decide +kernel
theorem dX12_first_168 : decode cX12_first 168 = .ok (.goto (-95), 3) := by decide +kernel
theorem dX12_first_171 : decode cX12_first 171 = .ok (.iinc 4 1, 3) := by decide +kernel
theorem dX12_first_174 : decode cX12_first 174 = .ok (.goto (-114), 3) := by decide +kernel
theorem dX12_first_177 : decode cX12_first 177 = .ok (.iinc 3 1, 3) := by decide +kernel
theorem dX12_first_180 : decode cX12_first 180 = .ok (.goto (-129), 3) := by decide +kernel
theorem dX12_first_183 : decode cX12_first 183 = .ok (.goto (-140), 3) := by decide +kernel
theorem dX12_first_186 : decode cX12_first 186 = .ok (.iconst 0, 1) := by decide +kernel
theorem dX12_first_187 : decode cX12_first 187 = .ok (.istore_n 3, 1) := by decide +kernel
theorem dX12_first_188 : decode cX12_first 188 = .ok (.iload_n 3, 1) := by decide +kernel
theorem dX12_first_189 : decode cX12_first 189 = .ok (.aload_n 0, 1) := by decide +kernel
theorem dX12_first_190 : decode cX12_first 190 = .ok (.getfield 140, 3) := by decide +kernel
theorem dX12_first_193 : decode cX12_first 193 = .ok (.if_icmp .gt 25, 3) := by decide +kernel
theorem dX12_first_196 : decode cX12_first 196 = .ok (.aload_n 0, 1) := by decide +kernel
theorem dX12_first_197 : decode cX12_first 197 = .ok (.getfield 55, 3) := by decide +kernel
theorem dX12_first_200 : decode cX12_first 200 = .ok (.bipush 49, 2) := by decide +kernel
theorem dX12_first_202 : decode cX12_first 202 = .ok (.iload_n 1, 1) := by decide +kernel
theorem dX12_first_203 : decode cX12_first 203 = .ok (.imul, 1) := by decide +kernel
theorem dX12_first_204 : decode cX12_first 204 = .ok (.iload_n 3, 1) := by decide +kernel
theorem dX12_first_205 : decode cX12_first 205 = .ok (.iadd, 1) := by decide +kernel
theorem dX12_first_206 : decode cX12_first 206 = .ok (.baload, 1) := by decide +kernel
theorem dX12_first_207 : decode cX12_first 207 = .ok (.ifCond .ne 5, 3) := by decide +kernel
theorem dX12_first_210 : decode cX12_first 210 = .ok (.iload_n 3, 1) := by decide +kernel
theorem dX12_first_211 : decode cX12_first 211 = .ok (.ireturn, 1) := by decide +kernel
theorem dX12_first_212 : decode cX12_first 212 = .ok (.iinc 3 1, 3) := by decide +kernel
theorem dX12_first_215 : decode cX12_first 215 = .ok (.goto (-27), 3) := by decide +kernel
theorem dX12_first_218 : decode cX12_first 218 = .ok (.bipush (-6), 2) := by decide +kernel
theorem dX12_first_220 : decode cX12_first 220 = .ok (.ireturn, 1) := by decide +kernel
set_option maxRecDepth 20000 in
theorem ggX12_cost_X12_in : GoodIn wsX12_cost wsX12_in := goodIn_r _ [5] (by decide +kernel) (by decide +kernel)
set_option maxRecDepth 20000 in
theorem gX12_cost_X12_in : GoodIn wsX12_cost (va_wsS RX12 93 yX12_in wsX12_in) := goodIn_app (goodIn_of _ (by decide +kernel)) ggX12_cost_X12_in
set_option maxRecDepth 20000 in
theorem ggX12_cost_X12_turn : GoodIn wsX12_cost wsX12_turn := goodIn_r _ [9, 10, 11, 12, 13, 14, 15, 16, 17, 18, 19, 20, 21, 22, 23, 24, 25, 26, 27, 28, 29, 30, 31, 32, 33, 34, 35, 36, 37, 38, 39, 40, 41, 42, 43, 44, 45, 46] (by decide +kernel) (by decide +kernel)
set_option maxRecDepth 20000 in
theorem gX12_cost_X12_turn : GoodIn wsX12_cost (wsV RX12 108 RX12 yX12_turn wsX12_turn) := goodIn_app (goodIn_of _ (by decide +kernel)) ggX12_cost_X12_turn
theorem dX12_cost_0 : decode cX12_cost 0 = .ok (.iload_n 1, 1) := by decide +kernel
theorem dX12_cost_1 : decode cX12_cost 1 = .ok (.iconst 0, 1) := by decide +kernel
theorem dX12_cost_2 : decode cX12_cost 2 = .ok (.iconst 2, 1) := by decide +kernel
theorem dX12_cost_3 : decode cX12_cost 3 = .ok (.invokestatic 93, 3) := by decide +kernel
theorem dX12_cost_6 : decode cX12_cost 6 = .ok (.ifCond .eq 13, 3) := by decide +kernel
theorem dX12_cost_9 : decode cX12_cost 9 = .ok (.iload_n 2, 1) := by decide +kernel
theorem dX12_cost_10 : decode cX12_cost 10 = .ok (.iconst 1, 1) := by decide +kernel
theorem dX12_cost_11 : decode cX12_cost 11 = .ok (.bipush 9, 2) := by decide +kernel
theorem dX12_cost_13 : decode cX12_cost 13 = .ok (.invokestatic 93, 3) := by decide +kernel
theorem dX12_cost_16 : decode cX12_cost 16 = .ok (.ifCond .ne 6, 3) := by decide +kernel
theorem dX12_cost_19 : decode cX12_cost 19 = .ok (.bipush (-2), 2) := by decide +kernel
theorem dX12_cost_21 : decode cX12_cost 21 = .ok (.ireturn, 1) := by decide +kernel
theorem dX12_cost_22 : decode cX12_cost 22 = .ok (.aload_n 0, 1) := by decide +kernel
theorem dX12_cost_23 : decode cX12_cost 23 = .ok (.getfield 31, 3) := by decide +kernel
theorem dX12_cost_26 : decode cX12_cost 26 = .ok (.iload_n 1, 1) := by decide +kernel
theorem dX12_cost_27 : decode cX12_cost 27 = .ok (.iaload, 1) := by decide +kernel
theorem dX12_cost_28 : decode cX12_cost 28 = .ok (.istore_n 3, 1) := by decide +kernel
theorem dX12_cost_29 : decode cX12_cost 29 = .ok (.aload_n 0, 1) := by decide +kernel
theorem dX12_cost_30 : decode cX12_cost 30 = .ok (.getfield 31, 3) := by decide +kernel
theorem dX12_cost_33 : decode cX12_cost 33 = .ok (.iload_n 1, 1) := by decide +kernel
theorem dX12_cost_34 : decode cX12_cost 34 = .ok (.iload_n 2, 1) := by decide +kernel
theorem dX12_cost_35 : decode cX12_cost 35 = .ok (.iastore, 1) := by decide +kernel
theorem dX12_cost_36 : decode cX12_cost 36 = .ok (.aload_n 0, 1) := by decide +kernel
theorem dX12_cost_37 : decode cX12_cost 37 = .ok (.invokevirtual 108, 3) := by decide +kernel
theorem dX12_cost_40 : decode cX12_cost 40 = .ok (.iload_n 3, 1) := by decide +kernel
theorem dX12_cost_41 : decode cX12_cost 41 = .ok (.ireturn, 1) := by decide +kernel
set_option maxRecDepth 20000 in
theorem ggX12_mend_X12_isName : GoodIn wsX12_mend wsX12_isName := goodIn_r _ [7, 8, 9, 6, 10] (by decide +kernel) (by decide +kernel)
set_option maxRecDepth 20000 in
theorem gX12_mend_X12_isName : GoodIn wsX12_mend (va_wsS RX12 111 yX12_isName wsX12_isName) := goodIn_app (goodIn_of _ (by decide +kernel)) ggX12_mend_X12_isName
set_option maxRecDepth 20000 in
theorem ggX12_mend_X12_take : GoodIn wsX12_mend wsX12_take := goodIn_r _ [14, 1, 15, 16, 17, 18, 19, 47, 48, 49, 50, 51, 52, 53, 54, 55, 56, 57, 58, 59, 60, 61, 62, 63, 64, 65, 66, 67, 68, 69, 70, 71, 72, 73, 74, 75, 76, 77, 78, 79, 80, 81, 82] (by decide +kernel) (by decide +kernel)
set_option maxRecDepth 20000 in
theorem gX12_mend_X12_take : GoodIn wsX12_mend (wsV RX12 146 RX12 yX12_take wsX12_take) := goodIn_app (goodIn_of _ (by decide +kernel)) ggX12_mend_X12_take
set_option maxRecDepth 20000 in
theorem ggX12_mend_X12_layMends : GoodIn wsX12_mend wsX12_layMends := goodIn_r _ [23, 2, 3, 24, 25, 16, 26, 27, 28, 29, 6, 30, 31, 32, 33, 34, 35, 36, 37, 38, 39, 40, 41, 42, 43, 17, 44, 45, 46, 47, 48, 49, 50, 51, 52, 53, 54, 55, 56, 57, 58, 59, 60, 61, 62, 63, 64, 65, 66, 67, 68, 69, 70, 71, 72, 73, 74, 75, 76, 77, 78, 79, 80, 81, 82] (by decide +kernel) (by decide +kernel)
set_option maxRecDepth 20000 in
theorem gX12_mend_X12_layMends : GoodIn wsX12_mend (wsV RX12 143 RX12 yX12_layMends wsX12_layMends) := goodIn_app (goodIn_of _ (by decide +kernel)) ggX12_mend_X12_layMends
theorem dX12_mend_0 : decode cX12_mend 0 = .ok (.iload_n 1, 1) := by decide +kernel
theorem dX12_mend_1 : decode cX12_mend 1 = .ok (.invokestatic 111, 3) := by decide +kernel
theorem dX12_mend_4 : decode cX12_mend 4 = .ok (.ifCond .ne 5, 3) := by decide +kernel
theorem dX12_mend_7 : decode cX12_mend 7 = .ok (.iconst (-1), 1) := by decide +kernel
theorem dX12_mend_8 : decode cX12_mend 8 = .ok (.ireturn, 1) := by decide +kernel
theorem dX12_mend_9 : decode cX12_mend 9 = .ok (.iload_n 2, 1) := by decide +kernel
theorem dX12_mend_10 : decode cX12_mend 10 = .ok (.ifCond .lt 16, 3) := by decide +kernel
theorem dX12_mend_13 : decode cX12_mend 13 = .ok (.iload_n 2, 1) := by decide +kernel
theorem dX12_mend_14 : decode cX12_mend 14 = .ok (.iload_n 3, 1) := by decide +kernel
theorem dX12_mend_15 : decode cX12_mend 15 = .ok (.if_icmp .gt 11, 3) := by decide +kernel
theorem dX12_mend_18 : decode cX12_mend 18 = .ok (.iload_n 3, 1) := by decide +kernel
theorem dX12_mend_19 : decode cX12_mend 19 = .ok (.aload_n 0, 1) := by decide +kernel
theorem dX12_mend_20 : decode cX12_mend 20 = .ok (.getfield 140, 3) := by decide +kernel
theorem dX12_mend_23 : decode cX12_mend 23 = .ok (.if_icmp .le 6, 3) := by decide +kernel
theorem dX12_mend_26 : decode cX12_mend 26 = .ok (.bipush (-2), 2) := by decide +kernel
theorem dX12_mend_28 : decode cX12_mend 28 = .ok (.ireturn, 1) := by decide +kernel
theorem dX12_mend_29 : decode cX12_mend 29 = .ok (.aload_n 0, 1) := by decide +kernel
theorem dX12_mend_30 : decode cX12_mend 30 = .ok (.bipush (-6), 2) := by decide +kernel
theorem dX12_mend_32 : decode cX12_mend 32 = .ok (.invokevirtual 146, 3) := by decide +kernel
theorem dX12_mend_35 : decode cX12_mend 35 = .ok (.aload_n 0, 1) := by decide +kernel
theorem dX12_mend_36 : decode cX12_mend 36 = .ok (.invokevirtual 143, 3) := by decide +kernel
theorem dX12_mend_39 : decode cX12_mend 39 = .ok (.aload_n 0, 1) := by decide +kernel
theorem dX12_mend_40 : decode cX12_mend 40 = .ok (.getfield 37, 3) := by decide +kernel
theorem dX12_mend_43 : decode cX12_mend 43 = .ok (.bipush 49, 2) := by decide +kernel
theorem dX12_mend_45 : decode cX12_mend 45 = .ok (.iload_n 1, 1) := by decide +kernel
theorem dX12_mend_46 : decode cX12_mend 46 = .ok (.imul, 1) := by decide +kernel
theorem dX12_mend_47 : decode cX12_mend 47 = .ok (.bipush 7, 2) := by decide +kernel
theorem dX12_mend_49 : decode cX12_mend 49 = .ok (.iload_n 2, 1) := by decide +kernel
theorem dX12_mend_50 : decode cX12_mend 50 = .ok (.imul, 1) := by decide +kernel
theorem dX12_mend_51 : decode cX12_mend 51 = .ok (.iadd, 1) := by decide +kernel
theorem dX12_mend_52 : decode cX12_mend 52 = .ok (.iload_n 3, 1) := by decide +kernel
theorem dX12_mend_53 : decode cX12_mend 53 = .ok (.iadd, 1) := by decide +kernel
theorem dX12_mend_54 : decode cX12_mend 54 = .ok (.iaload, 1) := by decide +kernel
theorem dX12_mend_55 : decode cX12_mend 55 = .ok (.istore 4, 2) := by decide +kernel
theorem dX12_mend_57 : decode cX12_mend 57 = .ok (.iload 4, 2) := by decide +kernel
theorem dX12_mend_59 : decode cX12_mend 59 = .ok (.ldc 124, 2) := by decide +kernel
theorem dX12_mend_61 : decode cX12_mend 61 = .ok (.if_icmp .lt 8, 3) := by decide +kernel
theorem dX12_mend_64 : decode cX12_mend 64 = .ok (.bipush (-5), 2) := by decide +kernel
theorem dX12_mend_66 : decode cX12_mend 66 = .ok (.goto 5, 3) := by decide +kernel
theorem dX12_mend_69 : decode cX12_mend 69 = .ok (.iload 4, 2) := by decide +kernel
theorem dX12_mend_71 : decode cX12_mend 71 = .ok (.ireturn, 1) := by decide +kernel
set_option maxRecDepth 20000 in
theorem ggX12_layText_X12_take : GoodIn wsX12_layText wsX12_take := goodIn_r _ [10, 2, 11, 12, 13, 14, 15, 42, 43, 44, 45, 46, 47, 48, 49, 50, 51, 52, 53, 54, 55, 56, 57, 58, 59, 60, 61, 62, 63, 64, 65, 66, 67, 68, 69, 70, 71, 72, 73, 74, 75, 76, 77] (by decide +kernel) (by decide +kernel)
set_option maxRecDepth 20000 in
theorem gX12_layText_X12_take : GoodIn wsX12_layText (wsV RX12 146 RX12 yX12_take wsX12_take) := goodIn_app (goodIn_of _ (by decide +kernel)) ggX12_layText_X12_take
set_option maxRecDepth 20000 in
theorem ggX12_layText_X12_layMends : GoodIn wsX12_layText wsX12_layMends := goodIn_r _ [19, 3, 4, 5, 20, 12, 21, 22, 23, 24, 9, 25, 26, 27, 28, 29, 30, 31, 32, 33, 34, 35, 36, 37, 38, 13, 39, 40, 41, 42, 43, 44, 45, 46, 47, 48, 49, 50, 51, 52, 53, 54, 55, 56, 57, 58, 59, 60, 61, 62, 63, 64, 65, 66, 67, 68, 69, 70, 71, 72, 73, 74, 75, 76, 77] (by decide +kernel) (by decide +kernel)
set_option maxRecDepth 20000 in
theorem gX12_layText_X12_layMends : GoodIn wsX12_layText (wsV RX12 143 RX12 yX12_layMends wsX12_layMends) := goodIn_app (goodIn_of _ (by decide +kernel)) ggX12_layText_X12_layMends
theorem dX12_layText_0 : decode cX12_layText 0 = .ok (.aload_n 0, 1) := by decide +kernel
theorem dX12_layText_1 : decode cX12_layText 1 = .ok (.bipush (-6), 2) := by decide +kernel
theorem dX12_layText_3 : decode cX12_layText 3 = .ok (.invokevirtual 146, 3) := by decide +kernel
theorem dX12_layText_6 : decode cX12_layText 6 = .ok (.aload_n 0, 1) := by decide +kernel
theorem dX12_layText_7 : decode cX12_layText 7 = .ok (.invokevirtual 143, 3) := by decide +kernel
theorem dX12_layText_10 : decode cX12_layText 10 = .ok (.bipush 49, 2) := by decide +kernel
theorem dX12_layText_12 : decode cX12_layText 12 = .ok (.aload_n 0, 1) := by decide +kernel
theorem dX12_layText_13 : decode cX12_layText 13 = .ok (.getfield 105, 3) := by decide +kernel
theorem dX12_layText_16 : decode cX12_layText 16 = .ok (.imul, 1) := by decide +kernel
theorem dX12_layText_17 : decode cX12_layText 17 = .ok (.aload_n 0, 1) := by decide +kernel
theorem dX12_layText_18 : decode cX12_layText 18 = .ok (.getfield 140, 3) := by decide +kernel
theorem dX12_layText_21 : decode cX12_layText 21 = .ok (.iadd, 1) := by decide +kernel
theorem dX12_layText_22 : decode cX12_layText 22 = .ok (.istore_n 1, 1) := by decide +kernel
theorem dX12_layText_23 : decode cX12_layText 23 = .ok (.aload_n 0, 1) := by decide +kernel
theorem dX12_layText_24 : decode cX12_layText 24 = .ok (.getfield 37, 3) := by decide +kernel
theorem dX12_layText_27 : decode cX12_layText 27 = .ok (.iload_n 1, 1) := by decide +kernel
theorem dX12_layText_28 : decode cX12_layText 28 = .ok (.iaload, 1) := by decide +kernel
theorem dX12_layText_29 : decode cX12_layText 29 = .ok (.ldc 124, 2) := by decide +kernel
theorem dX12_layText_31 : decode cX12_layText 31 = .ok (.if_icmp .lt 8, 3) := by decide +kernel
theorem dX12_layText_34 : decode cX12_layText 34 = .ok (.bipush (-5), 2) := by decide +kernel
theorem dX12_layText_36 : decode cX12_layText 36 = .ok (.goto 20, 3) := by decide +kernel
theorem dX12_layText_39 : decode cX12_layText 39 = .ok (.aload_n 0, 1) := by decide +kernel
theorem dX12_layText_40 : decode cX12_layText 40 = .ok (.getfield 40, 3) := by decide +kernel
theorem dX12_layText_43 : decode cX12_layText 43 = .ok (.iload_n 1, 1) := by decide +kernel
theorem dX12_layText_44 : decode cX12_layText 44 = .ok (.iaload, 1) := by decide +kernel
theorem dX12_layText_45 : decode cX12_layText 45 = .ok (.bipush 12, 2) := by decide +kernel
theorem dX12_layText_47 : decode cX12_layText 47 = .ok (.if_icmp .le 8, 3) := by decide +kernel
theorem dX12_layText_50 : decode cX12_layText 50 = .ok (.bipush (-3), 2) := by decide +kernel
theorem dX12_layText_52 : decode cX12_layText 52 = .ok (.goto 4, 3) := by decide +kernel
theorem dX12_layText_55 : decode cX12_layText 55 = .ok (.iconst 0, 1) := by decide +kernel
theorem dX12_layText_56 : decode cX12_layText 56 = .ok (.ireturn, 1) := by decide +kernel
set_option maxRecDepth 20000 in
theorem ggX12_text_X12_layText : GoodIn wsX12_text wsX12_layText := goodIn_r _ [9, 1, 2, 10, 11, 3, 12, 13, 14, 8, 15, 16, 17, 18, 19, 20, 21, 22, 23, 24, 4, 25, 26, 27, 28, 29, 30, 31, 32, 33, 34, 35, 36, 37, 38, 39, 40, 41, 42, 43, 44, 45, 49, 50, 51, 52, 53, 54, 55, 56, 57, 58, 59, 60, 61, 62, 63, 64, 65, 66, 67, 68, 69, 70, 71, 72, 73, 74, 75, 76, 77, 78, 79, 80, 81, 82, 83, 84] (by decide +kernel) (by decide +kernel)
set_option maxRecDepth 20000 in
theorem gX12_text_X12_layText : GoodIn wsX12_text (wsV RX12 162 RX12 yX12_layText wsX12_layText) := goodIn_app (goodIn_of _ (by decide +kernel)) ggX12_text_X12_layText
set_option maxRecDepth 20000 in
theorem ggX12_text_X12_in : GoodIn wsX12_text wsX12_in := goodIn_r _ [48] (by decide +kernel) (by decide +kernel)
set_option maxRecDepth 20000 in
theorem gX12_text_X12_in : GoodIn wsX12_text (va_wsS RX12 93 yX12_in wsX12_in) := goodIn_app (goodIn_of _ (by decide +kernel)) ggX12_text_X12_in
theorem dX12_text_0 : decode cX12_text 0 = .ok (.aload_n 0, 1) := by decide +kernel
theorem dX12_text_1 : decode cX12_text 1 = .ok (.invokevirtual 162, 3) := by decide +kernel
theorem dX12_text_4 : decode cX12_text 4 = .ok (.istore_n 2, 1) := by decide +kernel
theorem dX12_text_5 : decode cX12_text 5 = .ok (.iload_n 2, 1) := by decide +kernel
theorem dX12_text_6 : decode cX12_text 6 = .ok (.ifCond .ge 5, 3) := by decide +kernel
theorem dX12_text_9 : decode cX12_text 9 = .ok (.iload_n 2, 1) := by decide +kernel
theorem dX12_text_10 : decode cX12_text 10 = .ok (.ireturn, 1) := by decide +kernel
theorem dX12_text_11 : decode cX12_text 11 = .ok (.bipush 49, 2) := by decide +kernel
theorem dX12_text_13 : decode cX12_text 13 = .ok (.aload_n 0, 1) := by decide +kernel
theorem dX12_text_14 : decode cX12_text 14 = .ok (.getfield 105, 3) := by decide +kernel
theorem dX12_text_17 : decode cX12_text 17 = .ok (.imul, 1) := by decide +kernel
theorem dX12_text_18 : decode cX12_text 18 = .ok (.aload_n 0, 1) := by decide +kernel
theorem dX12_text_19 : decode cX12_text 19 = .ok (.getfield 140, 3) := by decide +kernel
theorem dX12_text_22 : decode cX12_text 22 = .ok (.iadd, 1) := by decide +kernel
theorem dX12_text_23 : decode cX12_text 23 = .ok (.istore_n 3, 1) := by decide +kernel
theorem dX12_text_24 : decode cX12_text 24 = .ok (.iload_n 1, 1) := by decide +kernel
theorem dX12_text_25 : decode cX12_text 25 = .ok (.iconst (-1), 1) := by decide +kernel
theorem dX12_text_26 : decode cX12_text 26 = .ok (.if_icmp .ne 12, 3) := by decide +kernel
theorem dX12_text_29 : decode cX12_text 29 = .ok (.aload_n 0, 1) := by decide +kernel
theorem dX12_text_30 : decode cX12_text 30 = .ok (.getfield 40, 3) := by decide +kernel
theorem dX12_text_33 : decode cX12_text 33 = .ok (.iload_n 3, 1) := by decide +kernel
theorem dX12_text_34 : decode cX12_text 34 = .ok (.iaload, 1) := by decide +kernel
theorem dX12_text_35 : decode cX12_text 35 = .ok (.goto 45, 3) := by decide +kernel
theorem dX12_text_38 : decode cX12_text 38 = .ok (.iload_n 1, 1) := by decide +kernel
theorem dX12_text_39 : decode cX12_text 39 = .ok (.iconst 0, 1) := by decide +kernel
theorem dX12_text_40 : decode cX12_text 40 = .ok (.aload_n 0, 1) := by decide +kernel
theorem dX12_text_41 : decode cX12_text 41 = .ok (.getfield 40, 3) := by decide +kernel
theorem dX12_text_44 : decode cX12_text 44 = .ok (.iload_n 3, 1) := by decide +kernel
theorem dX12_text_45 : decode cX12_text 45 = .ok (.iaload, 1) := by decide +kernel
theorem dX12_text_46 : decode cX12_text 46 = .ok (.iconst 1, 1) := by decide +kernel
theorem dX12_text_47 : decode cX12_text 47 = .ok (.isub, 1) := by decide +kernel
theorem dX12_text_48 : decode cX12_text 48 = .ok (.invokestatic 93, 3) := by decide +kernel
theorem dX12_text_51 : decode cX12_text 51 = .ok (.ifCond .eq 27, 3) := by decide +kernel
theorem dX12_text_54 : decode cX12_text 54 = .ok (.aload_n 0, 1) := by decide +kernel
theorem dX12_text_55 : decode cX12_text 55 = .ok (.getfield 43, 3) := by decide +kernel
theorem dX12_text_58 : decode cX12_text 58 = .ok (.iload_n 3, 1) := by decide +kernel
theorem dX12_text_59 : decode cX12_text 59 = .ok (.iaload, 1) := by decide +kernel
theorem dX12_text_60 : decode cX12_text 60 = .ok (.iconst 2, 1) := by decide +kernel
theorem dX12_text_61 : decode cX12_text 61 = .ok (.aload_n 0, 1) := by decide +kernel
theorem dX12_text_62 : decode cX12_text 62 = .ok (.getfield 40, 3) := by decide +kernel
theorem dX12_text_65 : decode cX12_text 65 = .ok (.iload_n 3, 1) := by decide +kernel
theorem dX12_text_66 : decode cX12_text 66 = .ok (.iaload, 1) := by decide +kernel
theorem dX12_text_67 : decode cX12_text 67 = .ok (.iconst 1, 1) := by decide +kernel
theorem dX12_text_68 : decode cX12_text 68 = .ok (.isub, 1) := by decide +kernel
theorem dX12_text_69 : decode cX12_text 69 = .ok (.iload_n 1, 1) := by decide +kernel
theorem dX12_text_70 : decode cX12_text 70 = .ok (.isub, 1) := by decide +kernel
theorem dX12_text_71 : decode cX12_text 71 = .ok (.imul, 1) := by decide +kernel
theorem dX12_text_72 : decode cX12_text 72 = .ok (.ishr, 1) := by decide +kernel
theorem dX12_text_73 : decode cX12_text 73 = .ok (.iconst 3, 1) := by decide +kernel
theorem dX12_text_74 : decode cX12_text 74 = .ok (.iand, 1) := by decide +kernel
theorem dX12_text_75 : decode cX12_text 75 = .ok (.goto 5, 3) := by decide +kernel
theorem dX12_text_78 : decode cX12_text 78 = .ok (.bipush (-6), 2) := by decide +kernel
theorem dX12_text_80 : decode cX12_text 80 = .ok (.ireturn, 1) := by decide +kernel
theorem dX12_pairCost_0 : decode cX12_pairCost 0 = .ok (.aload_n 0, 1) := by decide +kernel
theorem dX12_pairCost_1 : decode cX12_pairCost 1 = .ok (.getfield 34, 3) := by decide +kernel
theorem dX12_pairCost_4 : decode cX12_pairCost 4 = .ok (.iload_n 1, 1) := by decide +kernel
theorem dX12_pairCost_5 : decode cX12_pairCost 5 = .ok (.iaload, 1) := by decide +kernel
theorem dX12_pairCost_6 : decode cX12_pairCost 6 = .ok (.aload_n 0, 1) := by decide +kernel
theorem dX12_pairCost_7 : decode cX12_pairCost 7 = .ok (.getfield 62, 3) := by decide +kernel
theorem dX12_pairCost_10 : decode cX12_pairCost 10 = .ok (.iload_n 2, 1) := by decide +kernel
theorem dX12_pairCost_11 : decode cX12_pairCost 11 = .ok (.iaload, 1) := by decide +kernel
theorem dX12_pairCost_12 : decode cX12_pairCost 12 = .ok (.if_icmp .ne 7, 3) := by decide +kernel
theorem dX12_pairCost_15 : decode cX12_pairCost 15 = .ok (.iconst 0, 1) := by decide +kernel
theorem dX12_pairCost_16 : decode cX12_pairCost 16 = .ok (.goto 9, 3) := by decide +kernel
theorem dX12_pairCost_19 : decode cX12_pairCost 19 = .ok (.aload_n 0, 1) := by decide +kernel
theorem dX12_pairCost_20 : decode cX12_pairCost 20 = .ok (.getfield 31, 3) := by decide +kernel
theorem dX12_pairCost_23 : decode cX12_pairCost 23 = .ok (.iconst 2, 1) := by decide +kernel
theorem dX12_pairCost_24 : decode cX12_pairCost 24 = .ok (.iaload, 1) := by decide +kernel
theorem dX12_pairCost_25 : decode cX12_pairCost 25 = .ok (.ireturn, 1) := by decide +kernel
theorem dX12_addAhead_0 : decode cX12_addAhead 0 = .ok (.aload_n 0, 1) := by decide +kernel
theorem dX12_addAhead_1 : decode cX12_addAhead 1 = .ok (.getfield 65, 3) := by decide +kernel
theorem dX12_addAhead_4 : decode cX12_addAhead 4 = .ok (.iload_n 2, 1) := by decide +kernel
theorem dX12_addAhead_5 : decode cX12_addAhead 5 = .ok (.iaload, 1) := by decide +kernel
theorem dX12_addAhead_6 : decode cX12_addAhead 6 = .ok (.iload_n 3, 1) := by decide +kernel
theorem dX12_addAhead_7 : decode cX12_addAhead 7 = .ok (.iadd, 1) := by decide +kernel
theorem dX12_addAhead_8 : decode cX12_addAhead 8 = .ok (.istore 4, 2) := by decide +kernel
theorem dX12_addAhead_10 : decode cX12_addAhead 10 = .ok (.iload 4, 2) := by decide +kernel
theorem dX12_addAhead_12 : decode cX12_addAhead 12 = .ok (.aload_n 0, 1) := by decide +kernel
theorem dX12_addAhead_13 : decode cX12_addAhead 13 = .ok (.getfield 65, 3) := by decide +kernel
theorem dX12_addAhead_16 : decode cX12_addAhead 16 = .ok (.iload_n 1, 1) := by decide +kernel
theorem dX12_addAhead_17 : decode cX12_addAhead 17 = .ok (.iaload, 1) := by decide +kernel
theorem dX12_addAhead_18 : decode cX12_addAhead 18 = .ok (.if_icmp .ge 26, 3) := by decide +kernel
theorem dX12_addAhead_21 : decode cX12_addAhead 21 = .ok (.aload_n 0, 1) := by decide +kernel
theorem dX12_addAhead_22 : decode cX12_addAhead 22 = .ok (.getfield 65, 3) := by decide +kernel
theorem dX12_addAhead_25 : decode cX12_addAhead 25 = .ok (.iload_n 1, 1) := by decide +kernel
theorem dX12_addAhead_26 : decode cX12_addAhead 26 = .ok (.iload 4, 2) := by decide +kernel
theorem dX12_addAhead_28 : decode cX12_addAhead 28 = .ok (.iastore, 1) := by decide +kernel
theorem dX12_addAhead_29 : decode cX12_addAhead 29 = .ok (.aload_n 0, 1) := by decide +kernel
theorem dX12_addAhead_30 : decode cX12_addAhead 30 = .ok (.getfield 71, 3) := by decide +kernel
theorem dX12_addAhead_33 : decode cX12_addAhead 33 = .ok (.iload_n 1, 1) := by decide +kernel
theorem dX12_addAhead_34 : decode cX12_addAhead 34 = .ok (.aload_n 0, 1) := by decide +kernel
theorem dX12_addAhead_35 : decode cX12_addAhead 35 = .ok (.getfield 71, 3) := by decide +kernel
theorem dX12_addAhead_38 : decode cX12_addAhead 38 = .ok (.iload_n 2, 1) := by decide +kernel
theorem dX12_addAhead_39 : decode cX12_addAhead 39 = .ok (.laload, 1) := by decide +kernel
theorem dX12_addAhead_40 : decode cX12_addAhead 40 = .ok (.lastore, 1) := by decide +kernel
theorem dX12_addAhead_41 : decode cX12_addAhead 41 = .ok (.goto 29, 3) := by decide +kernel
theorem dX12_addAhead_44 : decode cX12_addAhead 44 = .ok (.iload 4, 2) := by decide +kernel
theorem dX12_addAhead_46 : decode cX12_addAhead 46 = .ok (.aload_n 0, 1) := by decide +kernel
theorem dX12_addAhead_47 : decode cX12_addAhead 47 = .ok (.getfield 65, 3) := by decide +kernel
theorem dX12_addAhead_50 : decode cX12_addAhead 50 = .ok (.iload_n 1, 1) := by decide +kernel
theorem dX12_addAhead_51 : decode cX12_addAhead 51 = .ok (.iaload, 1) := by decide +kernel
theorem dX12_addAhead_52 : decode cX12_addAhead 52 = .ok (.if_icmp .ne 18, 3) := by decide +kernel
theorem dX12_addAhead_55 : decode cX12_addAhead 55 = .ok (.aload_n 0, 1) := by decide +kernel
theorem dX12_addAhead_56 : decode cX12_addAhead 56 = .ok (.getfield 71, 3) := by decide +kernel
theorem dX12_addAhead_59 : decode cX12_addAhead 59 = .ok (.iload_n 1, 1) := by decide +kernel
theorem dX12_addAhead_60 : decode cX12_addAhead 60 = .ok (.dup2, 1) := by decide +kernel
theorem dX12_addAhead_61 : decode cX12_addAhead 61 = .ok (.laload, 1) := by decide +kernel
theorem dX12_addAhead_62 : decode cX12_addAhead 62 = .ok (.aload_n 0, 1) := by decide +kernel
theorem dX12_addAhead_63 : decode cX12_addAhead 63 = .ok (.getfield 71, 3) := by decide +kernel
theorem dX12_addAhead_66 : decode cX12_addAhead 66 = .ok (.iload_n 2, 1) := by decide +kernel
theorem dX12_addAhead_67 : decode cX12_addAhead 67 = .ok (.laload, 1) := by decide +kernel
theorem dX12_addAhead_68 : decode cX12_addAhead 68 = .ok (.ladd, 1) := by decide +kernel
theorem dX12_addAhead_69 : decode cX12_addAhead 69 = .ok (.lastore, 1) := by decide +kernel
theorem dX12_addAhead_70 : decode cX12_addAhead 70 = .ok (.return_, 1) := by decide +kernel
theorem dX12_addBehind_0 : decode cX12_addBehind 0 = .ok (.aload_n 0, 1) := by decide +kernel
theorem dX12_addBehind_1 : decode cX12_addBehind 1 = .ok (.getfield 68, 3) := by decide +kernel
theorem dX12_addBehind_4 : decode cX12_addBehind 4 = .ok (.iload_n 2, 1) := by decide +kernel
theorem dX12_addBehind_5 : decode cX12_addBehind 5 = .ok (.iaload, 1) := by decide +kernel
theorem dX12_addBehind_6 : decode cX12_addBehind 6 = .ok (.iload_n 3, 1) := by decide +kernel
theorem dX12_addBehind_7 : decode cX12_addBehind 7 = .ok (.iadd, 1) := by decide +kernel
theorem dX12_addBehind_8 : decode cX12_addBehind 8 = .ok (.istore 4, 2) := by decide +kernel
theorem dX12_addBehind_10 : decode cX12_addBehind 10 = .ok (.iload 4, 2) := by decide +kernel
theorem dX12_addBehind_12 : decode cX12_addBehind 12 = .ok (.aload_n 0, 1) := by decide +kernel
theorem dX12_addBehind_13 : decode cX12_addBehind 13 = .ok (.getfield 68, 3) := by decide +kernel
theorem dX12_addBehind_16 : decode cX12_addBehind 16 = .ok (.iload_n 1, 1) := by decide +kernel
theorem dX12_addBehind_17 : decode cX12_addBehind 17 = .ok (.iaload, 1) := by decide +kernel
theorem dX12_addBehind_18 : decode cX12_addBehind 18 = .ok (.if_icmp .ge 26, 3) := by decide +kernel
theorem dX12_addBehind_21 : decode cX12_addBehind 21 = .ok (.aload_n 0, 1) := by decide +kernel
theorem dX12_addBehind_22 : decode cX12_addBehind 22 = .ok (.getfield 68, 3) := by decide +kernel
theorem dX12_addBehind_25 : decode cX12_addBehind 25 = .ok (.iload_n 1, 1) := by decide +kernel
theorem dX12_addBehind_26 : decode cX12_addBehind 26 = .ok (.iload 4, 2) := by decide +kernel
theorem dX12_addBehind_28 : decode cX12_addBehind 28 = .ok (.iastore, 1) := by decide +kernel
theorem dX12_addBehind_29 : decode cX12_addBehind 29 = .ok (.aload_n 0, 1) := by decide +kernel
theorem dX12_addBehind_30 : decode cX12_addBehind 30 = .ok (.getfield 75, 3) := by decide +kernel
theorem dX12_addBehind_33 : decode cX12_addBehind 33 = .ok (.iload_n 1, 1) := by decide +kernel
theorem dX12_addBehind_34 : decode cX12_addBehind 34 = .ok (.aload_n 0, 1) := by decide +kernel
theorem dX12_addBehind_35 : decode cX12_addBehind 35 = .ok (.getfield 75, 3) := by decide +kernel
theorem dX12_addBehind_38 : decode cX12_addBehind 38 = .ok (.iload_n 2, 1) := by decide +kernel
theorem dX12_addBehind_39 : decode cX12_addBehind 39 = .ok (.laload, 1) := by decide +kernel
theorem dX12_addBehind_40 : decode cX12_addBehind 40 = .ok (.lastore, 1) := by decide +kernel
theorem dX12_addBehind_41 : decode cX12_addBehind 41 = .ok (.goto 29, 3) := by decide +kernel
theorem dX12_addBehind_44 : decode cX12_addBehind 44 = .ok (.iload 4, 2) := by decide +kernel
theorem dX12_addBehind_46 : decode cX12_addBehind 46 = .ok (.aload_n 0, 1) := by decide +kernel
theorem dX12_addBehind_47 : decode cX12_addBehind 47 = .ok (.getfield 68, 3) := by decide +kernel
theorem dX12_addBehind_50 : decode cX12_addBehind 50 = .ok (.iload_n 1, 1) := by decide +kernel
theorem dX12_addBehind_51 : decode cX12_addBehind 51 = .ok (.iaload, 1) := by decide +kernel
theorem dX12_addBehind_52 : decode cX12_addBehind 52 = .ok (.if_icmp .ne 18, 3) := by decide +kernel
theorem dX12_addBehind_55 : decode cX12_addBehind 55 = .ok (.aload_n 0, 1) := by decide +kernel
theorem dX12_addBehind_56 : decode cX12_addBehind 56 = .ok (.getfield 75, 3) := by decide +kernel
theorem dX12_addBehind_59 : decode cX12_addBehind 59 = .ok (.iload_n 1, 1) := by decide +kernel
theorem dX12_addBehind_60 : decode cX12_addBehind 60 = .ok (.dup2, 1) := by decide +kernel
theorem dX12_addBehind_61 : decode cX12_addBehind 61 = .ok (.laload, 1) := by decide +kernel
theorem dX12_addBehind_62 : decode cX12_addBehind 62 = .ok (.aload_n 0, 1) := by decide +kernel
theorem dX12_addBehind_63 : decode cX12_addBehind 63 = .ok (.getfield 75, 3) := by decide +kernel
theorem dX12_addBehind_66 : decode cX12_addBehind 66 = .ok (.iload_n 2, 1) := by decide +kernel
theorem dX12_addBehind_67 : decode cX12_addBehind 67 = .ok (.laload, 1) := by decide +kernel
theorem dX12_addBehind_68 : decode cX12_addBehind 68 = .ok (.ladd, 1) := by decide +kernel
theorem dX12_addBehind_69 : decode cX12_addBehind 69 = .ok (.lastore, 1) := by decide +kernel
theorem dX12_addBehind_70 : decode cX12_addBehind 70 = .ok (.return_, 1) := by decide +kernel
set_option maxRecDepth 20000 in
theorem ggX12_layRows_X12_addAhead : GoodIn wsX12_layRows wsX12_addAhead := goodIn_r _ [13, 1, 4, 24, 25, 26, 27, 28, 29, 30, 31, 32, 33, 34, 35, 36, 37, 38, 39, 40, 41, 42, 43, 44, 45, 46, 47, 48, 49, 50, 51, 52, 53, 54, 55, 56, 57, 58, 59] (by decide +kernel) (by decide +kernel)
set_option maxRecDepth 20000 in
theorem gX12_layRows_X12_addAhead : GoodIn wsX12_layRows (wsV RX12 168 RX12 yX12_addAhead wsX12_addAhead) := goodIn_app (goodIn_of _ (by decide +kernel)) ggX12_layRows_X12_addAhead
