theorem dX0_init_0 : decode cX0_init 0 = .ok (.aload_n 0, 1) := by decide +kernel
theorem dX0_init_1 : decode cX0_init 1 = .ok (.invokespecial 5, 3) := by decide +kernel
theorem dX0_init_4 : decode cX0_init 4 = .ok (.aload_n 0, 1) := by decide +kernel
theorem dX0_init_5 : decode cX0_init 5 = .ok (.sipush 2940, 3) := by decide +kernel
theorem dX0_init_8 : decode cX0_init 8 = .ok (.newarray .long, 2) := by decide +kernel
theorem dX0_init_10 : decode cX0_init 10 = .ok (.putfield 13, 3) := by decide +kernel
theorem dX0_init_13 : decode cX0_init 13 = .ok (.aload_n 0, 1) := by decide +kernel
theorem dX0_init_14 : decode cX0_init 14 = .ok (.bipush 6, 2) := by decide +kernel
theorem dX0_init_16 : decode cX0_init 16 = .ok (.newarray .int, 2) := by decide +kernel
theorem dX0_init_18 : decode cX0_init 18 = .ok (.putfield 17, 3) := by decide +kernel
theorem dX0_init_21 : decode cX0_init 21 = .ok (.aload_n 0, 1) := by decide +kernel
theorem dX0_init_22 : decode cX0_init 22 = .ok (.aload_n 1, 1) := by decide +kernel
theorem dX0_init_23 : decode cX0_init 23 = .ok (.putfield 21, 3) := by decide +kernel
theorem dX0_init_26 : decode cX0_init 26 = .ok (.aload_n 0, 1) := by decide +kernel
theorem dX0_init_27 : decode cX0_init 27 = .ok (.aload_n 2, 1) := by decide +kernel
theorem dX0_init_28 : decode cX0_init 28 = .ok (.putfield 25, 3) := by decide +kernel
theorem dX0_init_31 : decode cX0_init 31 = .ok (.aload_n 0, 1) := by decide +kernel
theorem dX0_init_32 : decode cX0_init 32 = .ok (.aload_n 3, 1) := by decide +kernel
theorem dX0_init_33 : decode cX0_init 33 = .ok (.putfield 29, 3) := by decide +kernel
theorem dX0_init_36 : decode cX0_init 36 = .ok (.return_, 1) := by decide +kernel
set_option maxRecDepth 20000 in
theorem ggX0_fill_X4_findUsers : GoodIn wsX0_fill wsX4_findUsers := goodIn_r _ [9, 10, 11, 12, 13, 14, 15, 16, 8, 17, 18, 19, 20, 21, 22, 23, 24, 25, 26, 27, 28, 29, 30, 31, 32, 33, 34, 35, 36, 37, 38, 39, 40, 133, 134, 135, 136, 137, 138, 139] (by decide +kernel) (by decide +kernel)
set_option maxRecDepth 20000 in
theorem gX0_fill_X4_findUsers : GoodIn wsX0_fill (wsV RX0 33 RX4 yX4_findUsers wsX4_findUsers) := goodIn_app (goodIn_of _ (by decide +kernel)) ggX0_fill_X4_findUsers
set_option maxRecDepth 20000 in
theorem ggX0_fill_X0_fillLetters : GoodIn wsX0_fill wsX0_fillLetters := goodIn_r _ [45, 1, 4, 46, 47, 48, 49, 50, 51, 52, 53, 54, 55, 44, 56, 57, 58, 59, 60, 61, 62, 63, 64, 65, 66, 67, 68, 69, 70, 71, 72, 73, 74, 75, 76, 77, 78, 79, 80, 81, 82, 83, 84, 85, 126, 127, 128, 129, 130, 131, 132, 140] (by decide +kernel) (by decide +kernel)
set_option maxRecDepth 20000 in
theorem gX0_fill_X0_fillLetters : GoodIn wsX0_fill (wsV RX0 37 RX0 yX0_fillLetters wsX0_fillLetters) := goodIn_app (goodIn_of _ (by decide +kernel)) ggX0_fill_X0_fillLetters
set_option maxRecDepth 20000 in
theorem ggX0_fill_X0_settle : GoodIn wsX0_fill wsX0_settle := goodIn_r _ [89, 90, 3, 81, 82, 83, 44, 84, 85, 91, 92, 93, 94, 2, 95, 96, 60, 97, 98, 99, 100, 101, 102, 103, 104, 105, 106, 19, 20, 8, 21, 22, 23, 24, 25, 26, 107, 28, 29, 30, 108, 109, 110, 111, 57, 112, 32, 33, 34, 35, 62, 63, 64, 65, 66, 67, 113, 114, 78, 115, 116, 37, 38, 39, 40, 117, 118, 119, 120, 121, 122, 123, 124, 125, 126, 127, 128, 129, 130, 133, 134, 135, 136, 137, 138, 139, 140] (by decide +kernel) (by decide +kernel)
set_option maxRecDepth 20000 in
theorem gX0_fill_X0_settle : GoodIn wsX0_fill (wsV RX0 46 RX0 yX0_settle wsX0_settle) := goodIn_app (goodIn_of _ (by decide +kernel)) ggX0_fill_X0_settle
theorem dX0_fill_0 : decode cX0_fill 0 = .ok (.aload_n 0, 1) := by decide +kernel
theorem dX0_fill_1 : decode cX0_fill 1 = .ok (.aload_n 1, 1) := by decide +kernel
theorem dX0_fill_2 : decode cX0_fill 2 = .ok (.putfield 29, 3) := by decide +kernel
theorem dX0_fill_5 : decode cX0_fill 5 = .ok (.aload_n 0, 1) := by decide +kernel
theorem dX0_fill_6 : decode cX0_fill 6 = .ok (.getfield 21, 3) := by decide +kernel
theorem dX0_fill_9 : decode cX0_fill 9 = .ok (.aload_n 0, 1) := by decide +kernel
theorem dX0_fill_10 : decode cX0_fill 10 = .ok (.getfield 17, 3) := by decide +kernel
theorem dX0_fill_13 : decode cX0_fill 13 = .ok (.invokevirtual 33, 3) := by decide +kernel
theorem dX0_fill_16 : decode cX0_fill 16 = .ok (.aload_n 0, 1) := by decide +kernel
theorem dX0_fill_17 : decode cX0_fill 17 = .ok (.invokevirtual 37, 3) := by decide +kernel
theorem dX0_fill_20 : decode cX0_fill 20 = .ok (.iconst 0, 1) := by decide +kernel
theorem dX0_fill_21 : decode cX0_fill 21 = .ok (.istore_n 2, 1) := by decide +kernel
theorem dX0_fill_22 : decode cX0_fill 22 = .ok (.iload_n 2, 1) := by decide +kernel
theorem dX0_fill_23 : decode cX0_fill 23 = .ok (.aload_n 0, 1) := by decide +kernel
theorem dX0_fill_24 : decode cX0_fill 24 = .ok (.getfield 29, 3) := by decide +kernel
theorem dX0_fill_27 : decode cX0_fill 27 = .ok (.getfield 40, 3) := by decide +kernel
theorem dX0_fill_30 : decode cX0_fill 30 = .ok (.if_icmp .gt 38, 3) := by decide +kernel
theorem dX0_fill_33 : decode cX0_fill 33 = .ok (.iconst 0, 1) := by decide +kernel
theorem dX0_fill_34 : decode cX0_fill 34 = .ok (.istore_n 3, 1) := by decide +kernel
theorem dX0_fill_35 : decode cX0_fill 35 = .ok (.iload_n 3, 1) := by decide +kernel
theorem dX0_fill_36 : decode cX0_fill 36 = .ok (.iload_n 2, 1) := by decide +kernel
theorem dX0_fill_37 : decode cX0_fill 37 = .ok (.iadd, 1) := by decide +kernel
theorem dX0_fill_38 : decode cX0_fill 38 = .ok (.aload_n 0, 1) := by decide +kernel
theorem dX0_fill_39 : decode cX0_fill 39 = .ok (.getfield 29, 3) := by decide +kernel
theorem dX0_fill_42 : decode cX0_fill 42 = .ok (.getfield 40, 3) := by decide +kernel
theorem dX0_fill_45 : decode cX0_fill 45 = .ok (.if_icmp .gt 17, 3) := by decide +kernel
theorem dX0_fill_48 : decode cX0_fill 48 = .ok (.aload_n 0, 1) := by decide +kernel
theorem dX0_fill_49 : decode cX0_fill 49 = .ok (.iload_n 3, 1) := by decide +kernel
theorem dX0_fill_50 : decode cX0_fill 50 = .ok (.iload_n 3, 1) := by decide +kernel
theorem dX0_fill_51 : decode cX0_fill 51 = .ok (.iload_n 2, 1) := by decide +kernel
theorem dX0_fill_52 : decode cX0_fill 52 = .ok (.iadd, 1) := by decide +kernel
theorem dX0_fill_53 : decode cX0_fill 53 = .ok (.invokevirtual 46, 3) := by decide +kernel
theorem dX0_fill_56 : decode cX0_fill 56 = .ok (.iinc 3 1, 3) := by decide +kernel
theorem dX0_fill_59 : decode cX0_fill 59 = .ok (.goto (-24), 3) := by decide +kernel
theorem dX0_fill_62 : decode cX0_fill 62 = .ok (.iinc 2 1, 3) := by decide +kernel
theorem dX0_fill_65 : decode cX0_fill 65 = .ok (.goto (-43), 3) := by decide +kernel
theorem dX0_fill_68 : decode cX0_fill 68 = .ok (.return_, 1) := by decide +kernel
set_option maxRecDepth 20000 in
theorem ggX0_fitOf_X0_fitAt : GoodIn wsX0_fitOf wsX0_fitAt := goodIn_r _ [5, 6, 7, 8, 9, 10, 11, 12] (by decide +kernel) (by decide +kernel)
set_option maxRecDepth 20000 in
theorem gX0_fitOf_X0_fitAt : GoodIn wsX0_fitOf (wsV RX0 50 RX0 yX0_fitAt wsX0_fitAt) := goodIn_app (goodIn_of _ (by decide +kernel)) ggX0_fitOf_X0_fitAt
theorem dX0_fitOf_0 : decode cX0_fitOf 0 = .ok (.aload_n 0, 1) := by decide +kernel
theorem dX0_fitOf_1 : decode cX0_fitOf 1 = .ok (.iload_n 1, 1) := by decide +kernel
theorem dX0_fitOf_2 : decode cX0_fitOf 2 = .ok (.bipush 49, 2) := by decide +kernel
theorem dX0_fitOf_4 : decode cX0_fitOf 4 = .ok (.imul, 1) := by decide +kernel
theorem dX0_fitOf_5 : decode cX0_fitOf 5 = .ok (.iload_n 2, 1) := by decide +kernel
theorem dX0_fitOf_6 : decode cX0_fitOf 6 = .ok (.bipush 7, 2) := by decide +kernel
theorem dX0_fitOf_8 : decode cX0_fitOf 8 = .ok (.imul, 1) := by decide +kernel
theorem dX0_fitOf_9 : decode cX0_fitOf 9 = .ok (.iadd, 1) := by decide +kernel
theorem dX0_fitOf_10 : decode cX0_fitOf 10 = .ok (.iload_n 3, 1) := by decide +kernel
theorem dX0_fitOf_11 : decode cX0_fitOf 11 = .ok (.iadd, 1) := by decide +kernel
theorem dX0_fitOf_12 : decode cX0_fitOf 12 = .ok (.invokevirtual 50, 3) := by decide +kernel
theorem dX0_fitOf_15 : decode cX0_fitOf 15 = .ok (.lreturn, 1) := by decide +kernel
set_option maxRecDepth 20000 in
theorem ggX0_leastOf_X0_fitOf : GoodIn wsX0_leastOf wsX0_fitOf := goodIn_r _ [5, 6, 7, 8, 4, 9, 10, 11, 12, 13, 14, 15, 16] (by decide +kernel) (by decide +kernel)
set_option maxRecDepth 20000 in
theorem gX0_leastOf_X0_fitOf : GoodIn wsX0_leastOf (wsV RX0 54 RX0 yX0_fitOf wsX0_fitOf) := goodIn_app (goodIn_of _ (by decide +kernel)) ggX0_leastOf_X0_fitOf
theorem dX0_leastOf_0 : decode cX0_leastOf 0 = .ok (.aload_n 0, 1) := by decide +kernel
theorem dX0_leastOf_1 : decode cX0_leastOf 1 = .ok (.iconst 4, 1) := by decide +kernel
theorem dX0_leastOf_2 : decode cX0_leastOf 2 = .ok (.iload_n 1, 1) := by decide +kernel
theorem dX0_leastOf_3 : decode cX0_leastOf 3 = .ok (.iadd, 1) := by decide +kernel
theorem dX0_leastOf_4 : decode cX0_leastOf 4 = .ok (.iconst 0, 1) := by decide +kernel
theorem dX0_leastOf_5 : decode cX0_leastOf 5 = .ok (.iconst 0, 1) := by decide +kernel
theorem dX0_leastOf_6 : decode cX0_leastOf 6 = .ok (.invokevirtual 54, 3) := by decide +kernel
theorem dX0_leastOf_9 : decode cX0_leastOf 9 = .ok (.lreturn, 1) := by decide +kernel
theorem dX0_length_0 : decode cX0_length 0 = .ok (.aload_n 0, 1) := by decide +kernel
theorem dX0_length_1 : decode cX0_length 1 = .ok (.getfield 29, 3) := by decide +kernel
theorem dX0_length_4 : decode cX0_length 4 = .ok (.getfield 40, 3) := by decide +kernel
theorem dX0_length_7 : decode cX0_length 7 = .ok (.ireturn, 1) := by decide +kernel
set_option maxRecDepth 20000 in
theorem ggX0_letterStandsAt_X10_letterAt : GoodIn wsX0_letterStandsAt wsX10_letterAt := goodIn_r _ [6, 7, 8, 14, 15] (by decide +kernel) (by decide +kernel)
set_option maxRecDepth 20000 in
theorem gX0_letterStandsAt_X10_letterAt : GoodIn wsX0_letterStandsAt (wsV RX0 58 RX10 yX10_letterAt wsX10_letterAt) := goodIn_app (goodIn_of _ (by decide +kernel)) ggX0_letterStandsAt_X10_letterAt
theorem dX0_letterStandsAt_0 : decode cX0_letterStandsAt 0 = .ok (.aload_n 0, 1) := by decide +kernel
theorem dX0_letterStandsAt_1 : decode cX0_letterStandsAt 1 = .ok (.getfield 29, 3) := by decide +kernel
theorem dX0_letterStandsAt_4 : decode cX0_letterStandsAt 4 = .ok (.iload_n 2, 1) := by decide +kernel
theorem dX0_letterStandsAt_5 : decode cX0_letterStandsAt 5 = .ok (.invokevirtual 58, 3) := by decide +kernel
theorem dX0_letterStandsAt_8 : decode cX0_letterStandsAt 8 = .ok (.iload_n 1, 1) := by decide +kernel
theorem dX0_letterStandsAt_9 : decode cX0_letterStandsAt 9 = .ok (.if_icmp .ne 7, 3) := by decide +kernel
theorem dX0_letterStandsAt_12 : decode cX0_letterStandsAt 12 = .ok (.iconst 1, 1) := by decide +kernel
theorem dX0_letterStandsAt_13 : decode cX0_letterStandsAt 13 = .ok (.goto 4, 3) := by decide +kernel
theorem dX0_letterStandsAt_16 : decode cX0_letterStandsAt 16 = .ok (.iconst 0, 1) := by decide +kernel
theorem dX0_letterStandsAt_17 : decode cX0_letterStandsAt 17 = .ok (.ireturn, 1) := by decide +kernel
set_option maxRecDepth 20000 in
theorem ggX0_fitsAsItIs_X0_fitOf : GoodIn wsX0_fitsAsItIs wsX0_fitOf := goodIn_r _ [6, 7, 8, 9, 5, 10, 11, 1, 16, 17, 18, 19, 20] (by decide +kernel) (by decide +kernel)
set_option maxRecDepth 20000 in
theorem gX0_fitsAsItIs_X0_fitOf : GoodIn wsX0_fitsAsItIs (wsV RX0 54 RX0 yX0_fitOf wsX0_fitOf) := goodIn_app (goodIn_of _ (by decide +kernel)) ggX0_fitsAsItIs_X0_fitOf
set_option maxRecDepth 20000 in
theorem ggX0_fitsAsItIs_X3_costOf : GoodIn wsX0_fitsAsItIs wsX3_costOf := goodIn_r _ [15] (by decide +kernel) (by decide +kernel)
set_option maxRecDepth 20000 in
theorem gX0_fitsAsItIs_X3_costOf : GoodIn wsX0_fitsAsItIs (va_wsS RX0 66 yX3_costOf wsX3_costOf) := goodIn_app (goodIn_of _ (by decide +kernel)) ggX0_fitsAsItIs_X3_costOf
theorem dX0_fitsAsItIs_0 : decode cX0_fitsAsItIs 0 = .ok (.aload_n 0, 1) := by decide +kernel
theorem dX0_fitsAsItIs_1 : decode cX0_fitsAsItIs 1 = .ok (.iload_n 1, 1) := by decide +kernel
theorem dX0_fitsAsItIs_2 : decode cX0_fitsAsItIs 2 = .ok (.iload_n 2, 1) := by decide +kernel
theorem dX0_fitsAsItIs_3 : decode cX0_fitsAsItIs 3 = .ok (.iload_n 3, 1) := by decide +kernel
theorem dX0_fitsAsItIs_4 : decode cX0_fitsAsItIs 4 = .ok (.invokevirtual 54, 3) := by decide +kernel
theorem dX0_fitsAsItIs_7 : decode cX0_fitsAsItIs 7 = .ok (.lstore 4, 2) := by decide +kernel
theorem dX0_fitsAsItIs_9 : decode cX0_fitsAsItIs 9 = .ok (.lload 4, 2) := by decide +kernel
theorem dX0_fitsAsItIs_11 : decode cX0_fitsAsItIs 11 = .ok (.ldc2_w 64, 3) := by decide +kernel
theorem dX0_fitsAsItIs_14 : decode cX0_fitsAsItIs 14 = .ok (.lcmp, 1) := by decide +kernel
theorem dX0_fitsAsItIs_15 : decode cX0_fitsAsItIs 15 = .ok (.ifCond .eq 15, 3) := by decide +kernel
theorem dX0_fitsAsItIs_18 : decode cX0_fitsAsItIs 18 = .ok (.lload 4, 2) := by decide +kernel
theorem dX0_fitsAsItIs_20 : decode cX0_fitsAsItIs 20 = .ok (.invokestatic 66, 3) := by decide +kernel
theorem dX0_fitsAsItIs_23 : decode cX0_fitsAsItIs 23 = .ok (.ifCond .ne 7, 3) := by decide +kernel
theorem dX0_fitsAsItIs_26 : decode cX0_fitsAsItIs 26 = .ok (.iconst 1, 1) := by decide +kernel
theorem dX0_fitsAsItIs_27 : decode cX0_fitsAsItIs 27 = .ok (.goto 4, 3) := by decide +kernel
theorem dX0_fitsAsItIs_30 : decode cX0_fitsAsItIs 30 = .ok (.iconst 0, 1) := by decide +kernel
theorem dX0_fitsAsItIs_31 : decode cX0_fitsAsItIs 31 = .ok (.ireturn, 1) := by decide +kernel
set_option maxRecDepth 20000 in
theorem ggX0_comesToWords_X4_lengthOf : GoodIn wsX0_comesToWords wsX4_lengthOf := goodIn_r _ [7, 8, 29, 30, 31, 32, 33, 34, 35] (by decide +kernel) (by decide +kernel)
set_option maxRecDepth 20000 in
theorem gX0_comesToWords_X4_lengthOf : GoodIn wsX0_comesToWords (wsV RX0 70 RX4 yX4_lengthOf wsX4_lengthOf) := goodIn_app (goodIn_of _ (by decide +kernel)) ggX0_comesToWords_X4_lengthOf
set_option maxRecDepth 20000 in
theorem ggX0_comesToWords_X4_signAt : GoodIn wsX0_comesToWords wsX4_signAt := goodIn_r _ [12, 13, 29, 30, 31, 32, 33, 34, 35] (by decide +kernel) (by decide +kernel)
set_option maxRecDepth 20000 in
theorem gX0_comesToWords_X4_signAt : GoodIn wsX0_comesToWords (wsV RX0 73 RX4 yX4_signAt wsX4_signAt) := goodIn_app (goodIn_of _ (by decide +kernel)) ggX0_comesToWords_X4_signAt
set_option maxRecDepth 20000 in
theorem ggX0_comesToWords_X0_fitOf : GoodIn wsX0_comesToWords wsX0_fitOf := goodIn_r _ [18, 19, 20, 21, 17, 22, 23, 2, 24, 25, 26, 27, 28] (by decide +kernel) (by decide +kernel)
set_option maxRecDepth 20000 in
theorem gX0_comesToWords_X0_fitOf : GoodIn wsX0_comesToWords (wsV RX0 54 RX0 yX0_fitOf wsX0_fitOf) := goodIn_app (goodIn_of _ (by decide +kernel)) ggX0_comesToWords_X0_fitOf
theorem dX0_comesToWords_0 : decode cX0_comesToWords 0 = .ok (.iconst 0, 1) := by decide +kernel
theorem dX0_comesToWords_1 : decode cX0_comesToWords 1 = .ok (.istore_n 2, 1) := by decide +kernel
theorem dX0_comesToWords_2 : decode cX0_comesToWords 2 = .ok (.iload_n 2, 1) := by decide +kernel
theorem dX0_comesToWords_3 : decode cX0_comesToWords 3 = .ok (.aload_n 0, 1) := by decide +kernel
theorem dX0_comesToWords_4 : decode cX0_comesToWords 4 = .ok (.getfield 21, 3) := by decide +kernel
theorem dX0_comesToWords_7 : decode cX0_comesToWords 7 = .ok (.iload_n 1, 1) := by decide +kernel
theorem dX0_comesToWords_8 : decode cX0_comesToWords 8 = .ok (.invokevirtual 70, 3) := by decide +kernel
theorem dX0_comesToWords_11 : decode cX0_comesToWords 11 = .ok (.if_icmp .ge 33, 3) := by decide +kernel
theorem dX0_comesToWords_14 : decode cX0_comesToWords 14 = .ok (.aload_n 0, 1) := by decide +kernel
theorem dX0_comesToWords_15 : decode cX0_comesToWords 15 = .ok (.aload_n 0, 1) := by decide +kernel
theorem dX0_comesToWords_16 : decode cX0_comesToWords 16 = .ok (.getfield 21, 3) := by decide +kernel
theorem dX0_comesToWords_19 : decode cX0_comesToWords 19 = .ok (.iload_n 1, 1) := by decide +kernel
theorem dX0_comesToWords_20 : decode cX0_comesToWords 20 = .ok (.iload_n 2, 1) := by decide +kernel
theorem dX0_comesToWords_21 : decode cX0_comesToWords 21 = .ok (.invokevirtual 73, 3) := by decide +kernel
theorem dX0_comesToWords_24 : decode cX0_comesToWords 24 = .ok (.iconst 0, 1) := by decide +kernel
theorem dX0_comesToWords_25 : decode cX0_comesToWords 25 = .ok (.iconst 0, 1) := by decide +kernel
theorem dX0_comesToWords_26 : decode cX0_comesToWords 26 = .ok (.invokevirtual 54, 3) := by decide +kernel
theorem dX0_comesToWords_29 : decode cX0_comesToWords 29 = .ok (.ldc2_w 64, 3) := by decide +kernel
theorem dX0_comesToWords_32 : decode cX0_comesToWords 32 = .ok (.lcmp, 1) := by decide +kernel
theorem dX0_comesToWords_33 : decode cX0_comesToWords 33 = .ok (.ifCond .ne 5, 3) := by decide +kernel
theorem dX0_comesToWords_36 : decode cX0_comesToWords 36 = .ok (.iconst 0, 1) := by decide +kernel
theorem dX0_comesToWords_37 : decode cX0_comesToWords 37 = .ok (.ireturn, 1) := by decide +kernel
theorem dX0_comesToWords_38 : decode cX0_comesToWords 38 = .ok (.iinc 2 1, 3) := by decide +kernel
theorem dX0_comesToWords_41 : decode cX0_comesToWords 41 = .ok (.goto (-39), 3) := by decide +kernel
theorem dX0_comesToWords_44 : decode cX0_comesToWords 44 = .ok (.iconst 1, 1) := by decide +kernel
theorem dX0_comesToWords_45 : decode cX0_comesToWords 45 = .ok (.ireturn, 1) := by decide +kernel
theorem dX0_fitAt_0 : decode cX0_fitAt 0 = .ok (.iload_n 1, 1) := by decide +kernel
theorem dX0_fitAt_1 : decode cX0_fitAt 1 = .ok (.ifCond .lt 21, 3) := by decide +kernel
theorem dX0_fitAt_4 : decode cX0_fitAt 4 = .ok (.iload_n 1, 1) := by decide +kernel
theorem dX0_fitAt_5 : decode cX0_fitAt 5 = .ok (.aload_n 0, 1) := by decide +kernel
theorem dX0_fitAt_6 : decode cX0_fitAt 6 = .ok (.getfield 13, 3) := by decide +kernel
theorem dX0_fitAt_9 : decode cX0_fitAt 9 = .ok (.arraylength, 1) := by decide +kernel
theorem dX0_fitAt_10 : decode cX0_fitAt 10 = .ok (.if_icmp .ge 12, 3) := by decide +kernel
theorem dX0_fitAt_13 : decode cX0_fitAt 13 = .ok (.aload_n 0, 1) := by decide +kernel
theorem dX0_fitAt_14 : decode cX0_fitAt 14 = .ok (.getfield 13, 3) := by decide +kernel
theorem dX0_fitAt_17 : decode cX0_fitAt 17 = .ok (.iload_n 1, 1) := by decide +kernel
theorem dX0_fitAt_18 : decode cX0_fitAt 18 = .ok (.laload, 1) := by decide +kernel
theorem dX0_fitAt_19 : decode cX0_fitAt 19 = .ok (.goto 6, 3) := by decide +kernel
theorem dX0_fitAt_22 : decode cX0_fitAt 22 = .ok (.ldc2_w 64, 3) := by decide +kernel
theorem dX0_fitAt_25 : decode cX0_fitAt 25 = .ok (.lreturn, 1) := by decide +kernel
theorem dX0_setFit_0 : decode cX0_setFit 0 = .ok (.iload_n 1, 1) := by decide +kernel
theorem dX0_setFit_1 : decode cX0_setFit 1 = .ok (.bipush 49, 2) := by decide +kernel
theorem dX0_setFit_3 : decode cX0_setFit 3 = .ok (.imul, 1) := by decide +kernel
theorem dX0_setFit_4 : decode cX0_setFit 4 = .ok (.iload_n 2, 1) := by decide +kernel
theorem dX0_setFit_5 : decode cX0_setFit 5 = .ok (.bipush 7, 2) := by decide +kernel
theorem dX0_setFit_7 : decode cX0_setFit 7 = .ok (.imul, 1) := by decide +kernel
theorem dX0_setFit_8 : decode cX0_setFit 8 = .ok (.iadd, 1) := by decide +kernel
theorem dX0_setFit_9 : decode cX0_setFit 9 = .ok (.iload_n 3, 1) := by decide +kernel
theorem dX0_setFit_10 : decode cX0_setFit 10 = .ok (.iadd, 1) := by decide +kernel
theorem dX0_setFit_11 : decode cX0_setFit 11 = .ok (.istore 6, 2) := by decide +kernel
theorem dX0_setFit_13 : decode cX0_setFit 13 = .ok (.iload 6, 2) := by decide +kernel
theorem dX0_setFit_15 : decode cX0_setFit 15 = .ok (.ifCond .lt 22, 3) := by decide +kernel
theorem dX0_setFit_18 : decode cX0_setFit 18 = .ok (.iload 6, 2) := by decide +kernel
theorem dX0_setFit_20 : decode cX0_setFit 20 = .ok (.aload_n 0, 1) := by decide +kernel
theorem dX0_setFit_21 : decode cX0_setFit 21 = .ok (.getfield 13, 3) := by decide +kernel
theorem dX0_setFit_24 : decode cX0_setFit 24 = .ok (.arraylength, 1) := by decide +kernel
theorem dX0_setFit_25 : decode cX0_setFit 25 = .ok (.if_icmp .ge 12, 3) := by decide +kernel
theorem dX0_setFit_28 : decode cX0_setFit 28 = .ok (.aload_n 0, 1) := by decide +kernel
theorem dX0_setFit_29 : decode cX0_setFit 29 = .ok (.getfield 13, 3) := by decide +kernel
theorem dX0_setFit_32 : decode cX0_setFit 32 = .ok (.iload 6, 2) := by decide +kernel
theorem dX0_setFit_34 : decode cX0_setFit 34 = .ok (.lload 4, 2) := by decide +kernel
theorem dX0_setFit_36 : decode cX0_setFit 36 = .ok (.lastore, 1) := by decide +kernel
theorem dX0_setFit_37 : decode cX0_setFit 37 = .ok (.return_, 1) := by decide +kernel
set_option maxRecDepth 20000 in
theorem ggX0_fillLetters_X10_letterAt : GoodIn wsX0_fillLetters wsX10_letterAt := goodIn_r _ [7, 8, 9, 49, 50] (by decide +kernel) (by decide +kernel)
set_option maxRecDepth 20000 in
theorem gX0_fillLetters_X10_letterAt : GoodIn wsX0_fillLetters (wsV RX0 58 RX10 yX10_letterAt wsX10_letterAt) := goodIn_app (goodIn_of _ (by decide +kernel)) ggX0_fillLetters_X10_letterAt
set_option maxRecDepth 20000 in
theorem ggX0_fillLetters_X0_fillLettersOf : GoodIn wsX0_fillLetters wsX0_fillLettersOf := goodIn_r _ [14, 15, 16, 17, 18, 19, 20, 21, 22, 23, 24, 25, 26, 27, 28, 29, 30, 31, 32, 33, 34, 35, 36, 37, 38, 39, 40, 41, 13, 42, 43, 44, 45, 46, 47, 48, 51] (by decide +kernel) (by decide +kernel)
set_option maxRecDepth 20000 in
theorem gX0_fillLetters_X0_fillLettersOf : GoodIn wsX0_fillLetters (wsV RX0 77 RX0 yX0_fillLettersOf wsX0_fillLettersOf) := goodIn_app (goodIn_of _ (by decide +kernel)) ggX0_fillLetters_X0_fillLettersOf
theorem dX0_fillLetters_0 : decode cX0_fillLetters 0 = .ok (.iconst 0, 1) := by decide +kernel
theorem dX0_fillLetters_1 : decode cX0_fillLetters 1 = .ok (.istore_n 1, 1) := by decide +kernel
theorem dX0_fillLetters_2 : decode cX0_fillLetters 2 = .ok (.iload_n 1, 1) := by decide +kernel
theorem dX0_fillLetters_3 : decode cX0_fillLetters 3 = .ok (.aload_n 0, 1) := by decide +kernel
theorem dX0_fillLetters_4 : decode cX0_fillLetters 4 = .ok (.getfield 29, 3) := by decide +kernel
theorem dX0_fillLetters_7 : decode cX0_fillLetters 7 = .ok (.getfield 40, 3) := by decide +kernel
theorem dX0_fillLetters_10 : decode cX0_fillLetters 10 = .ok (.if_icmp .gt 57, 3) := by decide +kernel
theorem dX0_fillLetters_13 : decode cX0_fillLetters 13 = .ok (.iconst 0, 1) := by decide +kernel
theorem dX0_fillLetters_14 : decode cX0_fillLetters 14 = .ok (.istore_n 2, 1) := by decide +kernel
theorem dX0_fillLetters_15 : decode cX0_fillLetters 15 = .ok (.iload_n 1, 1) := by decide +kernel
theorem dX0_fillLetters_16 : decode cX0_fillLetters 16 = .ok (.istore_n 3, 1) := by decide +kernel
theorem dX0_fillLetters_17 : decode cX0_fillLetters 17 = .ok (.iload_n 3, 1) := by decide +kernel
theorem dX0_fillLetters_18 : decode cX0_fillLetters 18 = .ok (.aload_n 0, 1) := by decide +kernel
theorem dX0_fillLetters_19 : decode cX0_fillLetters 19 = .ok (.getfield 29, 3) := by decide +kernel
theorem dX0_fillLetters_22 : decode cX0_fillLetters 22 = .ok (.getfield 40, 3) := by decide +kernel
theorem dX0_fillLetters_25 : decode cX0_fillLetters 25 = .ok (.if_icmp .gt 36, 3) := by decide +kernel
theorem dX0_fillLetters_28 : decode cX0_fillLetters 28 = .ok (.iload_n 3, 1) := by decide +kernel
theorem dX0_fillLetters_29 : decode cX0_fillLetters 29 = .ok (.iload_n 1, 1) := by decide +kernel
theorem dX0_fillLetters_30 : decode cX0_fillLetters 30 = .ok (.if_icmp .le 18, 3) := by decide +kernel
theorem dX0_fillLetters_33 : decode cX0_fillLetters 33 = .ok (.iload_n 2, 1) := by decide +kernel
theorem dX0_fillLetters_34 : decode cX0_fillLetters 34 = .ok (.iconst 1, 1) := by decide +kernel
theorem dX0_fillLetters_35 : decode cX0_fillLetters 35 = .ok (.aload_n 0, 1) := by decide +kernel
theorem dX0_fillLetters_36 : decode cX0_fillLetters 36 = .ok (.getfield 29, 3) := by decide +kernel
theorem dX0_fillLetters_39 : decode cX0_fillLetters 39 = .ok (.iload_n 3, 1) := by decide +kernel
theorem dX0_fillLetters_40 : decode cX0_fillLetters 40 = .ok (.iconst 1, 1) := by decide +kernel
theorem dX0_fillLetters_41 : decode cX0_fillLetters 41 = .ok (.isub, 1) := by decide +kernel
theorem dX0_fillLetters_42 : decode cX0_fillLetters 42 = .ok (.invokevirtual 58, 3) := by decide +kernel
theorem dX0_fillLetters_45 : decode cX0_fillLetters 45 = .ok (.ishl, 1) := by decide +kernel
theorem dX0_fillLetters_46 : decode cX0_fillLetters 46 = .ok (.ior, 1) := by decide +kernel
theorem dX0_fillLetters_47 : decode cX0_fillLetters 47 = .ok (.istore_n 2, 1) := by decide +kernel
theorem dX0_fillLetters_48 : decode cX0_fillLetters 48 = .ok (.aload_n 0, 1) := by decide +kernel
theorem dX0_fillLetters_49 : decode cX0_fillLetters 49 = .ok (.iload_n 1, 1) := by decide +kernel
theorem dX0_fillLetters_50 : decode cX0_fillLetters 50 = .ok (.iload_n 3, 1) := by decide +kernel
theorem dX0_fillLetters_51 : decode cX0_fillLetters 51 = .ok (.iload_n 2, 1) := by decide +kernel
theorem dX0_fillLetters_52 : decode cX0_fillLetters 52 = .ok (.invokevirtual 77, 3) := by decide +kernel
theorem dX0_fillLetters_55 : decode cX0_fillLetters 55 = .ok (.iinc 3 1, 3) := by decide +kernel
theorem dX0_fillLetters_58 : decode cX0_fillLetters 58 = .ok (.goto (-41), 3) := by decide +kernel
theorem dX0_fillLetters_61 : decode cX0_fillLetters 61 = .ok (.iinc 1 1, 3) := by decide +kernel
theorem dX0_fillLetters_64 : decode cX0_fillLetters 64 = .ok (.goto (-62), 3) := by decide +kernel
theorem dX0_fillLetters_67 : decode cX0_fillLetters 67 = .ok (.return_, 1) := by decide +kernel
set_option maxRecDepth 20000 in
theorem ggX0_fillLettersOf_X1_drop : GoodIn wsX0_fillLettersOf wsX1_drop := goodIn_r _ [10, 11, 36] (by decide +kernel) (by decide +kernel)
set_option maxRecDepth 20000 in
theorem gX0_fillLettersOf_X1_drop : GoodIn wsX0_fillLettersOf (wsV RX0 81 RX1 yX1_drop wsX1_drop) := goodIn_app (goodIn_of _ (by decide +kernel)) ggX0_fillLettersOf_X1_drop
set_option maxRecDepth 20000 in
theorem ggX0_fillLettersOf_X1_change : GoodIn wsX0_fillLettersOf wsX1_change := goodIn_r _ [15, 11, 36] (by decide +kernel) (by decide +kernel)
set_option maxRecDepth 20000 in
theorem gX0_fillLettersOf_X1_change : GoodIn wsX0_fillLettersOf (wsV RX0 87 RX1 yX1_change wsX1_change) := goodIn_app (goodIn_of _ (by decide +kernel)) ggX0_fillLettersOf_X1_change
set_option maxRecDepth 20000 in
theorem ggX0_fillLettersOf_X1_put : GoodIn wsX0_fillLettersOf wsX1_put := goodIn_r _ [19, 11, 36] (by decide +kernel) (by decide +kernel)
set_option maxRecDepth 20000 in
theorem gX0_fillLettersOf_X1_put : GoodIn wsX0_fillLettersOf (wsV RX0 90 RX1 yX1_put wsX1_put) := goodIn_app (goodIn_of _ (by decide +kernel)) ggX0_fillLettersOf_X1_put
set_option maxRecDepth 20000 in
theorem ggX0_fillLettersOf_X3_ofOne : GoodIn wsX0_fillLettersOf wsX3_ofOne := goodIn_r _ [23, 24] (by decide +kernel) (by decide +kernel)
set_option maxRecDepth 20000 in
theorem gX0_fillLettersOf_X3_ofOne : GoodIn wsX0_fillLettersOf (va_wsS RX0 98 yX3_ofOne wsX3_ofOne) := goodIn_app (goodIn_of _ (by decide +kernel)) ggX0_fillLettersOf_X3_ofOne
set_option maxRecDepth 20000 in
theorem ggX0_fillLettersOf_X0_setFit : GoodIn wsX0_fillLettersOf wsX0_setFit := goodIn_r _ [29, 30, 31, 32, 33, 34, 35] (by decide +kernel) (by decide +kernel)
set_option maxRecDepth 20000 in
theorem gX0_fillLettersOf_X0_setFit : GoodIn wsX0_fillLettersOf (wsV RX0 102 RX0 yX0_setFit wsX0_setFit) := goodIn_app (goodIn_of _ (by decide +kernel)) ggX0_fillLettersOf_X0_setFit
theorem dX0_fillLettersOf_0 : decode cX0_fillLettersOf 0 = .ok (.iload_n 2, 1) := by decide +kernel
theorem dX0_fillLettersOf_1 : decode cX0_fillLettersOf 1 = .ok (.iload_n 1, 1) := by decide +kernel
theorem dX0_fillLettersOf_2 : decode cX0_fillLettersOf 2 = .ok (.isub, 1) := by decide +kernel
theorem dX0_fillLettersOf_3 : decode cX0_fillLettersOf 3 = .ok (.iconst 1, 1) := by decide +kernel
theorem dX0_fillLettersOf_4 : decode cX0_fillLettersOf 4 = .ok (.isub, 1) := by decide +kernel
theorem dX0_fillLettersOf_5 : decode cX0_fillLettersOf 5 = .ok (.aload_n 0, 1) := by decide +kernel
theorem dX0_fillLettersOf_6 : decode cX0_fillLettersOf 6 = .ok (.getfield 25, 3) := by decide +kernel
theorem dX0_fillLettersOf_9 : decode cX0_fillLettersOf 9 = .ok (.invokevirtual 81, 3) := by decide +kernel
theorem dX0_fillLettersOf_12 : decode cX0_fillLettersOf 12 = .ok (.imul, 1) := by decide +kernel
theorem dX0_fillLettersOf_13 : decode cX0_fillLettersOf 13 = .ok (.istore 4, 2) := by decide +kernel
theorem dX0_fillLettersOf_15 : decode cX0_fillLettersOf 15 = .ok (.aload_n 0, 1) := by decide +kernel
theorem dX0_fillLettersOf_16 : decode cX0_fillLettersOf 16 = .ok (.getfield 25, 3) := by decide +kernel
theorem dX0_fillLettersOf_19 : decode cX0_fillLettersOf 19 = .ok (.invokevirtual 87, 3) := by decide +kernel
theorem dX0_fillLettersOf_22 : decode cX0_fillLettersOf 22 = .ok (.aload_n 0, 1) := by decide +kernel
theorem dX0_fillLettersOf_23 : decode cX0_fillLettersOf 23 = .ok (.getfield 25, 3) := by decide +kernel
theorem dX0_fillLettersOf_26 : decode cX0_fillLettersOf 26 = .ok (.invokevirtual 81, 3) := by decide +kernel
theorem dX0_fillLettersOf_29 : decode cX0_fillLettersOf 29 = .ok (.aload_n 0, 1) := by decide +kernel
theorem dX0_fillLettersOf_30 : decode cX0_fillLettersOf 30 = .ok (.getfield 25, 3) := by decide +kernel
theorem dX0_fillLettersOf_33 : decode cX0_fillLettersOf 33 = .ok (.invokevirtual 90, 3) := by decide +kernel
theorem dX0_fillLettersOf_36 : decode cX0_fillLettersOf 36 = .ok (.iadd, 1) := by decide +kernel
theorem dX0_fillLettersOf_37 : decode cX0_fillLettersOf 37 = .ok (.invokestatic 93, 3) := by decide +kernel
theorem dX0_fillLettersOf_40 : decode cX0_fillLettersOf 40 = .ok (.istore 5, 2) := by decide +kernel
theorem dX0_fillLettersOf_42 : decode cX0_fillLettersOf 42 = .ok (.iconst 0, 1) := by decide +kernel
theorem dX0_fillLettersOf_43 : decode cX0_fillLettersOf 43 = .ok (.istore 6, 2) := by decide +kernel
theorem dX0_fillLettersOf_45 : decode cX0_fillLettersOf 45 = .ok (.iload 6, 2) := by decide +kernel
theorem dX0_fillLettersOf_47 : decode cX0_fillLettersOf 47 = .ok (.iconst 4, 1) := by decide +kernel
theorem dX0_fillLettersOf_48 : decode cX0_fillLettersOf 48 = .ok (.if_icmp .ge 59, 3) := by decide +kernel
theorem dX0_fillLettersOf_51 : decode cX0_fillLettersOf 51 = .ok (.iload 4, 2) := by decide +kernel
theorem dX0_fillLettersOf_53 : decode cX0_fillLettersOf 53 = .ok (.iload_n 3, 1) := by decide +kernel
theorem dX0_fillLettersOf_54 : decode cX0_fillLettersOf 54 = .ok (.iload 6, 2) := by decide +kernel
theorem dX0_fillLettersOf_56 : decode cX0_fillLettersOf 56 = .ok (.ishr, 1) := by decide +kernel
theorem dX0_fillLettersOf_57 : decode cX0_fillLettersOf 57 = .ok (.iconst 1, 1) := by decide +kernel
theorem dX0_fillLettersOf_58 : decode cX0_fillLettersOf 58 = .ok (.iand, 1) := by decide +kernel
theorem dX0_fillLettersOf_59 : decode cX0_fillLettersOf 59 = .ok (.ifCond .eq 7, 3) := by decide +kernel
theorem dX0_fillLettersOf_62 : decode cX0_fillLettersOf 62 = .ok (.iconst 0, 1) := by decide +kernel
theorem dX0_fillLettersOf_63 : decode cX0_fillLettersOf 63 = .ok (.goto 5, 3) := by decide +kernel
theorem dX0_fillLettersOf_66 : decode cX0_fillLettersOf 66 = .ok (.iload 5, 2) := by decide +kernel
theorem dX0_fillLettersOf_68 : decode cX0_fillLettersOf 68 = .ok (.iadd, 1) := by decide +kernel
theorem dX0_fillLettersOf_69 : decode cX0_fillLettersOf 69 = .ok (.istore 7, 2) := by decide +kernel
theorem dX0_fillLettersOf_71 : decode cX0_fillLettersOf 71 = .ok (.aload_n 0, 1) := by decide +kernel
theorem dX0_fillLettersOf_72 : decode cX0_fillLettersOf 72 = .ok (.iload 6, 2) := by decide +kernel
theorem dX0_fillLettersOf_74 : decode cX0_fillLettersOf 74 = .ok (.iload_n 1, 1) := by decide +kernel
theorem dX0_fillLettersOf_75 : decode cX0_fillLettersOf 75 = .ok (.iload_n 2, 1) := by decide +kernel
theorem dX0_fillLettersOf_76 : decode cX0_fillLettersOf 76 = .ok (.iload_n 1, 1) := by decide +kernel
theorem dX0_fillLettersOf_77 : decode cX0_fillLettersOf 77 = .ok (.iload_n 2, 1) := by decide +kernel
theorem dX0_fillLettersOf_78 : decode cX0_fillLettersOf 78 = .ok (.if_icmp .ne 13, 3) := by decide +kernel
theorem dX0_fillLettersOf_81 : decode cX0_fillLettersOf 81 = .ok (.aload_n 0, 1) := by decide +kernel
theorem dX0_fillLettersOf_82 : decode cX0_fillLettersOf 82 = .ok (.getfield 25, 3) := by decide +kernel
theorem dX0_fillLettersOf_85 : decode cX0_fillLettersOf 85 = .ok (.invokevirtual 90, 3) := by decide +kernel
theorem dX0_fillLettersOf_88 : decode cX0_fillLettersOf 88 = .ok (.goto 5, 3) := by decide +kernel
theorem dX0_fillLettersOf_91 : decode cX0_fillLettersOf 91 = .ok (.iload 7, 2) := by decide +kernel
theorem dX0_fillLettersOf_93 : decode cX0_fillLettersOf 93 = .ok (.iload 6, 2) := by decide +kernel
theorem dX0_fillLettersOf_95 : decode cX0_fillLettersOf 95 = .ok (.invokestatic 98, 3) := by decide +kernel
theorem dX0_fillLettersOf_98 : decode cX0_fillLettersOf 98 = .ok (.invokevirtual 102, 3) := by decide +kernel
theorem dX0_fillLettersOf_101 : decode cX0_fillLettersOf 101 = .ok (.iinc 6 1, 3) := by decide +kernel
theorem dX0_fillLettersOf_104 : decode cX0_fillLettersOf 104 = .ok (.goto (-59), 3) := by decide +kernel
theorem dX0_fillLettersOf_107 : decode cX0_fillLettersOf 107 = .ok (.return_, 1) := by decide +kernel
set_option maxRecDepth 20000 in
theorem ggX0_settle_X0_setFit : GoodIn wsX0_settle wsX0_setFit := goodIn_r _ [7, 8, 74, 75, 76, 77, 78] (by decide +kernel) (by decide +kernel)
set_option maxRecDepth 20000 in
theorem gX0_settle_X0_setFit : GoodIn wsX0_settle (wsV RX0 102 RX0 yX0_setFit wsX0_setFit) := goodIn_app (goodIn_of _ (by decide +kernel)) ggX0_settle_X0_setFit
set_option maxRecDepth 20000 in
theorem ggX0_settle_X0_lessen : GoodIn wsX0_settle wsX0_lessen := goodIn_r _ [12, 13, 14, 15, 16, 17, 18, 19, 20, 6, 21, 22, 23, 24, 25, 8, 1, 26, 27, 28, 29, 30, 31, 32, 33, 34, 35, 36, 37, 38, 39, 40, 41, 42, 43, 44, 45, 46, 47, 48, 49, 50, 51, 52, 53, 54, 55, 56, 57, 58, 59, 60, 61, 62, 63, 64, 65, 66, 67, 68, 69, 70, 71, 72, 73, 3, 4, 5, 7, 74, 75, 76, 77, 78, 79, 80, 81, 82, 83, 84, 85, 86] (by decide +kernel) (by decide +kernel)
set_option maxRecDepth 20000 in
theorem gX0_settle_X0_lessen : GoodIn wsX0_settle (wsV RX0 106 RX0 yX0_lessen wsX0_lessen) := goodIn_app (goodIn_of _ (by decide +kernel)) ggX0_settle_X0_lessen
theorem dX0_settle_0 : decode cX0_settle 0 = .ok (.iconst 0, 1) := by decide +kernel
theorem dX0_settle_1 : decode cX0_settle 1 = .ok (.istore_n 3, 1) := by decide +kernel
theorem dX0_settle_2 : decode cX0_settle 2 = .ok (.iload_n 3, 1) := by decide +kernel
theorem dX0_settle_3 : decode cX0_settle 3 = .ok (.bipush 6, 2) := by decide +kernel
theorem dX0_settle_5 : decode cX0_settle 5 = .ok (.if_icmp .ge 21, 3) := by decide +kernel
theorem dX0_settle_8 : decode cX0_settle 8 = .ok (.aload_n 0, 1) := by decide +kernel
theorem dX0_settle_9 : decode cX0_settle 9 = .ok (.iconst 4, 1) := by decide +kernel
theorem dX0_settle_10 : decode cX0_settle 10 = .ok (.iload_n 3, 1) := by decide +kernel
theorem dX0_settle_11 : decode cX0_settle 11 = .ok (.iadd, 1) := by decide +kernel
theorem dX0_settle_12 : decode cX0_settle 12 = .ok (.iload_n 1, 1) := by decide +kernel
theorem dX0_settle_13 : decode cX0_settle 13 = .ok (.iload_n 2, 1) := by decide +kernel
theorem dX0_settle_14 : decode cX0_settle 14 = .ok (.ldc2_w 64, 3) := by decide +kernel
theorem dX0_settle_17 : decode cX0_settle 17 = .ok (.invokevirtual 102, 3) := by decide +kernel
theorem dX0_settle_20 : decode cX0_settle 20 = .ok (.iinc 3 1, 3) := by decide +kernel
theorem dX0_settle_23 : decode cX0_settle 23 = .ok (.goto (-21), 3) := by decide +kernel
theorem dX0_settle_26 : decode cX0_settle 26 = .ok (.bipush 63, 2) := by decide +kernel
theorem dX0_settle_28 : decode cX0_settle 28 = .ok (.istore_n 3, 1) := by decide +kernel
theorem dX0_settle_29 : decode cX0_settle 29 = .ok (.iconst 0, 1) := by decide +kernel
theorem dX0_settle_30 : decode cX0_settle 30 = .ok (.istore 4, 2) := by decide +kernel
theorem dX0_settle_32 : decode cX0_settle 32 = .ok (.iload_n 3, 1) := by decide +kernel
theorem dX0_settle_33 : decode cX0_settle 33 = .ok (.ifCond .eq 73, 3) := by decide +kernel
theorem dX0_settle_36 : decode cX0_settle 36 = .ok (.iload 4, 2) := by decide +kernel
theorem dX0_settle_38 : decode cX0_settle 38 = .ok (.bipush 6, 2) := by decide +kernel
theorem dX0_settle_40 : decode cX0_settle 40 = .ok (.if_icmp .gt 66, 3) := by decide +kernel
theorem dX0_settle_43 : decode cX0_settle 43 = .ok (.iconst 5, 1) := by decide +kernel
theorem dX0_settle_44 : decode cX0_settle 44 = .ok (.istore 5, 2) := by decide +kernel
theorem dX0_settle_46 : decode cX0_settle 46 = .ok (.iload 5, 2) := by decide +kernel
theorem dX0_settle_48 : decode cX0_settle 48 = .ok (.ifCond .lt 52, 3) := by decide +kernel
theorem dX0_settle_51 : decode cX0_settle 51 = .ok (.iload_n 3, 1) := by decide +kernel
theorem dX0_settle_52 : decode cX0_settle 52 = .ok (.iload 5, 2) := by decide +kernel
theorem dX0_settle_54 : decode cX0_settle 54 = .ok (.ishr, 1) := by decide +kernel
theorem dX0_settle_55 : decode cX0_settle 55 = .ok (.iconst 1, 1) := by decide +kernel
theorem dX0_settle_56 : decode cX0_settle 56 = .ok (.iand, 1) := by decide +kernel
theorem dX0_settle_57 : decode cX0_settle 57 = .ok (.ifCond .eq 37, 3) := by decide +kernel
theorem dX0_settle_60 : decode cX0_settle 60 = .ok (.iload_n 3, 1) := by decide +kernel
theorem dX0_settle_61 : decode cX0_settle 61 = .ok (.iconst 1, 1) := by decide +kernel
theorem dX0_settle_62 : decode cX0_settle 62 = .ok (.iload 5, 2) := by decide +kernel
theorem dX0_settle_64 : decode cX0_settle 64 = .ok (.ishl, 1) := by decide +kernel
theorem dX0_settle_65 : decode cX0_settle 65 = .ok (.iconst (-1), 1) := by decide +kernel
theorem dX0_settle_66 : decode cX0_settle 66 = .ok (.ixor, 1) := by decide +kernel
theorem dX0_settle_67 : decode cX0_settle 67 = .ok (.iand, 1) := by decide +kernel
theorem dX0_settle_68 : decode cX0_settle 68 = .ok (.istore_n 3, 1) := by decide +kernel
theorem dX0_settle_69 : decode cX0_settle 69 = .ok (.iload_n 3, 1) := by decide +kernel
theorem dX0_settle_70 : decode cX0_settle 70 = .ok (.aload_n 0, 1) := by decide +kernel
theorem dX0_settle_71 : decode cX0_settle 71 = .ok (.iload 5, 2) := by decide +kernel
theorem dX0_settle_73 : decode cX0_settle 73 = .ok (.iload_n 1, 1) := by decide +kernel
theorem dX0_settle_74 : decode cX0_settle 74 = .ok (.iload_n 2, 1) := by decide +kernel
theorem dX0_settle_75 : decode cX0_settle 75 = .ok (.invokevirtual 106, 3) := by decide +kernel
theorem dX0_settle_78 : decode cX0_settle 78 = .ok (.ifCond .eq 13, 3) := by decide +kernel
theorem dX0_settle_81 : decode cX0_settle 81 = .ok (.aload_n 0, 1) := by decide +kernel
theorem dX0_settle_82 : decode cX0_settle 82 = .ok (.getfield 17, 3) := by decide +kernel
theorem dX0_settle_85 : decode cX0_settle 85 = .ok (.iload 5, 2) := by decide +kernel
theorem dX0_settle_87 : decode cX0_settle 87 = .ok (.iaload, 1) := by decide +kernel
theorem dX0_settle_88 : decode cX0_settle 88 = .ok (.goto 4, 3) := by decide +kernel
theorem dX0_settle_91 : decode cX0_settle 91 = .ok (.iconst 0, 1) := by decide +kernel
theorem dX0_settle_92 : decode cX0_settle 92 = .ok (.ior, 1) := by decide +kernel
theorem dX0_settle_93 : decode cX0_settle 93 = .ok (.istore_n 3, 1) := by decide +kernel
theorem dX0_settle_94 : decode cX0_settle 94 = .ok (.iinc 5 (-1), 3) := by decide +kernel
theorem dX0_settle_97 : decode cX0_settle 97 = .ok (.goto (-51), 3) := by decide +kernel
theorem dX0_settle_100 : decode cX0_settle 100 = .ok (.iinc 4 1, 3) := by decide +kernel
theorem dX0_settle_103 : decode cX0_settle 103 = .ok (.goto (-71), 3) := by decide +kernel
theorem dX0_settle_106 : decode cX0_settle 106 = .ok (.return_, 1) := by decide +kernel
set_option maxRecDepth 20000 in
theorem ggX0_lessen_X0_fitOf : GoodIn wsX0_lessen wsX0_fitOf := goodIn_r _ [10, 11, 12, 13, 9, 14, 15, 16, 69, 70, 71, 72, 73] (by decide +kernel) (by decide +kernel)
set_option maxRecDepth 20000 in
theorem gX0_lessen_X0_fitOf : GoodIn wsX0_lessen (wsV RX0 54 RX0 yX0_fitOf wsX0_fitOf) := goodIn_app (goodIn_of _ (by decide +kernel)) ggX0_lessen_X0_fitOf
set_option maxRecDepth 20000 in
theorem ggX0_lessen_X4_countOf : GoodIn wsX0_lessen wsX4_countOf := goodIn_r _ [21, 22, 23, 24, 25, 26, 74, 75, 76, 77, 78, 79, 80] (by decide +kernel) (by decide +kernel)
set_option maxRecDepth 20000 in
theorem gX0_lessen_X4_countOf : GoodIn wsX0_lessen (wsV RX0 110 RX4 yX4_countOf wsX4_countOf) := goodIn_app (goodIn_of _ (by decide +kernel)) ggX0_lessen_X4_countOf
set_option maxRecDepth 20000 in
theorem ggX0_lessen_X4_slotOf : GoodIn wsX0_lessen wsX4_slotOf := goodIn_r _ [30, 22, 24, 25, 26, 74, 75, 76, 77, 78, 79, 80] (by decide +kernel) (by decide +kernel)
set_option maxRecDepth 20000 in
theorem gX0_lessen_X4_slotOf : GoodIn wsX0_lessen (wsV RX0 113 RX4 yX4_slotOf wsX4_slotOf) := goodIn_app (goodIn_of _ (by decide +kernel)) ggX0_lessen_X4_slotOf
set_option maxRecDepth 20000 in
theorem ggX0_lessen_X0_ruleFit : GoodIn wsX0_lessen wsX0_ruleFit := goodIn_r _ [34, 1, 35, 16, 36, 37, 38, 20, 39, 40, 41, 42, 43, 44, 45, 46, 47, 48, 49, 50, 51, 52, 53, 54, 55, 11, 12, 13, 9, 14, 15, 56, 57, 58, 59, 60, 61, 62, 63, 64, 65, 66, 67, 68, 69, 70, 71, 72, 73, 74, 75, 76, 77, 78, 79, 80, 81] (by decide +kernel) (by decide +kernel)
set_option maxRecDepth 20000 in
theorem gX0_lessen_X0_ruleFit : GoodIn wsX0_lessen (wsV RX0 116 RX0 yX0_ruleFit wsX0_ruleFit) := goodIn_app (goodIn_of _ (by decide +kernel)) ggX0_lessen_X0_ruleFit
set_option maxRecDepth 20000 in
theorem ggX0_lessen_X0_setFit : GoodIn wsX0_lessen wsX0_setFit := goodIn_r _ [68, 15, 69, 70, 71, 72, 73] (by decide +kernel) (by decide +kernel)
set_option maxRecDepth 20000 in
theorem gX0_lessen_X0_setFit : GoodIn wsX0_lessen (wsV RX0 102 RX0 yX0_setFit wsX0_setFit) := goodIn_app (goodIn_of _ (by decide +kernel)) ggX0_lessen_X0_setFit
theorem dX0_lessen_0 : decode cX0_lessen 0 = .ok (.aload_n 0, 1) := by decide +kernel
theorem dX0_lessen_1 : decode cX0_lessen 1 = .ok (.iconst 4, 1) := by decide +kernel
theorem dX0_lessen_2 : decode cX0_lessen 2 = .ok (.iload_n 1, 1) := by decide +kernel
theorem dX0_lessen_3 : decode cX0_lessen 3 = .ok (.iadd, 1) := by decide +kernel
theorem dX0_lessen_4 : decode cX0_lessen 4 = .ok (.iload_n 2, 1) := by decide +kernel
theorem dX0_lessen_5 : decode cX0_lessen 5 = .ok (.iload_n 3, 1) := by decide +kernel
theorem dX0_lessen_6 : decode cX0_lessen 6 = .ok (.invokevirtual 54, 3) := by decide +kernel
theorem dX0_lessen_9 : decode cX0_lessen 9 = .ok (.lstore 4, 2) := by decide +kernel
theorem dX0_lessen_11 : decode cX0_lessen 11 = .ok (.lload 4, 2) := by decide +kernel
theorem dX0_lessen_13 : decode cX0_lessen 13 = .ok (.lstore 6, 2) := by decide +kernel
theorem dX0_lessen_15 : decode cX0_lessen 15 = .ok (.aload_n 0, 1) := by decide +kernel
theorem dX0_lessen_16 : decode cX0_lessen 16 = .ok (.getfield 21, 3) := by decide +kernel
theorem dX0_lessen_19 : decode cX0_lessen 19 = .ok (.iload_n 1, 1) := by decide +kernel
theorem dX0_lessen_20 : decode cX0_lessen 20 = .ok (.invokevirtual 110, 3) := by decide +kernel
theorem dX0_lessen_23 : decode cX0_lessen 23 = .ok (.istore 8, 2) := by decide +kernel
theorem dX0_lessen_25 : decode cX0_lessen 25 = .ok (.iconst 0, 1) := by decide +kernel
theorem dX0_lessen_26 : decode cX0_lessen 26 = .ok (.istore 9, 2) := by decide +kernel
theorem dX0_lessen_28 : decode cX0_lessen 28 = .ok (.iload 9, 2) := by decide +kernel
theorem dX0_lessen_30 : decode cX0_lessen 30 = .ok (.iload 8, 2) := by decide +kernel
theorem dX0_lessen_32 : decode cX0_lessen 32 = .ok (.if_icmp .ge 32, 3) := by decide +kernel
theorem dX0_lessen_35 : decode cX0_lessen 35 = .ok (.lload 6, 2) := by decide +kernel
theorem dX0_lessen_37 : decode cX0_lessen 37 = .ok (.aload_n 0, 1) := by decide +kernel
theorem dX0_lessen_38 : decode cX0_lessen 38 = .ok (.aload_n 0, 1) := by decide +kernel
theorem dX0_lessen_39 : decode cX0_lessen 39 = .ok (.getfield 21, 3) := by decide +kernel
theorem dX0_lessen_42 : decode cX0_lessen 42 = .ok (.iload_n 1, 1) := by decide +kernel
theorem dX0_lessen_43 : decode cX0_lessen 43 = .ok (.iload 9, 2) := by decide +kernel
theorem dX0_lessen_45 : decode cX0_lessen 45 = .ok (.invokevirtual 113, 3) := by decide +kernel
theorem dX0_lessen_48 : decode cX0_lessen 48 = .ok (.iload_n 2, 1) := by decide +kernel
theorem dX0_lessen_49 : decode cX0_lessen 49 = .ok (.iload_n 3, 1) := by decide +kernel
theorem dX0_lessen_50 : decode cX0_lessen 50 = .ok (.invokevirtual 116, 3) := by decide +kernel
theorem dX0_lessen_53 : decode cX0_lessen 53 = .ok (.invokestatic 119, 3) := by decide +kernel
theorem dX0_lessen_56 : decode cX0_lessen 56 = .ok (.lstore 6, 2) := by decide +kernel
theorem dX0_lessen_58 : decode cX0_lessen 58 = .ok (.iinc 9 1, 3) := by decide +kernel
theorem dX0_lessen_61 : decode cX0_lessen 61 = .ok (.goto (-33), 3) := by decide +kernel
theorem dX0_lessen_64 : decode cX0_lessen 64 = .ok (.aload_n 0, 1) := by decide +kernel
theorem dX0_lessen_65 : decode cX0_lessen 65 = .ok (.iconst 4, 1) := by decide +kernel
theorem dX0_lessen_66 : decode cX0_lessen 66 = .ok (.iload_n 1, 1) := by decide +kernel
theorem dX0_lessen_67 : decode cX0_lessen 67 = .ok (.iadd, 1) := by decide +kernel
theorem dX0_lessen_68 : decode cX0_lessen 68 = .ok (.iload_n 2, 1) := by decide +kernel
theorem dX0_lessen_69 : decode cX0_lessen 69 = .ok (.iload_n 3, 1) := by decide +kernel
theorem dX0_lessen_70 : decode cX0_lessen 70 = .ok (.lload 6, 2) := by decide +kernel
theorem dX0_lessen_72 : decode cX0_lessen 72 = .ok (.invokevirtual 102, 3) := by decide +kernel
theorem dX0_lessen_75 : decode cX0_lessen 75 = .ok (.lload 6, 2) := by decide +kernel
theorem dX0_lessen_77 : decode cX0_lessen 77 = .ok (.lload 4, 2) := by decide +kernel
theorem dX0_lessen_79 : decode cX0_lessen 79 = .ok (.lcmp, 1) := by decide +kernel
theorem dX0_lessen_80 : decode cX0_lessen 80 = .ok (.ifCond .ge 7, 3) := by decide +kernel
theorem dX0_lessen_83 : decode cX0_lessen 83 = .ok (.iconst 1, 1) := by decide +kernel
theorem dX0_lessen_84 : decode cX0_lessen 84 = .ok (.goto 4, 3) := by decide +kernel
theorem dX0_lessen_87 : decode cX0_lessen 87 = .ok (.iconst 0, 1) := by decide +kernel
theorem dX0_lessen_88 : decode cX0_lessen 88 = .ok (.ireturn, 1) := by decide +kernel
set_option maxRecDepth 20000 in
theorem ggX0_ruleFit_X4_lengthOf : GoodIn wsX0_ruleFit wsX4_lengthOf := goodIn_r _ [8, 9, 49, 50, 51, 52, 53, 54, 55] (by decide +kernel) (by decide +kernel)
set_option maxRecDepth 20000 in
theorem gX0_ruleFit_X4_lengthOf : GoodIn wsX0_ruleFit (wsV RX0 70 RX4 yX4_lengthOf wsX4_lengthOf) := goodIn_app (goodIn_of _ (by decide +kernel)) ggX0_ruleFit_X4_lengthOf
set_option maxRecDepth 20000 in
theorem ggX0_ruleFit_X1_drop : GoodIn wsX0_ruleFit wsX1_drop := goodIn_r _ [14, 15, 56] (by decide +kernel) (by decide +kernel)
set_option maxRecDepth 20000 in
theorem gX0_ruleFit_X1_drop : GoodIn wsX0_ruleFit (wsV RX0 81 RX1 yX1_drop wsX1_drop) := goodIn_app (goodIn_of _ (by decide +kernel)) ggX0_ruleFit_X1_drop
set_option maxRecDepth 20000 in
theorem ggX0_ruleFit_X3_ofNone : GoodIn wsX0_ruleFit wsX3_ofNone := goodIn_r _ [19] (by decide +kernel) (by decide +kernel)
set_option maxRecDepth 20000 in
theorem gX0_ruleFit_X3_ofNone : GoodIn wsX0_ruleFit (va_wsS RX0 122 yX3_ofNone wsX3_ofNone) := goodIn_app (goodIn_of _ (by decide +kernel)) ggX0_ruleFit_X3_ofNone
set_option maxRecDepth 20000 in
theorem ggX0_ruleFit_X4_signAt : GoodIn wsX0_ruleFit wsX4_signAt := goodIn_r _ [23, 24, 49, 50, 51, 52, 53, 54, 55] (by decide +kernel) (by decide +kernel)
set_option maxRecDepth 20000 in
theorem gX0_ruleFit_X4_signAt : GoodIn wsX0_ruleFit (wsV RX0 73 RX4 yX4_signAt wsX4_signAt) := goodIn_app (goodIn_of _ (by decide +kernel)) ggX0_ruleFit_X4_signAt
set_option maxRecDepth 20000 in
theorem ggX0_ruleFit_X0_fitAt : GoodIn wsX0_ruleFit wsX0_fitAt := goodIn_r _ [29, 30, 3, 44, 45, 46, 47, 48] (by decide +kernel) (by decide +kernel)
set_option maxRecDepth 20000 in
theorem gX0_ruleFit_X0_fitAt : GoodIn wsX0_ruleFit (wsV RX0 50 RX0 yX0_fitAt wsX0_fitAt) := goodIn_app (goodIn_of _ (by decide +kernel)) ggX0_ruleFit_X0_fitAt
set_option maxRecDepth 20000 in
theorem ggX0_ruleFit_X3_lesser : GoodIn wsX0_ruleFit wsX3_lesser := goodIn_r _ [33, 34, 35, 36, 37, 38, 39] (by decide +kernel) (by decide +kernel)
set_option maxRecDepth 20000 in
theorem gX0_ruleFit_X3_lesser : GoodIn wsX0_ruleFit (va_wsS RX0 125 yX3_lesser wsX3_lesser) := goodIn_app (goodIn_of _ (by decide +kernel)) ggX0_ruleFit_X3_lesser
set_option maxRecDepth 20000 in
theorem ggX0_ruleFit_X0_setFit : GoodIn wsX0_ruleFit wsX0_setFit := goodIn_r _ [43, 30, 44, 45, 46, 47, 48] (by decide +kernel) (by decide +kernel)
set_option maxRecDepth 20000 in
theorem gX0_ruleFit_X0_setFit : GoodIn wsX0_ruleFit (wsV RX0 102 RX0 yX0_setFit wsX0_setFit) := goodIn_app (goodIn_of _ (by decide +kernel)) ggX0_ruleFit_X0_setFit
theorem dX0_ruleFit_0 : decode cX0_ruleFit 0 = .ok (.aload_n 0, 1) := by decide +kernel
theorem dX0_ruleFit_1 : decode cX0_ruleFit 1 = .ok (.getfield 21, 3) := by decide +kernel
theorem dX0_ruleFit_4 : decode cX0_ruleFit 4 = .ok (.iload_n 1, 1) := by decide +kernel
theorem dX0_ruleFit_5 : decode cX0_ruleFit 5 = .ok (.invokevirtual 70, 3) := by decide +kernel
theorem dX0_ruleFit_8 : decode cX0_ruleFit 8 = .ok (.istore 4, 2) := by decide +kernel
theorem dX0_ruleFit_10 : decode cX0_ruleFit 10 = .ok (.iload 4, 2) := by decide +kernel
theorem dX0_ruleFit_12 : decode cX0_ruleFit 12 = .ok (.ifCond .ne 18, 3) := by decide +kernel
theorem dX0_ruleFit_15 : decode cX0_ruleFit 15 = .ok (.iload_n 3, 1) := by decide +kernel
theorem dX0_ruleFit_16 : decode cX0_ruleFit 16 = .ok (.iload_n 2, 1) := by decide +kernel
theorem dX0_ruleFit_17 : decode cX0_ruleFit 17 = .ok (.isub, 1) := by decide +kernel
theorem dX0_ruleFit_18 : decode cX0_ruleFit 18 = .ok (.aload_n 0, 1) := by decide +kernel
theorem dX0_ruleFit_19 : decode cX0_ruleFit 19 = .ok (.getfield 25, 3) := by decide +kernel
theorem dX0_ruleFit_22 : decode cX0_ruleFit 22 = .ok (.invokevirtual 81, 3) := by decide +kernel
theorem dX0_ruleFit_25 : decode cX0_ruleFit 25 = .ok (.imul, 1) := by decide +kernel
theorem dX0_ruleFit_26 : decode cX0_ruleFit 26 = .ok (.invokestatic 122, 3) := by decide +kernel
theorem dX0_ruleFit_29 : decode cX0_ruleFit 29 = .ok (.lreturn, 1) := by decide +kernel
theorem dX0_ruleFit_30 : decode cX0_ruleFit 30 = .ok (.aload_n 0, 1) := by decide +kernel
theorem dX0_ruleFit_31 : decode cX0_ruleFit 31 = .ok (.getfield 21, 3) := by decide +kernel
theorem dX0_ruleFit_34 : decode cX0_ruleFit 34 = .ok (.iload_n 1, 1) := by decide +kernel
theorem dX0_ruleFit_35 : decode cX0_ruleFit 35 = .ok (.iconst 0, 1) := by decide +kernel
theorem dX0_ruleFit_36 : decode cX0_ruleFit 36 = .ok (.invokevirtual 73, 3) := by decide +kernel
theorem dX0_ruleFit_39 : decode cX0_ruleFit 39 = .ok (.istore 5, 2) := by decide +kernel
theorem dX0_ruleFit_41 : decode cX0_ruleFit 41 = .ok (.aload_n 0, 1) := by decide +kernel
theorem dX0_ruleFit_42 : decode cX0_ruleFit 42 = .ok (.iload 5, 2) := by decide +kernel
theorem dX0_ruleFit_44 : decode cX0_ruleFit 44 = .ok (.bipush 49, 2) := by decide +kernel
theorem dX0_ruleFit_46 : decode cX0_ruleFit 46 = .ok (.imul, 1) := by decide +kernel
theorem dX0_ruleFit_47 : decode cX0_ruleFit 47 = .ok (.iload_n 2, 1) := by decide +kernel
theorem dX0_ruleFit_48 : decode cX0_ruleFit 48 = .ok (.bipush 7, 2) := by decide +kernel
theorem dX0_ruleFit_50 : decode cX0_ruleFit 50 = .ok (.imul, 1) := by decide +kernel
theorem dX0_ruleFit_51 : decode cX0_ruleFit 51 = .ok (.iadd, 1) := by decide +kernel
theorem dX0_ruleFit_52 : decode cX0_ruleFit 52 = .ok (.iload_n 3, 1) := by decide +kernel
theorem dX0_ruleFit_53 : decode cX0_ruleFit 53 = .ok (.iadd, 1) := by decide +kernel
theorem dX0_ruleFit_54 : decode cX0_ruleFit 54 = .ok (.invokevirtual 50, 3) := by decide +kernel
theorem dX0_ruleFit_57 : decode cX0_ruleFit 57 = .ok (.lstore 6, 2) := by decide +kernel
theorem dX0_ruleFit_59 : decode cX0_ruleFit 59 = .ok (.iconst 1, 1) := by decide +kernel
theorem dX0_ruleFit_60 : decode cX0_ruleFit 60 = .ok (.istore 8, 2) := by decide +kernel
theorem dX0_ruleFit_62 : decode cX0_ruleFit 62 = .ok (.iload 8, 2) := by decide +kernel
theorem dX0_ruleFit_64 : decode cX0_ruleFit 64 = .ok (.iload 4, 2) := by decide +kernel
theorem dX0_ruleFit_66 : decode cX0_ruleFit 66 = .ok (.if_icmp .ge 122, 3) := by decide +kernel
theorem dX0_ruleFit_69 : decode cX0_ruleFit 69 = .ok (.iload 5, 2) := by decide +kernel
theorem dX0_ruleFit_71 : decode cX0_ruleFit 71 = .ok (.bipush 49, 2) := by decide +kernel
theorem dX0_ruleFit_73 : decode cX0_ruleFit 73 = .ok (.imul, 1) := by decide +kernel
theorem dX0_ruleFit_74 : decode cX0_ruleFit 74 = .ok (.iload_n 2, 1) := by decide +kernel
theorem dX0_ruleFit_75 : decode cX0_ruleFit 75 = .ok (.bipush 7, 2) := by decide +kernel
theorem dX0_ruleFit_77 : decode cX0_ruleFit 77 = .ok (.imul, 1) := by decide +kernel
theorem dX0_ruleFit_78 : decode cX0_ruleFit 78 = .ok (.iadd, 1) := by decide +kernel
theorem dX0_ruleFit_79 : decode cX0_ruleFit 79 = .ok (.iload_n 2, 1) := by decide +kernel
theorem dX0_ruleFit_80 : decode cX0_ruleFit 80 = .ok (.iadd, 1) := by decide +kernel
theorem dX0_ruleFit_81 : decode cX0_ruleFit 81 = .ok (.istore 9, 2) := by decide +kernel
theorem dX0_ruleFit_83 : decode cX0_ruleFit 83 = .ok (.aload_n 0, 1) := by decide +kernel
theorem dX0_ruleFit_84 : decode cX0_ruleFit 84 = .ok (.getfield 21, 3) := by decide +kernel
theorem dX0_ruleFit_87 : decode cX0_ruleFit 87 = .ok (.iload_n 1, 1) := by decide +kernel
theorem dX0_ruleFit_88 : decode cX0_ruleFit 88 = .ok (.iload 8, 2) := by decide +kernel
theorem dX0_ruleFit_90 : decode cX0_ruleFit 90 = .ok (.invokevirtual 73, 3) := by decide +kernel
theorem dX0_ruleFit_93 : decode cX0_ruleFit 93 = .ok (.bipush 49, 2) := by decide +kernel
theorem dX0_ruleFit_95 : decode cX0_ruleFit 95 = .ok (.imul, 1) := by decide +kernel
theorem dX0_ruleFit_96 : decode cX0_ruleFit 96 = .ok (.iload_n 2, 1) := by decide +kernel
theorem dX0_ruleFit_97 : decode cX0_ruleFit 97 = .ok (.bipush 7, 2) := by decide +kernel
theorem dX0_ruleFit_99 : decode cX0_ruleFit 99 = .ok (.imul, 1) := by decide +kernel
theorem dX0_ruleFit_100 : decode cX0_ruleFit 100 = .ok (.iadd, 1) := by decide +kernel
theorem dX0_ruleFit_101 : decode cX0_ruleFit 101 = .ok (.iload_n 3, 1) := by decide +kernel
theorem dX0_ruleFit_102 : decode cX0_ruleFit 102 = .ok (.iadd, 1) := by decide +kernel
theorem dX0_ruleFit_103 : decode cX0_ruleFit 103 = .ok (.istore 10, 2) := by decide +kernel
theorem dX0_ruleFit_105 : decode cX0_ruleFit 105 = .ok (.ldc2_w 64, 3) := by decide +kernel
theorem dX0_ruleFit_108 : decode cX0_ruleFit 108 = .ok (.lstore 6, 2) := by decide +kernel
theorem dX0_ruleFit_110 : decode cX0_ruleFit 110 = .ok (.iload_n 2, 1) := by decide +kernel
theorem dX0_ruleFit_111 : decode cX0_ruleFit 111 = .ok (.istore 11, 2) := by decide +kernel
theorem dX0_ruleFit_113 : decode cX0_ruleFit 113 = .ok (.iload 11, 2) := by decide +kernel
theorem dX0_ruleFit_115 : decode cX0_ruleFit 115 = .ok (.iload_n 3, 1) := by decide +kernel
theorem dX0_ruleFit_116 : decode cX0_ruleFit 116 = .ok (.if_icmp .gt 34, 3) := by decide +kernel
theorem dX0_ruleFit_119 : decode cX0_ruleFit 119 = .ok (.lload 6, 2) := by decide +kernel
theorem dX0_ruleFit_121 : decode cX0_ruleFit 121 = .ok (.aload_n 0, 1) := by decide +kernel
theorem dX0_ruleFit_122 : decode cX0_ruleFit 122 = .ok (.iload 9, 2) := by decide +kernel
theorem dX0_ruleFit_124 : decode cX0_ruleFit 124 = .ok (.invokevirtual 50, 3) := by decide +kernel
theorem dX0_ruleFit_127 : decode cX0_ruleFit 127 = .ok (.aload_n 0, 1) := by decide +kernel
theorem dX0_ruleFit_128 : decode cX0_ruleFit 128 = .ok (.iload 10, 2) := by decide +kernel
theorem dX0_ruleFit_130 : decode cX0_ruleFit 130 = .ok (.invokevirtual 50, 3) := by decide +kernel
theorem dX0_ruleFit_133 : decode cX0_ruleFit 133 = .ok (.invokestatic 125, 3) := by decide +kernel
theorem dX0_ruleFit_136 : decode cX0_ruleFit 136 = .ok (.lstore 6, 2) := by decide +kernel
theorem dX0_ruleFit_138 : decode cX0_ruleFit 138 = .ok (.iinc 9 1, 3) := by decide +kernel
theorem dX0_ruleFit_141 : decode cX0_ruleFit 141 = .ok (.iinc 10 7, 3) := by decide +kernel
theorem dX0_ruleFit_144 : decode cX0_ruleFit 144 = .ok (.iinc 11 1, 3) := by decide +kernel
theorem dX0_ruleFit_147 : decode cX0_ruleFit 147 = .ok (.goto (-34), 3) := by decide +kernel
theorem dX0_ruleFit_150 : decode cX0_ruleFit 150 = .ok (.bipush 10, 2) := by decide +kernel
theorem dX0_ruleFit_152 : decode cX0_ruleFit 152 = .ok (.iload_n 1, 1) := by decide +kernel
theorem dX0_ruleFit_153 : decode cX0_ruleFit 153 = .ok (.iconst 2, 1) := by decide +kernel
theorem dX0_ruleFit_154 : decode cX0_ruleFit 154 = .ok (.imul, 1) := by decide +kernel
theorem dX0_ruleFit_155 : decode cX0_ruleFit 155 = .ok (.iadd, 1) := by decide +kernel
theorem dX0_ruleFit_156 : decode cX0_ruleFit 156 = .ok (.iload 8, 2) := by decide +kernel
theorem dX0_ruleFit_158 : decode cX0_ruleFit 158 = .ok (.iadd, 1) := by decide +kernel
theorem dX0_ruleFit_159 : decode cX0_ruleFit 159 = .ok (.iconst 1, 1) := by decide +kernel
theorem dX0_ruleFit_160 : decode cX0_ruleFit 160 = .ok (.isub, 1) := by decide +kernel
theorem dX0_ruleFit_161 : decode cX0_ruleFit 161 = .ok (.istore 5, 2) := by decide +kernel
theorem dX0_ruleFit_163 : decode cX0_ruleFit 163 = .ok (.iload 8, 2) := by decide +kernel
theorem dX0_ruleFit_165 : decode cX0_ruleFit 165 = .ok (.iconst 1, 1) := by decide +kernel
theorem dX0_ruleFit_166 : decode cX0_ruleFit 166 = .ok (.iadd, 1) := by decide +kernel
theorem dX0_ruleFit_167 : decode cX0_ruleFit 167 = .ok (.iload 4, 2) := by decide +kernel
theorem dX0_ruleFit_169 : decode cX0_ruleFit 169 = .ok (.if_icmp .ge 13, 3) := by decide +kernel
theorem dX0_ruleFit_172 : decode cX0_ruleFit 172 = .ok (.aload_n 0, 1) := by decide +kernel
theorem dX0_ruleFit_173 : decode cX0_ruleFit 173 = .ok (.iload 5, 2) := by decide +kernel
theorem dX0_ruleFit_175 : decode cX0_ruleFit 175 = .ok (.iload_n 2, 1) := by decide +kernel
theorem dX0_ruleFit_176 : decode cX0_ruleFit 176 = .ok (.iload_n 3, 1) := by decide +kernel
theorem dX0_ruleFit_177 : decode cX0_ruleFit 177 = .ok (.lload 6, 2) := by decide +kernel
theorem dX0_ruleFit_179 : decode cX0_ruleFit 179 = .ok (.invokevirtual 102, 3) := by decide +kernel
theorem dX0_ruleFit_182 : decode cX0_ruleFit 182 = .ok (.iinc 8 1, 3) := by decide +kernel
theorem dX0_ruleFit_185 : decode cX0_ruleFit 185 = .ok (.goto (-123), 3) := by decide +kernel
theorem dX0_ruleFit_188 : decode cX0_ruleFit 188 = .ok (.lload 6, 2) := by decide +kernel
theorem dX0_ruleFit_190 : decode cX0_ruleFit 190 = .ok (.lreturn, 1) := by decide +kernel
theorem dX1_init_0 : decode cX1_init 0 = .ok (.aload_n 0, 1) := by decide +kernel
theorem dX1_init_1 : decode cX1_init 1 = .ok (.invokespecial 1, 3) := by decide +kernel
theorem dX1_init_4 : decode cX1_init 4 = .ok (.aload_n 0, 1) := by decide +kernel
theorem dX1_init_5 : decode cX1_init 5 = .ok (.iconst 3, 1) := by decide +kernel
theorem dX1_init_6 : decode cX1_init 6 = .ok (.newarray .int, 2) := by decide +kernel
theorem dX1_init_8 : decode cX1_init 8 = .ok (.dup, 1) := by decide +kernel
theorem dX1_init_9 : decode cX1_init 9 = .ok (.iconst 0, 1) := by decide +kernel
theorem dX1_init_10 : decode cX1_init 10 = .ok (.iconst 1, 1) := by decide +kernel
theorem dX1_init_11 : decode cX1_init 11 = .ok (.iastore, 1) := by decide +kernel
theorem dX1_init_12 : decode cX1_init 12 = .ok (.dup, 1) := by decide +kernel
theorem dX1_init_13 : decode cX1_init 13 = .ok (.iconst 1, 1) := by decide +kernel
theorem dX1_init_14 : decode cX1_init 14 = .ok (.iconst 1, 1) := by decide +kernel
theorem dX1_init_15 : decode cX1_init 15 = .ok (.iastore, 1) := by decide +kernel
theorem dX1_init_16 : decode cX1_init 16 = .ok (.dup, 1) := by decide +kernel
theorem dX1_init_17 : decode cX1_init 17 = .ok (.iconst 2, 1) := by decide +kernel
theorem dX1_init_18 : decode cX1_init 18 = .ok (.iconst 1, 1) := by decide +kernel
theorem dX1_init_19 : decode cX1_init 19 = .ok (.iastore, 1) := by decide +kernel
theorem dX1_init_20 : decode cX1_init 20 = .ok (.putfield 7, 3) := by decide +kernel
theorem dX1_init_23 : decode cX1_init 23 = .ok (.return_, 1) := by decide +kernel
theorem dX1_of_0 : decode cX1_of 0 = .ok (.iload_n 1, 1) := by decide +kernel
theorem dX1_of_1 : decode cX1_of 1 = .ok (.ifCond .lt 17, 3) := by decide +kernel
theorem dX1_of_4 : decode cX1_of 4 = .ok (.iload_n 1, 1) := by decide +kernel
theorem dX1_of_5 : decode cX1_of 5 = .ok (.iconst 3, 1) := by decide +kernel
theorem dX1_of_6 : decode cX1_of 6 = .ok (.if_icmp .ge 12, 3) := by decide +kernel
theorem dX1_of_9 : decode cX1_of 9 = .ok (.aload_n 0, 1) := by decide +kernel
theorem dX1_of_10 : decode cX1_of 10 = .ok (.getfield 7, 3) := by decide +kernel
theorem dX1_of_13 : decode cX1_of 13 = .ok (.iload_n 1, 1) := by decide +kernel
theorem dX1_of_14 : decode cX1_of 14 = .ok (.iaload, 1) := by decide +kernel
theorem dX1_of_15 : decode cX1_of 15 = .ok (.goto 4, 3) := by decide +kernel
theorem dX1_of_18 : decode cX1_of 18 = .ok (.iconst 1, 1) := by decide +kernel
theorem dX1_of_19 : decode cX1_of 19 = .ok (.ireturn, 1) := by decide +kernel
theorem dX1_set_0 : decode cX1_set 0 = .ok (.iload_n 1, 1) := by decide +kernel
theorem dX1_set_1 : decode cX1_set 1 = .ok (.ifCond .lt 15, 3) := by decide +kernel
theorem dX1_set_4 : decode cX1_set 4 = .ok (.iload_n 1, 1) := by decide +kernel
theorem dX1_set_5 : decode cX1_set 5 = .ok (.iconst 3, 1) := by decide +kernel
theorem dX1_set_6 : decode cX1_set 6 = .ok (.if_icmp .ge 10, 3) := by decide +kernel
theorem dX1_set_9 : decode cX1_set 9 = .ok (.aload_n 0, 1) := by decide +kernel
theorem dX1_set_10 : decode cX1_set 10 = .ok (.getfield 7, 3) := by decide +kernel
theorem dX1_set_13 : decode cX1_set 13 = .ok (.iload_n 1, 1) := by decide +kernel
theorem dX1_set_14 : decode cX1_set 14 = .ok (.iload_n 2, 1) := by decide +kernel
theorem dX1_set_15 : decode cX1_set 15 = .ok (.iastore, 1) := by decide +kernel
theorem dX1_set_16 : decode cX1_set 16 = .ok (.return_, 1) := by decide +kernel
theorem dX1_drop_0 : decode cX1_drop 0 = .ok (.aload_n 0, 1) := by decide +kernel
theorem dX1_drop_1 : decode cX1_drop 1 = .ok (.getfield 7, 3) := by decide +kernel
theorem dX1_drop_4 : decode cX1_drop 4 = .ok (.iconst 0, 1) := by decide +kernel
theorem dX1_drop_5 : decode cX1_drop 5 = .ok (.iaload, 1) := by decide +kernel
theorem dX1_drop_6 : decode cX1_drop 6 = .ok (.ireturn, 1) := by decide +kernel
theorem dX1_put_0 : decode cX1_put 0 = .ok (.aload_n 0, 1) := by decide +kernel
theorem dX1_put_1 : decode cX1_put 1 = .ok (.getfield 7, 3) := by decide +kernel
theorem dX1_put_4 : decode cX1_put 4 = .ok (.iconst 1, 1) := by decide +kernel
theorem dX1_put_5 : decode cX1_put 5 = .ok (.iaload, 1) := by decide +kernel
theorem dX1_put_6 : decode cX1_put 6 = .ok (.ireturn, 1) := by decide +kernel
theorem dX1_change_0 : decode cX1_change 0 = .ok (.aload_n 0, 1) := by decide +kernel
theorem dX1_change_1 : decode cX1_change 1 = .ok (.getfield 7, 3) := by decide +kernel
theorem dX1_change_4 : decode cX1_change 4 = .ok (.iconst 2, 1) := by decide +kernel
theorem dX1_change_5 : decode cX1_change 5 = .ok (.iaload, 1) := by decide +kernel
theorem dX1_change_6 : decode cX1_change 6 = .ok (.ireturn, 1) := by decide +kernel
set_option maxRecDepth 20000 in
theorem ggX2_init_X10_init : GoodIn wsX2_init wsX10_init := goodIn_r _ [12, 13, 2, 3, 14, 15, 16, 20, 21] (by decide +kernel) (by decide +kernel)
set_option maxRecDepth 20000 in
theorem gX2_init_X10_init : GoodIn wsX2_init (wsX10_init) := ggX2_init_X10_init
theorem dX2_init_0 : decode cX2_init 0 = .ok (.aload_n 0, 1) := by decide +kernel
theorem dX2_init_1 : decode cX2_init 1 = .ok (.invokespecial 3, 3) := by decide +kernel
theorem dX2_init_4 : decode cX2_init 4 = .ok (.aload_n 0, 1) := by decide +kernel
theorem dX2_init_5 : decode cX2_init 5 = .ok (.iconst 3, 1) := by decide +kernel
theorem dX2_init_6 : decode cX2_init 6 = .ok (.anewarray 9, 3) := by decide +kernel
theorem dX2_init_9 : decode cX2_init 9 = .ok (.putfield 11, 3) := by decide +kernel
theorem dX2_init_12 : decode cX2_init 12 = .ok (.aload_n 0, 1) := by decide +kernel
theorem dX2_init_13 : decode cX2_init 13 = .ok (.new 9, 3) := by decide +kernel
theorem dX2_init_16 : decode cX2_init 16 = .ok (.dup, 1) := by decide +kernel
theorem dX2_init_17 : decode cX2_init 17 = .ok (.iconst 0, 1) := by decide +kernel
theorem dX2_init_18 : decode cX2_init 18 = .ok (.invokespecial 17, 3) := by decide +kernel
theorem dX2_init_21 : decode cX2_init 21 = .ok (.putfield 20, 3) := by decide +kernel
theorem dX2_init_24 : decode cX2_init 24 = .ok (.aload_n 0, 1) := by decide +kernel
theorem dX2_init_25 : decode cX2_init 25 = .ok (.iconst 0, 1) := by decide +kernel
theorem dX2_init_26 : decode cX2_init 26 = .ok (.putfield 24, 3) := by decide +kernel
theorem dX2_init_29 : decode cX2_init 29 = .ok (.iconst 0, 1) := by decide +kernel
theorem dX2_init_30 : decode cX2_init 30 = .ok (.istore_n 1, 1) := by decide +kernel
theorem dX2_init_31 : decode cX2_init 31 = .ok (.iload_n 1, 1) := by decide +kernel
theorem dX2_init_32 : decode cX2_init 32 = .ok (.iconst 3, 1) := by decide +kernel
theorem dX2_init_33 : decode cX2_init 33 = .ok (.if_icmp .ge 24, 3) := by decide +kernel
theorem dX2_init_36 : decode cX2_init 36 = .ok (.aload_n 0, 1) := by decide +kernel
theorem dX2_init_37 : decode cX2_init 37 = .ok (.getfield 11, 3) := by decide +kernel
theorem dX2_init_40 : decode cX2_init 40 = .ok (.iload_n 1, 1) := by decide +kernel
theorem dX2_init_41 : decode cX2_init 41 = .ok (.new 9, 3) := by decide +kernel
theorem dX2_init_44 : decode cX2_init 44 = .ok (.dup, 1) := by decide +kernel
theorem dX2_init_45 : decode cX2_init 45 = .ok (.bipush 6, 2) := by decide +kernel
theorem dX2_init_47 : decode cX2_init 47 = .ok (.invokespecial 17, 3) := by decide +kernel
theorem dX2_init_50 : decode cX2_init 50 = .ok (.aastore, 1) := by decide +kernel
theorem dX2_init_51 : decode cX2_init 51 = .ok (.iinc 1 1, 3) := by decide +kernel
theorem dX2_init_54 : decode cX2_init 54 = .ok (.goto (-23), 3) := by decide +kernel
theorem dX2_init_57 : decode cX2_init 57 = .ok (.return_, 1) := by decide +kernel
set_option maxRecDepth 20000 in
theorem ggX2_add_X2_at : GoodIn wsX2_add wsX2_at := goodIn_r _ [6, 7, 8, 9, 10, 11, 5, 12, 1, 32, 33, 34] (by decide +kernel) (by decide +kernel)
set_option maxRecDepth 20000 in
theorem gX2_add_X2_at : GoodIn wsX2_add (wsV RX2 28 RX2 yX2_at wsX2_at) := goodIn_app (goodIn_of _ (by decide +kernel)) ggX2_add_X2_at
set_option maxRecDepth 20000 in
theorem ggX2_add_X10_copy : GoodIn wsX2_add wsX10_copy := goodIn_r _ [17, 18, 19, 20, 21, 16, 22, 23, 24, 25, 26, 27, 28, 29, 30, 31, 35, 36] (by decide +kernel) (by decide +kernel)
set_option maxRecDepth 20000 in
theorem gX2_add_X10_copy : GoodIn wsX2_add (wsV RX2 32 RX10 yX10_copy wsX10_copy) := goodIn_app (goodIn_of _ (by decide +kernel)) ggX2_add_X10_copy
theorem dX2_add_0 : decode cX2_add 0 = .ok (.aload_n 0, 1) := by decide +kernel
theorem dX2_add_1 : decode cX2_add 1 = .ok (.getfield 24, 3) := by decide +kernel
theorem dX2_add_4 : decode cX2_add 4 = .ok (.iconst 3, 1) := by decide +kernel
theorem dX2_add_5 : decode cX2_add 5 = .ok (.if_icmp .lt 5, 3) := by decide +kernel
theorem dX2_add_8 : decode cX2_add 8 = .ok (.iconst 0, 1) := by decide +kernel
theorem dX2_add_9 : decode cX2_add 9 = .ok (.ireturn, 1) := by decide +kernel
theorem dX2_add_10 : decode cX2_add 10 = .ok (.aload_n 0, 1) := by decide +kernel
theorem dX2_add_11 : decode cX2_add 11 = .ok (.dup, 1) := by decide +kernel
theorem dX2_add_12 : decode cX2_add 12 = .ok (.getfield 24, 3) := by decide +kernel
theorem dX2_add_15 : decode cX2_add 15 = .ok (.iconst 1, 1) := by decide +kernel
theorem dX2_add_16 : decode cX2_add 16 = .ok (.iadd, 1) := by decide +kernel
theorem dX2_add_17 : decode cX2_add 17 = .ok (.putfield 24, 3) := by decide +kernel
theorem dX2_add_20 : decode cX2_add 20 = .ok (.aload_n 0, 1) := by decide +kernel
theorem dX2_add_21 : decode cX2_add 21 = .ok (.aload_n 0, 1) := by decide +kernel
theorem dX2_add_22 : decode cX2_add 22 = .ok (.getfield 24, 3) := by decide +kernel
theorem dX2_add_25 : decode cX2_add 25 = .ok (.iconst 1, 1) := by decide +kernel
theorem dX2_add_26 : decode cX2_add 26 = .ok (.isub, 1) := by decide +kernel
theorem dX2_add_27 : decode cX2_add 27 = .ok (.invokevirtual 28, 3) := by decide +kernel
theorem dX2_add_30 : decode cX2_add 30 = .ok (.aload_n 1, 1) := by decide +kernel
theorem dX2_add_31 : decode cX2_add 31 = .ok (.invokevirtual 32, 3) := by decide +kernel
theorem dX2_add_34 : decode cX2_add 34 = .ok (.iconst 1, 1) := by decide +kernel
theorem dX2_add_35 : decode cX2_add 35 = .ok (.ireturn, 1) := by decide +kernel
theorem dX2_has_0 : decode cX2_has 0 = .ok (.iload_n 1, 1) := by decide +kernel
theorem dX2_has_1 : decode cX2_has 1 = .ok (.ifCond .lt 20, 3) := by decide +kernel
theorem dX2_has_4 : decode cX2_has 4 = .ok (.iload_n 1, 1) := by decide +kernel
theorem dX2_has_5 : decode cX2_has 5 = .ok (.aload_n 0, 1) := by decide +kernel
theorem dX2_has_6 : decode cX2_has 6 = .ok (.getfield 24, 3) := by decide +kernel
theorem dX2_has_9 : decode cX2_has 9 = .ok (.if_icmp .ge 12, 3) := by decide +kernel
theorem dX2_has_12 : decode cX2_has 12 = .ok (.iload_n 1, 1) := by decide +kernel
theorem dX2_has_13 : decode cX2_has 13 = .ok (.iconst 3, 1) := by decide +kernel
theorem dX2_has_14 : decode cX2_has 14 = .ok (.if_icmp .ge 7, 3) := by decide +kernel
theorem dX2_has_17 : decode cX2_has 17 = .ok (.iconst 1, 1) := by decide +kernel
theorem dX2_has_18 : decode cX2_has 18 = .ok (.goto 4, 3) := by decide +kernel
theorem dX2_has_21 : decode cX2_has 21 = .ok (.iconst 0, 1) := by decide +kernel
theorem dX2_has_22 : decode cX2_has 22 = .ok (.ireturn, 1) := by decide +kernel
set_option maxRecDepth 20000 in
theorem ggX2_at_X2_has : GoodIn wsX2_at wsX2_has := goodIn_r _ [7, 8, 9, 10, 11] (by decide +kernel) (by decide +kernel)
set_option maxRecDepth 20000 in
theorem gX2_at_X2_has : GoodIn wsX2_at (wsV RX2 36 RX2 yX2_has wsX2_has) := goodIn_app (goodIn_of _ (by decide +kernel)) ggX2_at_X2_has
theorem dX2_at_0 : decode cX2_at 0 = .ok (.aload_n 0, 1) := by decide +kernel
theorem dX2_at_1 : decode cX2_at 1 = .ok (.iload_n 1, 1) := by decide +kernel
theorem dX2_at_2 : decode cX2_at 2 = .ok (.invokevirtual 36, 3) := by decide +kernel
theorem dX2_at_5 : decode cX2_at 5 = .ok (.ifCond .eq 21, 3) := by decide +kernel
theorem dX2_at_8 : decode cX2_at 8 = .ok (.aload_n 0, 1) := by decide +kernel
theorem dX2_at_9 : decode cX2_at 9 = .ok (.getfield 11, 3) := by decide +kernel
theorem dX2_at_12 : decode cX2_at 12 = .ok (.iload_n 1, 1) := by decide +kernel
theorem dX2_at_13 : decode cX2_at 13 = .ok (.aaload, 1) := by decide +kernel
theorem dX2_at_14 : decode cX2_at 14 = .ok (.ifnull 12, 3) := by decide +kernel
theorem dX2_at_17 : decode cX2_at 17 = .ok (.aload_n 0, 1) := by decide +kernel
theorem dX2_at_18 : decode cX2_at 18 = .ok (.getfield 11, 3) := by decide +kernel
theorem dX2_at_21 : decode cX2_at 21 = .ok (.iload_n 1, 1) := by decide +kernel
theorem dX2_at_22 : decode cX2_at 22 = .ok (.aaload, 1) := by decide +kernel
theorem dX2_at_23 : decode cX2_at 23 = .ok (.goto 7, 3) := by decide +kernel
theorem dX2_at_26 : decode cX2_at 26 = .ok (.aload_n 0, 1) := by decide +kernel
theorem dX2_at_27 : decode cX2_at 27 = .ok (.getfield 20, 3) := by decide +kernel
theorem dX2_at_30 : decode cX2_at 30 = .ok (.areturn, 1) := by decide +kernel
theorem dX3_ofNone_0 : decode cX3_ofNone 0 = .ok (.iload_n 0, 1) := by decide +kernel
theorem dX3_ofNone_1 : decode cX3_ofNone 1 = .ok (.i2l, 1) := by decide +kernel
theorem dX3_ofNone_2 : decode cX3_ofNone 2 = .ok (.bipush 43, 2) := by decide +kernel
theorem dX3_ofNone_4 : decode cX3_ofNone 4 = .ok (.lshl, 1) := by decide +kernel
theorem dX3_ofNone_5 : decode cX3_ofNone 5 = .ok (.lreturn, 1) := by decide +kernel
theorem dX3_ofOne_0 : decode cX3_ofOne 0 = .ok (.iload_n 0, 1) := by decide +kernel
theorem dX3_ofOne_1 : decode cX3_ofOne 1 = .ok (.i2l, 1) := by decide +kernel
theorem dX3_ofOne_2 : decode cX3_ofOne 2 = .ok (.bipush 43, 2) := by decide +kernel
theorem dX3_ofOne_4 : decode cX3_ofOne 4 = .ok (.lshl, 1) := by decide +kernel
theorem dX3_ofOne_5 : decode cX3_ofOne 5 = .ok (.ldc2_w 11, 3) := by decide +kernel
theorem dX3_ofOne_8 : decode cX3_ofOne 8 = .ok (.lor, 1) := by decide +kernel
theorem dX3_ofOne_9 : decode cX3_ofOne 9 = .ok (.iload_n 1, 1) := by decide +kernel
theorem dX3_ofOne_10 : decode cX3_ofOne 10 = .ok (.i2l, 1) := by decide +kernel
theorem dX3_ofOne_11 : decode cX3_ofOne 11 = .ok (.lor, 1) := by decide +kernel
theorem dX3_ofOne_12 : decode cX3_ofOne 12 = .ok (.lreturn, 1) := by decide +kernel
theorem dX3_costOf_0 : decode cX3_costOf 0 = .ok (.lload_n 0, 1) := by decide +kernel
theorem dX3_costOf_1 : decode cX3_costOf 1 = .ok (.bipush 43, 2) := by decide +kernel
theorem dX3_costOf_3 : decode cX3_costOf 3 = .ok (.lshr, 1) := by decide +kernel
theorem dX3_costOf_4 : decode cX3_costOf 4 = .ok (.l2i, 1) := by decide +kernel
theorem dX3_costOf_5 : decode cX3_costOf 5 = .ok (.ireturn, 1) := by decide +kernel
theorem dX3_lengthOf_0 : decode cX3_lengthOf 0 = .ok (.lload_n 0, 1) := by decide +kernel
theorem dX3_lengthOf_1 : decode cX3_lengthOf 1 = .ok (.bipush 24, 2) := by decide +kernel
theorem dX3_lengthOf_3 : decode cX3_lengthOf 3 = .ok (.lshr, 1) := by decide +kernel
theorem dX3_lengthOf_4 : decode cX3_lengthOf 4 = .ok (.ldc2_w 13, 3) := by decide +kernel
theorem dX3_lengthOf_7 : decode cX3_lengthOf 7 = .ok (.land, 1) := by decide +kernel
theorem dX3_lengthOf_8 : decode cX3_lengthOf 8 = .ok (.l2i, 1) := by decide +kernel
theorem dX3_lengthOf_9 : decode cX3_lengthOf 9 = .ok (.ireturn, 1) := by decide +kernel
set_option maxRecDepth 20000 in
theorem ggX3_letterAt_X3_lengthOf : GoodIn wsX3_letterAt wsX3_lengthOf := goodIn_r _ [4, 5] (by decide +kernel) (by decide +kernel)
set_option maxRecDepth 20000 in
theorem gX3_letterAt_X3_lengthOf : GoodIn wsX3_letterAt (va_wsS RX3 15 yX3_lengthOf wsX3_lengthOf) := goodIn_app (goodIn_of _ (by decide +kernel)) ggX3_letterAt_X3_lengthOf
theorem dX3_letterAt_0 : decode cX3_letterAt 0 = .ok (.lload_n 0, 1) := by decide +kernel
theorem dX3_letterAt_1 : decode cX3_letterAt 1 = .ok (.iconst 2, 1) := by decide +kernel
theorem dX3_letterAt_2 : decode cX3_letterAt 2 = .ok (.lload_n 0, 1) := by decide +kernel
theorem dX3_letterAt_3 : decode cX3_letterAt 3 = .ok (.invokestatic 15, 3) := by decide +kernel
theorem dX3_letterAt_6 : decode cX3_letterAt 6 = .ok (.iconst 1, 1) := by decide +kernel
theorem dX3_letterAt_7 : decode cX3_letterAt 7 = .ok (.isub, 1) := by decide +kernel
theorem dX3_letterAt_8 : decode cX3_letterAt 8 = .ok (.iload_n 2, 1) := by decide +kernel
theorem dX3_letterAt_9 : decode cX3_letterAt 9 = .ok (.isub, 1) := by decide +kernel
theorem dX3_letterAt_10 : decode cX3_letterAt 10 = .ok (.imul, 1) := by decide +kernel
theorem dX3_letterAt_11 : decode cX3_letterAt 11 = .ok (.lshr, 1) := by decide +kernel
theorem dX3_letterAt_12 : decode cX3_letterAt 12 = .ok (.l2i, 1) := by decide +kernel
theorem dX3_letterAt_13 : decode cX3_letterAt 13 = .ok (.iconst 3, 1) := by decide +kernel
theorem dX3_letterAt_14 : decode cX3_letterAt 14 = .ok (.iand, 1) := by decide +kernel
theorem dX3_letterAt_15 : decode cX3_letterAt 15 = .ok (.ireturn, 1) := by decide +kernel
theorem dX3_lesser_0 : decode cX3_lesser 0 = .ok (.lload_n 2, 1) := by decide +kernel
theorem dX3_lesser_1 : decode cX3_lesser 1 = .ok (.ldc2_w 19, 3) := by decide +kernel
theorem dX3_lesser_4 : decode cX3_lesser 4 = .ok (.lcmp, 1) := by decide +kernel
theorem dX3_lesser_5 : decode cX3_lesser 5 = .ok (.ifCond .eq 12, 3) := by decide +kernel
theorem dX3_lesser_8 : decode cX3_lesser 8 = .ok (.lload 4, 2) := by decide +kernel
theorem dX3_lesser_10 : decode cX3_lesser 10 = .ok (.ldc2_w 19, 3) := by decide +kernel
theorem dX3_lesser_13 : decode cX3_lesser 13 = .ok (.lcmp, 1) := by decide +kernel
theorem dX3_lesser_14 : decode cX3_lesser 14 = .ok (.ifCond .ne 5, 3) := by decide +kernel
theorem dX3_lesser_17 : decode cX3_lesser 17 = .ok (.lload_n 0, 1) := by decide +kernel
theorem dX3_lesser_18 : decode cX3_lesser 18 = .ok (.lreturn, 1) := by decide +kernel
theorem dX3_lesser_19 : decode cX3_lesser 19 = .ok (.lload_n 2, 1) := by decide +kernel
theorem dX3_lesser_20 : decode cX3_lesser 20 = .ok (.ldc2_w 21, 3) := by decide +kernel
theorem dX3_lesser_23 : decode cX3_lesser 23 = .ok (.land, 1) := by decide +kernel
theorem dX3_lesser_24 : decode cX3_lesser 24 = .ok (.lload 4, 2) := by decide +kernel
theorem dX3_lesser_26 : decode cX3_lesser 26 = .ok (.ldc2_w 21, 3) := by decide +kernel
theorem dX3_lesser_29 : decode cX3_lesser 29 = .ok (.land, 1) := by decide +kernel
theorem dX3_lesser_30 : decode cX3_lesser 30 = .ok (.ladd, 1) := by decide +kernel
theorem dX3_lesser_31 : decode cX3_lesser 31 = .ok (.lstore 6, 2) := by decide +kernel
theorem dX3_lesser_33 : decode cX3_lesser 33 = .ok (.lload 6, 2) := by decide +kernel
theorem dX3_lesser_35 : decode cX3_lesser 35 = .ok (.lload_n 0, 1) := by decide +kernel
theorem dX3_lesser_36 : decode cX3_lesser 36 = .ok (.lcmp, 1) := by decide +kernel
theorem dX3_lesser_37 : decode cX3_lesser 37 = .ok (.ifCond .le 5, 3) := by decide +kernel
theorem dX3_lesser_40 : decode cX3_lesser 40 = .ok (.lload_n 0, 1) := by decide +kernel
theorem dX3_lesser_41 : decode cX3_lesser 41 = .ok (.lreturn, 1) := by decide +kernel
theorem dX3_lesser_42 : decode cX3_lesser 42 = .ok (.lload 6, 2) := by decide +kernel
theorem dX3_lesser_44 : decode cX3_lesser 44 = .ok (.bipush 24, 2) := by decide +kernel
theorem dX3_lesser_46 : decode cX3_lesser 46 = .ok (.lshr, 1) := by decide +kernel
theorem dX3_lesser_47 : decode cX3_lesser 47 = .ok (.ldc2_w 13, 3) := by decide +kernel
theorem dX3_lesser_50 : decode cX3_lesser 50 = .ok (.land, 1) := by decide +kernel
theorem dX3_lesser_51 : decode cX3_lesser 51 = .ok (.ldc2_w 23, 3) := by decide +kernel
theorem dX3_lesser_54 : decode cX3_lesser 54 = .ok (.lcmp, 1) := by decide +kernel
theorem dX3_lesser_55 : decode cX3_lesser 55 = .ok (.ifCond .gt 39, 3) := by decide +kernel
theorem dX3_lesser_58 : decode cX3_lesser 58 = .ok (.ldc2_w 25, 3) := by decide +kernel
theorem dX3_lesser_61 : decode cX3_lesser 61 = .ok (.lload 4, 2) := by decide +kernel
theorem dX3_lesser_63 : decode cX3_lesser 63 = .ok (.bipush 24, 2) := by decide +kernel
theorem dX3_lesser_65 : decode cX3_lesser 65 = .ok (.lshr, 1) := by decide +kernel
theorem dX3_lesser_66 : decode cX3_lesser 66 = .ok (.ldc2_w 13, 3) := by decide +kernel
theorem dX3_lesser_69 : decode cX3_lesser 69 = .ok (.land, 1) := by decide +kernel
theorem dX3_lesser_70 : decode cX3_lesser 70 = .ok (.lmul, 1) := by decide +kernel
theorem dX3_lesser_71 : decode cX3_lesser 71 = .ok (.lstore 8, 2) := by decide +kernel
theorem dX3_lesser_73 : decode cX3_lesser 73 = .ok (.lload 6, 2) := by decide +kernel
theorem dX3_lesser_75 : decode cX3_lesser 75 = .ok (.lload_n 2, 1) := by decide +kernel
theorem dX3_lesser_76 : decode cX3_lesser 76 = .ok (.ldc2_w 27, 3) := by decide +kernel
theorem dX3_lesser_79 : decode cX3_lesser 79 = .ok (.land, 1) := by decide +kernel
theorem dX3_lesser_80 : decode cX3_lesser 80 = .ok (.lload 8, 2) := by decide +kernel
theorem dX3_lesser_82 : decode cX3_lesser 82 = .ok (.l2i, 1) := by decide +kernel
theorem dX3_lesser_83 : decode cX3_lesser 83 = .ok (.lshl, 1) := by decide +kernel
theorem dX3_lesser_84 : decode cX3_lesser 84 = .ok (.lload 4, 2) := by decide +kernel
theorem dX3_lesser_86 : decode cX3_lesser 86 = .ok (.ldc2_w 27, 3) := by decide +kernel
theorem dX3_lesser_89 : decode cX3_lesser 89 = .ok (.land, 1) := by decide +kernel
theorem dX3_lesser_90 : decode cX3_lesser 90 = .ok (.lor, 1) := by decide +kernel
theorem dX3_lesser_91 : decode cX3_lesser 91 = .ok (.lor, 1) := by decide +kernel
theorem dX3_lesser_92 : decode cX3_lesser 92 = .ok (.lstore 6, 2) := by decide +kernel
theorem dX3_lesser_94 : decode cX3_lesser 94 = .ok (.lload 6, 2) := by decide +kernel
theorem dX3_lesser_96 : decode cX3_lesser 96 = .ok (.lload_n 0, 1) := by decide +kernel
theorem dX3_lesser_97 : decode cX3_lesser 97 = .ok (.lcmp, 1) := by decide +kernel
theorem dX3_lesser_98 : decode cX3_lesser 98 = .ok (.ifCond .ge 8, 3) := by decide +kernel
theorem dX3_lesser_101 : decode cX3_lesser 101 = .ok (.lload 6, 2) := by decide +kernel
theorem dX3_lesser_103 : decode cX3_lesser 103 = .ok (.goto 4, 3) := by decide +kernel
theorem dX3_lesser_106 : decode cX3_lesser 106 = .ok (.lload_n 0, 1) := by decide +kernel
theorem dX3_lesser_107 : decode cX3_lesser 107 = .ok (.lreturn, 1) := by decide +kernel
theorem dX4_init_0 : decode cX4_init 0 = .ok (.aload_n 0, 1) := by decide +kernel
theorem dX4_init_1 : decode cX4_init 1 = .ok (.invokespecial 5, 3) := by decide +kernel
theorem dX4_init_4 : decode cX4_init 4 = .ok (.aload_n 0, 1) := by decide +kernel
theorem dX4_init_5 : decode cX4_init 5 = .ok (.bipush 6, 2) := by decide +kernel
theorem dX4_init_7 : decode cX4_init 7 = .ok (.newarray .int, 2) := by decide +kernel
theorem dX4_init_9 : decode cX4_init 9 = .ok (.putfield 11, 3) := by decide +kernel
theorem dX4_init_12 : decode cX4_init 12 = .ok (.aload_n 0, 1) := by decide +kernel
theorem dX4_init_13 : decode cX4_init 13 = .ok (.bipush 25, 2) := by decide +kernel
theorem dX4_init_15 : decode cX4_init 15 = .ok (.newarray .int, 2) := by decide +kernel
theorem dX4_init_17 : decode cX4_init 17 = .ok (.putfield 15, 3) := by decide +kernel
theorem dX4_init_20 : decode cX4_init 20 = .ok (.aload_n 0, 1) := by decide +kernel
theorem dX4_init_21 : decode cX4_init 21 = .ok (.bipush 100, 2) := by decide +kernel
theorem dX4_init_23 : decode cX4_init 23 = .ok (.newarray .int, 2) := by decide +kernel
theorem dX4_init_25 : decode cX4_init 25 = .ok (.putfield 18, 3) := by decide +kernel
theorem dX4_init_28 : decode cX4_init 28 = .ok (.aload_n 0, 1) := by decide +kernel
theorem dX4_init_29 : decode cX4_init 29 = .ok (.iconst 0, 1) := by decide +kernel
theorem dX4_init_30 : decode cX4_init 30 = .ok (.putfield 21, 3) := by decide +kernel
theorem dX4_init_33 : decode cX4_init 33 = .ok (.aload_n 0, 1) := by decide +kernel
theorem dX4_init_34 : decode cX4_init 34 = .ok (.iconst 0, 1) := by decide +kernel
theorem dX4_init_35 : decode cX4_init 35 = .ok (.putfield 25, 3) := by decide +kernel
theorem dX4_init_38 : decode cX4_init 38 = .ok (.aload_n 0, 1) := by decide +kernel
theorem dX4_init_39 : decode cX4_init 39 = .ok (.iconst 0, 1) := by decide +kernel
theorem dX4_init_40 : decode cX4_init 40 = .ok (.putfield 28, 3) := by decide +kernel
theorem dX4_init_43 : decode cX4_init 43 = .ok (.aload_n 0, 1) := by decide +kernel
theorem dX4_init_44 : decode cX4_init 44 = .ok (.iconst (-1), 1) := by decide +kernel
theorem dX4_init_45 : decode cX4_init 45 = .ok (.putfield 31, 3) := by decide +kernel
theorem dX4_init_48 : decode cX4_init 48 = .ok (.return_, 1) := by decide +kernel
set_option maxRecDepth 20000 in
theorem ggX4_clear_J7_fill_53178 : GoodIn wsX4_clear wsJ7_fill_53178 := goodIn_r _ [8] (by decide +kernel) (by decide +kernel)
set_option maxRecDepth 20000 in
theorem gX4_clear_J7_fill_53178 : GoodIn wsX4_clear (va_wsS RX4 34 yJ7_fill_53178 wsJ7_fill_53178) := goodIn_app (goodIn_of _ (by decide +kernel)) ggX4_clear_J7_fill_53178
theorem dX4_clear_0 : decode cX4_clear 0 = .ok (.aload_n 0, 1) := by decide +kernel
theorem dX4_clear_1 : decode cX4_clear 1 = .ok (.getfield 11, 3) := by decide +kernel
theorem dX4_clear_4 : decode cX4_clear 4 = .ok (.iconst 0, 1) := by decide +kernel
theorem dX4_clear_5 : decode cX4_clear 5 = .ok (.invokestatic 34, 3) := by decide +kernel
theorem dX4_clear_8 : decode cX4_clear 8 = .ok (.aload_n 0, 1) := by decide +kernel
theorem dX4_clear_9 : decode cX4_clear 9 = .ok (.iconst 0, 1) := by decide +kernel
theorem dX4_clear_10 : decode cX4_clear 10 = .ok (.putfield 21, 3) := by decide +kernel
theorem dX4_clear_13 : decode cX4_clear 13 = .ok (.aload_n 0, 1) := by decide +kernel
theorem dX4_clear_14 : decode cX4_clear 14 = .ok (.iconst 0, 1) := by decide +kernel
theorem dX4_clear_15 : decode cX4_clear 15 = .ok (.putfield 25, 3) := by decide +kernel
theorem dX4_clear_18 : decode cX4_clear 18 = .ok (.aload_n 0, 1) := by decide +kernel
theorem dX4_clear_19 : decode cX4_clear 19 = .ok (.iconst 0, 1) := by decide +kernel
theorem dX4_clear_20 : decode cX4_clear 20 = .ok (.putfield 28, 3) := by decide +kernel
theorem dX4_clear_23 : decode cX4_clear 23 = .ok (.return_, 1) := by decide +kernel
theorem dX4_copy_0 : decode cX4_copy 0 = .ok (.aload_n 1, 1) := by decide +kernel
theorem dX4_copy_1 : decode cX4_copy 1 = .ok (.getfield 11, 3) := by decide +kernel
theorem dX4_copy_4 : decode cX4_copy 4 = .ok (.iconst 0, 1) := by decide +kernel
theorem dX4_copy_5 : decode cX4_copy 5 = .ok (.aload_n 0, 1) := by decide +kernel
theorem dX4_copy_6 : decode cX4_copy 6 = .ok (.getfield 11, 3) := by decide +kernel
theorem dX4_copy_9 : decode cX4_copy 9 = .ok (.iconst 0, 1) := by decide +kernel
theorem dX4_copy_10 : decode cX4_copy 10 = .ok (.bipush 6, 2) := by decide +kernel
theorem dX4_copy_12 : decode cX4_copy 12 = .ok (.invokestatic 40, 3) := by decide +kernel
theorem dX4_copy_15 : decode cX4_copy 15 = .ok (.aload_n 1, 1) := by decide +kernel
theorem dX4_copy_16 : decode cX4_copy 16 = .ok (.getfield 15, 3) := by decide +kernel
theorem dX4_copy_19 : decode cX4_copy 19 = .ok (.iconst 0, 1) := by decide +kernel
theorem dX4_copy_20 : decode cX4_copy 20 = .ok (.aload_n 0, 1) := by decide +kernel
theorem dX4_copy_21 : decode cX4_copy 21 = .ok (.getfield 15, 3) := by decide +kernel
theorem dX4_copy_24 : decode cX4_copy 24 = .ok (.iconst 0, 1) := by decide +kernel
theorem dX4_copy_25 : decode cX4_copy 25 = .ok (.bipush 25, 2) := by decide +kernel
theorem dX4_copy_27 : decode cX4_copy 27 = .ok (.invokestatic 40, 3) := by decide +kernel
theorem dX4_copy_30 : decode cX4_copy 30 = .ok (.aload_n 1, 1) := by decide +kernel
theorem dX4_copy_31 : decode cX4_copy 31 = .ok (.getfield 18, 3) := by decide +kernel
theorem dX4_copy_34 : decode cX4_copy 34 = .ok (.iconst 0, 1) := by decide +kernel
theorem dX4_copy_35 : decode cX4_copy 35 = .ok (.aload_n 0, 1) := by decide +kernel
theorem dX4_copy_36 : decode cX4_copy 36 = .ok (.getfield 18, 3) := by decide +kernel
theorem dX4_copy_39 : decode cX4_copy 39 = .ok (.iconst 0, 1) := by decide +kernel
theorem dX4_copy_40 : decode cX4_copy 40 = .ok (.bipush 100, 2) := by decide +kernel
theorem dX4_copy_42 : decode cX4_copy 42 = .ok (.invokestatic 40, 3) := by decide +kernel
theorem dX4_copy_45 : decode cX4_copy 45 = .ok (.aload_n 0, 1) := by decide +kernel
theorem dX4_copy_46 : decode cX4_copy 46 = .ok (.aload_n 1, 1) := by decide +kernel
theorem dX4_copy_47 : decode cX4_copy 47 = .ok (.getfield 21, 3) := by decide +kernel
theorem dX4_copy_50 : decode cX4_copy 50 = .ok (.putfield 21, 3) := by decide +kernel
theorem dX4_copy_53 : decode cX4_copy 53 = .ok (.aload_n 0, 1) := by decide +kernel
theorem dX4_copy_54 : decode cX4_copy 54 = .ok (.aload_n 1, 1) := by decide +kernel
theorem dX4_copy_55 : decode cX4_copy 55 = .ok (.getfield 25, 3) := by decide +kernel
theorem dX4_copy_58 : decode cX4_copy 58 = .ok (.putfield 25, 3) := by decide +kernel
theorem dX4_copy_61 : decode cX4_copy 61 = .ok (.return_, 1) := by decide +kernel
set_option maxRecDepth 20000 in
theorem ggX4_tellName_X11_isName : GoodIn wsX4_tellName wsX11_isName := goodIn_r _ [6] (by decide +kernel) (by decide +kernel)
set_option maxRecDepth 20000 in
theorem gX4_tellName_X11_isName_n46 : GoodIn wsX4_tellName (wsX11_isName) := ggX4_tellName_X11_isName
theorem dX4_tellName_0 : decode cX4_tellName 0 = .ok (.iload_n 1, 1) := by decide +kernel
theorem dX4_tellName_1 : decode cX4_tellName 1 = .ok (.invokestatic 46, 3) := by decide +kernel
theorem dX4_tellName_4 : decode cX4_tellName 4 = .ok (.ifCond .eq 14, 3) := by decide +kernel
theorem dX4_tellName_7 : decode cX4_tellName 7 = .ok (.aload_n 0, 1) := by decide +kernel
theorem dX4_tellName_8 : decode cX4_tellName 8 = .ok (.getfield 21, 3) := by decide +kernel
theorem dX4_tellName_11 : decode cX4_tellName 11 = .ok (.iload_n 1, 1) := by decide +kernel
theorem dX4_tellName_12 : decode cX4_tellName 12 = .ok (.ishr, 1) := by decide +kernel
theorem dX4_tellName_13 : decode cX4_tellName 13 = .ok (.iconst 1, 1) := by decide +kernel
theorem dX4_tellName_14 : decode cX4_tellName 14 = .ok (.iand, 1) := by decide +kernel
theorem dX4_tellName_15 : decode cX4_tellName 15 = .ok (.ifCond .eq 5, 3) := by decide +kernel
theorem dX4_tellName_18 : decode cX4_tellName 18 = .ok (.iconst 0, 1) := by decide +kernel
theorem dX4_tellName_19 : decode cX4_tellName 19 = .ok (.ireturn, 1) := by decide +kernel
theorem dX4_tellName_20 : decode cX4_tellName 20 = .ok (.aload_n 0, 1) := by decide +kernel
theorem dX4_tellName_21 : decode cX4_tellName 21 = .ok (.getfield 21, 3) := by decide +kernel
theorem dX4_tellName_24 : decode cX4_tellName 24 = .ok (.ifCond .ne 8, 3) := by decide +kernel
theorem dX4_tellName_27 : decode cX4_tellName 27 = .ok (.aload_n 0, 1) := by decide +kernel
theorem dX4_tellName_28 : decode cX4_tellName 28 = .ok (.iload_n 1, 1) := by decide +kernel
theorem dX4_tellName_29 : decode cX4_tellName 29 = .ok (.putfield 25, 3) := by decide +kernel
theorem dX4_tellName_32 : decode cX4_tellName 32 = .ok (.aload_n 0, 1) := by decide +kernel
theorem dX4_tellName_33 : decode cX4_tellName 33 = .ok (.dup, 1) := by decide +kernel
theorem dX4_tellName_34 : decode cX4_tellName 34 = .ok (.getfield 21, 3) := by decide +kernel
theorem dX4_tellName_37 : decode cX4_tellName 37 = .ok (.iconst 1, 1) := by decide +kernel
theorem dX4_tellName_38 : decode cX4_tellName 38 = .ok (.iload_n 1, 1) := by decide +kernel
theorem dX4_tellName_39 : decode cX4_tellName 39 = .ok (.ishl, 1) := by decide +kernel
theorem dX4_tellName_40 : decode cX4_tellName 40 = .ok (.ior, 1) := by decide +kernel
theorem dX4_tellName_41 : decode cX4_tellName 41 = .ok (.putfield 21, 3) := by decide +kernel
theorem dX4_tellName_44 : decode cX4_tellName 44 = .ok (.aload_n 0, 1) := by decide +kernel
theorem dX4_tellName_45 : decode cX4_tellName 45 = .ok (.iload_n 1, 1) := by decide +kernel
theorem dX4_tellName_46 : decode cX4_tellName 46 = .ok (.putfield 28, 3) := by decide +kernel
theorem dX4_tellName_49 : decode cX4_tellName 49 = .ok (.iconst 1, 1) := by decide +kernel
theorem dX4_tellName_50 : decode cX4_tellName 50 = .ok (.ireturn, 1) := by decide +kernel
theorem dX4_hasRoomForName_0 : decode cX4_hasRoomForName 0 = .ok (.aload_n 0, 1) := by decide +kernel
theorem dX4_hasRoomForName_1 : decode cX4_hasRoomForName 1 = .ok (.getfield 21, 3) := by decide +kernel
theorem dX4_hasRoomForName_4 : decode cX4_hasRoomForName 4 = .ok (.bipush 63, 2) := by decide +kernel
theorem dX4_hasRoomForName_6 : decode cX4_hasRoomForName 6 = .ok (.if_icmp .eq 7, 3) := by decide +kernel
theorem dX4_hasRoomForName_9 : decode cX4_hasRoomForName 9 = .ok (.iconst 1, 1) := by decide +kernel
theorem dX4_hasRoomForName_10 : decode cX4_hasRoomForName 10 = .ok (.goto 4, 3) := by decide +kernel
theorem dX4_hasRoomForName_13 : decode cX4_hasRoomForName 13 = .ok (.iconst 0, 1) := by decide +kernel
theorem dX4_hasRoomForName_14 : decode cX4_hasRoomForName 14 = .ok (.ireturn, 1) := by decide +kernel
set_option maxRecDepth 20000 in
theorem ggX4_hasRoomForRule_X4_countOf : GoodIn wsX4_hasRoomForRule wsX4_countOf := goodIn_r _ [6, 7, 8, 9, 10, 11, 12, 13, 14, 15, 16, 17, 18] (by decide +kernel) (by decide +kernel)
set_option maxRecDepth 20000 in
theorem gX4_hasRoomForRule_X4_countOf : GoodIn wsX4_hasRoomForRule (wsV RX4 50 RX4 yX4_countOf wsX4_countOf) := goodIn_app (goodIn_of _ (by decide +kernel)) ggX4_hasRoomForRule_X4_countOf
theorem dX4_hasRoomForRule_0 : decode cX4_hasRoomForRule 0 = .ok (.aload_n 0, 1) := by decide +kernel
theorem dX4_hasRoomForRule_1 : decode cX4_hasRoomForRule 1 = .ok (.aload_n 0, 1) := by decide +kernel
theorem dX4_hasRoomForRule_2 : decode cX4_hasRoomForRule 2 = .ok (.getfield 28, 3) := by decide +kernel
theorem dX4_hasRoomForRule_5 : decode cX4_hasRoomForRule 5 = .ok (.invokevirtual 50, 3) := by decide +kernel
theorem dX4_hasRoomForRule_8 : decode cX4_hasRoomForRule 8 = .ok (.iconst 4, 1) := by decide +kernel
theorem dX4_hasRoomForRule_9 : decode cX4_hasRoomForRule 9 = .ok (.if_icmp .ge 7, 3) := by decide +kernel
theorem dX4_hasRoomForRule_12 : decode cX4_hasRoomForRule 12 = .ok (.iconst 1, 1) := by decide +kernel
theorem dX4_hasRoomForRule_13 : decode cX4_hasRoomForRule 13 = .ok (.goto 4, 3) := by decide +kernel
theorem dX4_hasRoomForRule_16 : decode cX4_hasRoomForRule 16 = .ok (.iconst 0, 1) := by decide +kernel
theorem dX4_hasRoomForRule_17 : decode cX4_hasRoomForRule 17 = .ok (.ireturn, 1) := by decide +kernel
set_option maxRecDepth 20000 in
theorem ggX4_beginRule_X11_isName : GoodIn wsX4_beginRule wsX11_isName := goodIn_r _ [5] (by decide +kernel) (by decide +kernel)
set_option maxRecDepth 20000 in
theorem gX4_beginRule_X11_isName_n46 : GoodIn wsX4_beginRule (wsX11_isName) := ggX4_beginRule_X11_isName
set_option maxRecDepth 20000 in
theorem ggX4_beginRule_X4_hasRoomForRule : GoodIn wsX4_beginRule wsX4_hasRoomForRule := goodIn_r _ [10, 1, 11, 12, 13, 9, 14, 2, 15, 3, 4, 5, 24, 25, 26, 27, 28, 29, 30] (by decide +kernel) (by decide +kernel)
set_option maxRecDepth 20000 in
theorem gX4_beginRule_X4_hasRoomForRule : GoodIn wsX4_beginRule (wsV RX4 54 RX4 yX4_hasRoomForRule wsX4_hasRoomForRule) := goodIn_app (goodIn_of _ (by decide +kernel)) ggX4_beginRule_X4_hasRoomForRule
set_option maxRecDepth 20000 in
theorem ggX4_beginRule_X4_emptySlot : GoodIn wsX4_beginRule wsX4_emptySlot := goodIn_r _ [19, 20, 21, 22, 9, 23, 24, 25, 26, 27, 28, 29, 30] (by decide +kernel) (by decide +kernel)
set_option maxRecDepth 20000 in
theorem gX4_beginRule_X4_emptySlot : GoodIn wsX4_beginRule (wsV RX4 58 RX4 yX4_emptySlot wsX4_emptySlot) := goodIn_app (goodIn_of _ (by decide +kernel)) ggX4_beginRule_X4_emptySlot
theorem dX4_beginRule_0 : decode cX4_beginRule 0 = .ok (.aload_n 0, 1) := by decide +kernel
theorem dX4_beginRule_1 : decode cX4_beginRule 1 = .ok (.getfield 28, 3) := by decide +kernel
theorem dX4_beginRule_4 : decode cX4_beginRule 4 = .ok (.invokestatic 46, 3) := by decide +kernel
theorem dX4_beginRule_7 : decode cX4_beginRule 7 = .ok (.ifCond .eq 43, 3) := by decide +kernel
theorem dX4_beginRule_10 : decode cX4_beginRule 10 = .ok (.aload_n 0, 1) := by decide +kernel
theorem dX4_beginRule_11 : decode cX4_beginRule 11 = .ok (.invokevirtual 54, 3) := by decide +kernel
theorem dX4_beginRule_14 : decode cX4_beginRule 14 = .ok (.ifCond .eq 36, 3) := by decide +kernel
theorem dX4_beginRule_17 : decode cX4_beginRule 17 = .ok (.aload_n 0, 1) := by decide +kernel
theorem dX4_beginRule_18 : decode cX4_beginRule 18 = .ok (.aload_n 0, 1) := by decide +kernel
theorem dX4_beginRule_19 : decode cX4_beginRule 19 = .ok (.getfield 28, 3) := by decide +kernel
theorem dX4_beginRule_22 : decode cX4_beginRule 22 = .ok (.iconst 4, 1) := by decide +kernel
theorem dX4_beginRule_23 : decode cX4_beginRule 23 = .ok (.imul, 1) := by decide +kernel
theorem dX4_beginRule_24 : decode cX4_beginRule 24 = .ok (.aload_n 0, 1) := by decide +kernel
theorem dX4_beginRule_25 : decode cX4_beginRule 25 = .ok (.getfield 11, 3) := by decide +kernel
theorem dX4_beginRule_28 : decode cX4_beginRule 28 = .ok (.aload_n 0, 1) := by decide +kernel
theorem dX4_beginRule_29 : decode cX4_beginRule 29 = .ok (.getfield 28, 3) := by decide +kernel
theorem dX4_beginRule_32 : decode cX4_beginRule 32 = .ok (.iaload, 1) := by decide +kernel
theorem dX4_beginRule_33 : decode cX4_beginRule 33 = .ok (.iadd, 1) := by decide +kernel
theorem dX4_beginRule_34 : decode cX4_beginRule 34 = .ok (.invokevirtual 58, 3) := by decide +kernel
theorem dX4_beginRule_37 : decode cX4_beginRule 37 = .ok (.aload_n 0, 1) := by decide +kernel
theorem dX4_beginRule_38 : decode cX4_beginRule 38 = .ok (.getfield 11, 3) := by decide +kernel
theorem dX4_beginRule_41 : decode cX4_beginRule 41 = .ok (.aload_n 0, 1) := by decide +kernel
theorem dX4_beginRule_42 : decode cX4_beginRule 42 = .ok (.getfield 28, 3) := by decide +kernel
theorem dX4_beginRule_45 : decode cX4_beginRule 45 = .ok (.dup2, 1) := by decide +kernel
theorem dX4_beginRule_46 : decode cX4_beginRule 46 = .ok (.iaload, 1) := by decide +kernel
theorem dX4_beginRule_47 : decode cX4_beginRule 47 = .ok (.iconst 1, 1) := by decide +kernel
theorem dX4_beginRule_48 : decode cX4_beginRule 48 = .ok (.iadd, 1) := by decide +kernel
theorem dX4_beginRule_49 : decode cX4_beginRule 49 = .ok (.iastore, 1) := by decide +kernel
theorem dX4_beginRule_50 : decode cX4_beginRule 50 = .ok (.return_, 1) := by decide +kernel
set_option maxRecDepth 20000 in
theorem ggX4_addSign_X4_countOf : GoodIn wsX4_addSign wsX4_countOf := goodIn_r _ [6, 7, 8, 9, 10, 11, 25, 26, 27, 28, 29, 30, 31] (by decide +kernel) (by decide +kernel)
set_option maxRecDepth 20000 in
theorem gX4_addSign_X4_countOf : GoodIn wsX4_addSign (wsV RX4 50 RX4 yX4_countOf wsX4_countOf) := goodIn_app (goodIn_of _ (by decide +kernel)) ggX4_addSign_X4_countOf
set_option maxRecDepth 20000 in
theorem ggX4_addSign_X4_addTo : GoodIn wsX4_addSign wsX4_addTo := goodIn_r _ [15, 16, 17, 18, 19, 20, 5, 21, 22, 23, 24, 25, 26, 27, 28, 29, 30, 31] (by decide +kernel) (by decide +kernel)
set_option maxRecDepth 20000 in
theorem gX4_addSign_X4_addTo : GoodIn wsX4_addSign (wsV RX4 62 RX4 yX4_addTo wsX4_addTo) := goodIn_app (goodIn_of _ (by decide +kernel)) ggX4_addSign_X4_addTo
theorem dX4_addSign_0 : decode cX4_addSign 0 = .ok (.aload_n 0, 1) := by decide +kernel
theorem dX4_addSign_1 : decode cX4_addSign 1 = .ok (.aload_n 0, 1) := by decide +kernel
theorem dX4_addSign_2 : decode cX4_addSign 2 = .ok (.getfield 28, 3) := by decide +kernel
theorem dX4_addSign_5 : decode cX4_addSign 5 = .ok (.iconst 4, 1) := by decide +kernel
theorem dX4_addSign_6 : decode cX4_addSign 6 = .ok (.imul, 1) := by decide +kernel
theorem dX4_addSign_7 : decode cX4_addSign 7 = .ok (.aload_n 0, 1) := by decide +kernel
theorem dX4_addSign_8 : decode cX4_addSign 8 = .ok (.aload_n 0, 1) := by decide +kernel
theorem dX4_addSign_9 : decode cX4_addSign 9 = .ok (.getfield 28, 3) := by decide +kernel
theorem dX4_addSign_12 : decode cX4_addSign 12 = .ok (.invokevirtual 50, 3) := by decide +kernel
theorem dX4_addSign_15 : decode cX4_addSign 15 = .ok (.iadd, 1) := by decide +kernel
theorem dX4_addSign_16 : decode cX4_addSign 16 = .ok (.iconst 1, 1) := by decide +kernel
theorem dX4_addSign_17 : decode cX4_addSign 17 = .ok (.isub, 1) := by decide +kernel
theorem dX4_addSign_18 : decode cX4_addSign 18 = .ok (.iload_n 1, 1) := by decide +kernel
theorem dX4_addSign_19 : decode cX4_addSign 19 = .ok (.invokevirtual 62, 3) := by decide +kernel
theorem dX4_addSign_22 : decode cX4_addSign 22 = .ok (.ireturn, 1) := by decide +kernel
set_option maxRecDepth 20000 in
theorem ggX4_emptySlot_X4_isSlot : GoodIn wsX4_emptySlot wsX4_isSlot := goodIn_r _ [5] (by decide +kernel) (by decide +kernel)
set_option maxRecDepth 20000 in
theorem gX4_emptySlot_X4_isSlot : GoodIn wsX4_emptySlot (va_wsS RX4 66 yX4_isSlot wsX4_isSlot) := goodIn_app (goodIn_of _ (by decide +kernel)) ggX4_emptySlot_X4_isSlot
theorem dX4_emptySlot_0 : decode cX4_emptySlot 0 = .ok (.iload_n 1, 1) := by decide +kernel
theorem dX4_emptySlot_1 : decode cX4_emptySlot 1 = .ok (.invokestatic 66, 3) := by decide +kernel
theorem dX4_emptySlot_4 : decode cX4_emptySlot 4 = .ok (.ifCond .eq 10, 3) := by decide +kernel
theorem dX4_emptySlot_7 : decode cX4_emptySlot 7 = .ok (.aload_n 0, 1) := by decide +kernel
theorem dX4_emptySlot_8 : decode cX4_emptySlot 8 = .ok (.getfield 15, 3) := by decide +kernel
theorem dX4_emptySlot_11 : decode cX4_emptySlot 11 = .ok (.iload_n 1, 1) := by decide +kernel
theorem dX4_emptySlot_12 : decode cX4_emptySlot 12 = .ok (.iconst 0, 1) := by decide +kernel
theorem dX4_emptySlot_13 : decode cX4_emptySlot 13 = .ok (.iastore, 1) := by decide +kernel
theorem dX4_emptySlot_14 : decode cX4_emptySlot 14 = .ok (.return_, 1) := by decide +kernel
set_option maxRecDepth 20000 in
theorem ggX4_addTo_X4_lengthOf : GoodIn wsX4_addTo wsX4_lengthOf := goodIn_r _ [7, 2, 11, 12, 13, 14, 15, 16, 17] (by decide +kernel) (by decide +kernel)
set_option maxRecDepth 20000 in
theorem gX4_addTo_X4_lengthOf : GoodIn wsX4_addTo (wsV RX4 69 RX4 yX4_lengthOf wsX4_lengthOf) := goodIn_app (goodIn_of _ (by decide +kernel)) ggX4_addTo_X4_lengthOf
set_option maxRecDepth 20000 in
theorem ggX4_addTo_X4_isSlot : GoodIn wsX4_addTo wsX4_isSlot := goodIn_r _ [10] (by decide +kernel) (by decide +kernel)
set_option maxRecDepth 20000 in
theorem gX4_addTo_X4_isSlot : GoodIn wsX4_addTo (va_wsS RX4 66 yX4_isSlot wsX4_isSlot) := goodIn_app (goodIn_of _ (by decide +kernel)) ggX4_addTo_X4_isSlot
theorem dX4_addTo_0 : decode cX4_addTo 0 = .ok (.aload_n 0, 1) := by decide +kernel
theorem dX4_addTo_1 : decode cX4_addTo 1 = .ok (.iload_n 1, 1) := by decide +kernel
theorem dX4_addTo_2 : decode cX4_addTo 2 = .ok (.invokevirtual 69, 3) := by decide +kernel
theorem dX4_addTo_5 : decode cX4_addTo 5 = .ok (.istore_n 3, 1) := by decide +kernel
theorem dX4_addTo_6 : decode cX4_addTo 6 = .ok (.iload_n 1, 1) := by decide +kernel
theorem dX4_addTo_7 : decode cX4_addTo 7 = .ok (.invokestatic 66, 3) := by decide +kernel
theorem dX4_addTo_10 : decode cX4_addTo 10 = .ok (.ifCond .eq 12, 3) := by decide +kernel
theorem dX4_addTo_13 : decode cX4_addTo 13 = .ok (.iload_n 3, 1) := by decide +kernel
theorem dX4_addTo_14 : decode cX4_addTo 14 = .ok (.ifCond .lt 8, 3) := by decide +kernel
theorem dX4_addTo_17 : decode cX4_addTo 17 = .ok (.iload_n 3, 1) := by decide +kernel
theorem dX4_addTo_18 : decode cX4_addTo 18 = .ok (.iconst 4, 1) := by decide +kernel
theorem dX4_addTo_19 : decode cX4_addTo 19 = .ok (.if_icmp .lt 5, 3) := by decide +kernel
theorem dX4_addTo_22 : decode cX4_addTo 22 = .ok (.iconst 0, 1) := by decide +kernel
theorem dX4_addTo_23 : decode cX4_addTo 23 = .ok (.ireturn, 1) := by decide +kernel
theorem dX4_addTo_24 : decode cX4_addTo 24 = .ok (.aload_n 0, 1) := by decide +kernel
theorem dX4_addTo_25 : decode cX4_addTo 25 = .ok (.getfield 18, 3) := by decide +kernel
theorem dX4_addTo_28 : decode cX4_addTo 28 = .ok (.iload_n 1, 1) := by decide +kernel
theorem dX4_addTo_29 : decode cX4_addTo 29 = .ok (.iconst 4, 1) := by decide +kernel
theorem dX4_addTo_30 : decode cX4_addTo 30 = .ok (.imul, 1) := by decide +kernel
theorem dX4_addTo_31 : decode cX4_addTo 31 = .ok (.iload_n 3, 1) := by decide +kernel
theorem dX4_addTo_32 : decode cX4_addTo 32 = .ok (.iadd, 1) := by decide +kernel
theorem dX4_addTo_33 : decode cX4_addTo 33 = .ok (.iload_n 2, 1) := by decide +kernel
theorem dX4_addTo_34 : decode cX4_addTo 34 = .ok (.iastore, 1) := by decide +kernel
theorem dX4_addTo_35 : decode cX4_addTo 35 = .ok (.aload_n 0, 1) := by decide +kernel
theorem dX4_addTo_36 : decode cX4_addTo 36 = .ok (.getfield 15, 3) := by decide +kernel
theorem dX4_addTo_39 : decode cX4_addTo 39 = .ok (.iload_n 1, 1) := by decide +kernel
theorem dX4_addTo_40 : decode cX4_addTo 40 = .ok (.iload_n 3, 1) := by decide +kernel
theorem dX4_addTo_41 : decode cX4_addTo 41 = .ok (.iconst 1, 1) := by decide +kernel
theorem dX4_addTo_42 : decode cX4_addTo 42 = .ok (.iadd, 1) := by decide +kernel
theorem dX4_addTo_43 : decode cX4_addTo 43 = .ok (.iastore, 1) := by decide +kernel
theorem dX4_addTo_44 : decode cX4_addTo 44 = .ok (.iconst 1, 1) := by decide +kernel
theorem dX4_addTo_45 : decode cX4_addTo 45 = .ok (.ireturn, 1) := by decide +kernel
set_option maxRecDepth 20000 in
theorem ggX4_tryRule_X4_emptySlot : GoodIn wsX4_tryRule wsX4_emptySlot := goodIn_r _ [6, 7, 8, 9, 5, 10, 20, 21, 22, 23, 24, 25, 26] (by decide +kernel) (by decide +kernel)
set_option maxRecDepth 20000 in
theorem gX4_tryRule_X4_emptySlot : GoodIn wsX4_tryRule (wsV RX4 58 RX4 yX4_emptySlot wsX4_emptySlot) := goodIn_app (goodIn_of _ (by decide +kernel)) ggX4_tryRule_X4_emptySlot
set_option maxRecDepth 20000 in
theorem ggX4_tryRule_X4_addTo : GoodIn wsX4_tryRule wsX4_addTo := goodIn_r _ [14, 15, 7, 16, 17, 18, 5, 19, 8, 9, 10, 20, 21, 22, 23, 24, 25, 26] (by decide +kernel) (by decide +kernel)
set_option maxRecDepth 20000 in
theorem gX4_tryRule_X4_addTo : GoodIn wsX4_tryRule (wsV RX4 62 RX4 yX4_addTo wsX4_addTo) := goodIn_app (goodIn_of _ (by decide +kernel)) ggX4_tryRule_X4_addTo
theorem dX4_tryRule_0 : decode cX4_tryRule 0 = .ok (.aload_n 0, 1) := by decide +kernel
theorem dX4_tryRule_1 : decode cX4_tryRule 1 = .ok (.iload_n 1, 1) := by decide +kernel
theorem dX4_tryRule_2 : decode cX4_tryRule 2 = .ok (.putfield 31, 3) := by decide +kernel
theorem dX4_tryRule_5 : decode cX4_tryRule 5 = .ok (.aload_n 0, 1) := by decide +kernel
theorem dX4_tryRule_6 : decode cX4_tryRule 6 = .ok (.bipush 24, 2) := by decide +kernel
theorem dX4_tryRule_8 : decode cX4_tryRule 8 = .ok (.invokevirtual 58, 3) := by decide +kernel
theorem dX4_tryRule_11 : decode cX4_tryRule 11 = .ok (.iload_n 2, 1) := by decide +kernel
theorem dX4_tryRule_12 : decode cX4_tryRule 12 = .ok (.iconst 1, 1) := by decide +kernel
theorem dX4_tryRule_13 : decode cX4_tryRule 13 = .ok (.isub, 1) := by decide +kernel
theorem dX4_tryRule_14 : decode cX4_tryRule 14 = .ok (.bipush 10, 2) := by decide +kernel
theorem dX4_tryRule_16 : decode cX4_tryRule 16 = .ok (.isub, 1) := by decide +kernel
theorem dX4_tryRule_17 : decode cX4_tryRule 17 = .ok (.istore_n 3, 1) := by decide +kernel
theorem dX4_tryRule_18 : decode cX4_tryRule 18 = .ok (.iload_n 3, 1) := by decide +kernel
theorem dX4_tryRule_19 : decode cX4_tryRule 19 = .ok (.ifCond .lt 26, 3) := by decide +kernel
theorem dX4_tryRule_22 : decode cX4_tryRule 22 = .ok (.aload_n 0, 1) := by decide +kernel
theorem dX4_tryRule_23 : decode cX4_tryRule 23 = .ok (.bipush 24, 2) := by decide +kernel
theorem dX4_tryRule_25 : decode cX4_tryRule 25 = .ok (.iload_n 3, 1) := by decide +kernel
theorem dX4_tryRule_26 : decode cX4_tryRule 26 = .ok (.iconst 4, 1) := by decide +kernel
theorem dX4_tryRule_27 : decode cX4_tryRule 27 = .ok (.idiv, 1) := by decide +kernel
theorem dX4_tryRule_28 : decode cX4_tryRule 28 = .ok (.invokevirtual 62, 3) := by decide +kernel
theorem dX4_tryRule_31 : decode cX4_tryRule 31 = .ok (.pop, 1) := by decide +kernel
theorem dX4_tryRule_32 : decode cX4_tryRule 32 = .ok (.aload_n 0, 1) := by decide +kernel
theorem dX4_tryRule_33 : decode cX4_tryRule 33 = .ok (.bipush 24, 2) := by decide +kernel
theorem dX4_tryRule_35 : decode cX4_tryRule 35 = .ok (.iload_n 3, 1) := by decide +kernel
theorem dX4_tryRule_36 : decode cX4_tryRule 36 = .ok (.iconst 4, 1) := by decide +kernel
theorem dX4_tryRule_37 : decode cX4_tryRule 37 = .ok (.irem, 1) := by decide +kernel
theorem dX4_tryRule_38 : decode cX4_tryRule 38 = .ok (.invokevirtual 62, 3) := by decide +kernel
theorem dX4_tryRule_41 : decode cX4_tryRule 41 = .ok (.pop, 1) := by decide +kernel
theorem dX4_tryRule_42 : decode cX4_tryRule 42 = .ok (.goto 17, 3) := by decide +kernel
theorem dX4_tryRule_45 : decode cX4_tryRule 45 = .ok (.iload_n 2, 1) := by decide +kernel
theorem dX4_tryRule_46 : decode cX4_tryRule 46 = .ok (.ifCond .le 13, 3) := by decide +kernel
theorem dX4_tryRule_49 : decode cX4_tryRule 49 = .ok (.aload_n 0, 1) := by decide +kernel
theorem dX4_tryRule_50 : decode cX4_tryRule 50 = .ok (.bipush 24, 2) := by decide +kernel
theorem dX4_tryRule_52 : decode cX4_tryRule 52 = .ok (.iload_n 2, 1) := by decide +kernel
theorem dX4_tryRule_53 : decode cX4_tryRule 53 = .ok (.iconst 1, 1) := by decide +kernel
theorem dX4_tryRule_54 : decode cX4_tryRule 54 = .ok (.isub, 1) := by decide +kernel
theorem dX4_tryRule_55 : decode cX4_tryRule 55 = .ok (.invokevirtual 62, 3) := by decide +kernel
theorem dX4_tryRule_58 : decode cX4_tryRule 58 = .ok (.pop, 1) := by decide +kernel
theorem dX4_tryRule_59 : decode cX4_tryRule 59 = .ok (.return_, 1) := by decide +kernel
theorem dX4_endTrial_0 : decode cX4_endTrial 0 = .ok (.aload_n 0, 1) := by decide +kernel
theorem dX4_endTrial_1 : decode cX4_endTrial 1 = .ok (.iconst (-1), 1) := by decide +kernel
theorem dX4_endTrial_2 : decode cX4_endTrial 2 = .ok (.putfield 31, 3) := by decide +kernel
theorem dX4_endTrial_5 : decode cX4_endTrial 5 = .ok (.return_, 1) := by decide +kernel
set_option maxRecDepth 20000 in
theorem ggX4_countOf_X11_isName : GoodIn wsX4_countOf wsX11_isName := goodIn_r _ [5] (by decide +kernel) (by decide +kernel)
set_option maxRecDepth 20000 in
theorem gX4_countOf_X11_isName_n46 : GoodIn wsX4_countOf (wsX11_isName) := ggX4_countOf_X11_isName
theorem dX4_countOf_0 : decode cX4_countOf 0 = .ok (.iload_n 1, 1) := by decide +kernel
theorem dX4_countOf_1 : decode cX4_countOf 1 = .ok (.invokestatic 46, 3) := by decide +kernel
theorem dX4_countOf_4 : decode cX4_countOf 4 = .ok (.ifCond .ne 5, 3) := by decide +kernel
theorem dX4_countOf_7 : decode cX4_countOf 7 = .ok (.iconst 0, 1) := by decide +kernel
theorem dX4_countOf_8 : decode cX4_countOf 8 = .ok (.ireturn, 1) := by decide +kernel
theorem dX4_countOf_9 : decode cX4_countOf 9 = .ok (.aload_n 0, 1) := by decide +kernel
theorem dX4_countOf_10 : decode cX4_countOf 10 = .ok (.getfield 11, 3) := by decide +kernel
theorem dX4_countOf_13 : decode cX4_countOf 13 = .ok (.iload_n 1, 1) := by decide +kernel
theorem dX4_countOf_14 : decode cX4_countOf 14 = .ok (.iaload, 1) := by decide +kernel
theorem dX4_countOf_15 : decode cX4_countOf 15 = .ok (.aload_n 0, 1) := by decide +kernel
theorem dX4_countOf_16 : decode cX4_countOf 16 = .ok (.getfield 31, 3) := by decide +kernel
theorem dX4_countOf_19 : decode cX4_countOf 19 = .ok (.iload_n 1, 1) := by decide +kernel
theorem dX4_countOf_20 : decode cX4_countOf 20 = .ok (.if_icmp .ne 7, 3) := by decide +kernel
theorem dX4_countOf_23 : decode cX4_countOf 23 = .ok (.iconst 1, 1) := by decide +kernel
theorem dX4_countOf_24 : decode cX4_countOf 24 = .ok (.goto 4, 3) := by decide +kernel
theorem dX4_countOf_27 : decode cX4_countOf 27 = .ok (.iconst 0, 1) := by decide +kernel
theorem dX4_countOf_28 : decode cX4_countOf 28 = .ok (.iadd, 1) := by decide +kernel
theorem dX4_countOf_29 : decode cX4_countOf 29 = .ok (.ireturn, 1) := by decide +kernel
set_option maxRecDepth 20000 in
theorem ggX4_slotOf_X11_isName : GoodIn wsX4_slotOf wsX11_isName := goodIn_r _ [4] (by decide +kernel) (by decide +kernel)
set_option maxRecDepth 20000 in
theorem gX4_slotOf_X11_isName_n46 : GoodIn wsX4_slotOf (wsX11_isName) := ggX4_slotOf_X11_isName
theorem dX4_slotOf_0 : decode cX4_slotOf 0 = .ok (.iload_n 1, 1) := by decide +kernel
theorem dX4_slotOf_1 : decode cX4_slotOf 1 = .ok (.invokestatic 46, 3) := by decide +kernel
theorem dX4_slotOf_4 : decode cX4_slotOf 4 = .ok (.ifCond .eq 21, 3) := by decide +kernel
theorem dX4_slotOf_7 : decode cX4_slotOf 7 = .ok (.iload_n 2, 1) := by decide +kernel
theorem dX4_slotOf_8 : decode cX4_slotOf 8 = .ok (.aload_n 0, 1) := by decide +kernel
theorem dX4_slotOf_9 : decode cX4_slotOf 9 = .ok (.getfield 11, 3) := by decide +kernel
theorem dX4_slotOf_12 : decode cX4_slotOf 12 = .ok (.iload_n 1, 1) := by decide +kernel
theorem dX4_slotOf_13 : decode cX4_slotOf 13 = .ok (.iaload, 1) := by decide +kernel
theorem dX4_slotOf_14 : decode cX4_slotOf 14 = .ok (.if_icmp .ge 11, 3) := by decide +kernel
theorem dX4_slotOf_17 : decode cX4_slotOf 17 = .ok (.iload_n 1, 1) := by decide +kernel
theorem dX4_slotOf_18 : decode cX4_slotOf 18 = .ok (.iconst 4, 1) := by decide +kernel
theorem dX4_slotOf_19 : decode cX4_slotOf 19 = .ok (.imul, 1) := by decide +kernel
theorem dX4_slotOf_20 : decode cX4_slotOf 20 = .ok (.iload_n 2, 1) := by decide +kernel
theorem dX4_slotOf_21 : decode cX4_slotOf 21 = .ok (.iadd, 1) := by decide +kernel
theorem dX4_slotOf_22 : decode cX4_slotOf 22 = .ok (.goto 5, 3) := by decide +kernel
theorem dX4_slotOf_25 : decode cX4_slotOf 25 = .ok (.bipush 24, 2) := by decide +kernel
theorem dX4_slotOf_27 : decode cX4_slotOf 27 = .ok (.ireturn, 1) := by decide +kernel
theorem dX4_lengthOf_0 : decode cX4_lengthOf 0 = .ok (.iload_n 1, 1) := by decide +kernel
theorem dX4_lengthOf_1 : decode cX4_lengthOf 1 = .ok (.ifCond .lt 18, 3) := by decide +kernel
theorem dX4_lengthOf_4 : decode cX4_lengthOf 4 = .ok (.iload_n 1, 1) := by decide +kernel
theorem dX4_lengthOf_5 : decode cX4_lengthOf 5 = .ok (.bipush 25, 2) := by decide +kernel
theorem dX4_lengthOf_7 : decode cX4_lengthOf 7 = .ok (.if_icmp .ge 12, 3) := by decide +kernel
theorem dX4_lengthOf_10 : decode cX4_lengthOf 10 = .ok (.aload_n 0, 1) := by decide +kernel
theorem dX4_lengthOf_11 : decode cX4_lengthOf 11 = .ok (.getfield 15, 3) := by decide +kernel
theorem dX4_lengthOf_14 : decode cX4_lengthOf 14 = .ok (.iload_n 1, 1) := by decide +kernel
theorem dX4_lengthOf_15 : decode cX4_lengthOf 15 = .ok (.iaload, 1) := by decide +kernel
theorem dX4_lengthOf_16 : decode cX4_lengthOf 16 = .ok (.goto 4, 3) := by decide +kernel
theorem dX4_lengthOf_19 : decode cX4_lengthOf 19 = .ok (.iconst 0, 1) := by decide +kernel
theorem dX4_lengthOf_20 : decode cX4_lengthOf 20 = .ok (.ireturn, 1) := by decide +kernel
theorem dX4_signAt_0 : decode cX4_signAt 0 = .ok (.iload_n 1, 1) := by decide +kernel
theorem dX4_signAt_1 : decode cX4_signAt 1 = .ok (.iconst 4, 1) := by decide +kernel
theorem dX4_signAt_2 : decode cX4_signAt 2 = .ok (.imul, 1) := by decide +kernel
theorem dX4_signAt_3 : decode cX4_signAt 3 = .ok (.iload_n 2, 1) := by decide +kernel
theorem dX4_signAt_4 : decode cX4_signAt 4 = .ok (.iadd, 1) := by decide +kernel
theorem dX4_signAt_5 : decode cX4_signAt 5 = .ok (.istore_n 3, 1) := by decide +kernel
theorem dX4_signAt_6 : decode cX4_signAt 6 = .ok (.iload_n 3, 1) := by decide +kernel
theorem dX4_signAt_7 : decode cX4_signAt 7 = .ok (.ifCond .lt 21, 3) := by decide +kernel
theorem dX4_signAt_10 : decode cX4_signAt 10 = .ok (.iload_n 3, 1) := by decide +kernel
theorem dX4_signAt_11 : decode cX4_signAt 11 = .ok (.aload_n 0, 1) := by decide +kernel
theorem dX4_signAt_12 : decode cX4_signAt 12 = .ok (.getfield 18, 3) := by decide +kernel
theorem dX4_signAt_15 : decode cX4_signAt 15 = .ok (.arraylength, 1) := by decide +kernel
theorem dX4_signAt_16 : decode cX4_signAt 16 = .ok (.if_icmp .ge 12, 3) := by decide +kernel
theorem dX4_signAt_19 : decode cX4_signAt 19 = .ok (.aload_n 0, 1) := by decide +kernel
theorem dX4_signAt_20 : decode cX4_signAt 20 = .ok (.getfield 18, 3) := by decide +kernel
theorem dX4_signAt_23 : decode cX4_signAt 23 = .ok (.iload_n 3, 1) := by decide +kernel
theorem dX4_signAt_24 : decode cX4_signAt 24 = .ok (.iaload, 1) := by decide +kernel
theorem dX4_signAt_25 : decode cX4_signAt 25 = .ok (.goto 4, 3) := by decide +kernel
theorem dX4_signAt_28 : decode cX4_signAt 28 = .ok (.iconst 0, 1) := by decide +kernel
theorem dX4_signAt_29 : decode cX4_signAt 29 = .ok (.ireturn, 1) := by decide +kernel
theorem dX4_isSlot_0 : decode cX4_isSlot 0 = .ok (.iload_n 0, 1) := by decide +kernel
theorem dX4_isSlot_1 : decode cX4_isSlot 1 = .ok (.ifCond .lt 13, 3) := by decide +kernel
theorem dX4_isSlot_4 : decode cX4_isSlot 4 = .ok (.iload_n 0, 1) := by decide +kernel
theorem dX4_isSlot_5 : decode cX4_isSlot 5 = .ok (.bipush 25, 2) := by decide +kernel
theorem dX4_isSlot_7 : decode cX4_isSlot 7 = .ok (.if_icmp .ge 7, 3) := by decide +kernel
theorem dX4_isSlot_10 : decode cX4_isSlot 10 = .ok (.iconst 1, 1) := by decide +kernel
theorem dX4_isSlot_11 : decode cX4_isSlot 11 = .ok (.goto 4, 3) := by decide +kernel
theorem dX4_isSlot_14 : decode cX4_isSlot 14 = .ok (.iconst 0, 1) := by decide +kernel
theorem dX4_isSlot_15 : decode cX4_isSlot 15 = .ok (.ireturn, 1) := by decide +kernel
set_option maxRecDepth 20000 in
theorem ggX4_findUsers_J7_fill_53178 : GoodIn wsX4_findUsers wsJ7_fill_53178 := goodIn_r _ [4] (by decide +kernel) (by decide +kernel)
set_option maxRecDepth 20000 in
theorem gX4_findUsers_J7_fill_53178 : GoodIn wsX4_findUsers (va_wsS RX4 34 yJ7_fill_53178 wsJ7_fill_53178) := goodIn_app (goodIn_of _ (by decide +kernel)) ggX4_findUsers_J7_fill_53178
set_option maxRecDepth 20000 in
theorem ggX4_findUsers_X4_namesUsedBy : GoodIn wsX4_findUsers wsX4_namesUsedBy := goodIn_r _ [9, 10, 11, 12, 8, 13, 14, 15, 16, 17, 18, 19, 20, 21, 22, 23, 24, 25, 26, 27, 28, 29, 30, 31, 32, 33, 34, 35, 36, 37, 38, 39] (by decide +kernel) (by decide +kernel)
set_option maxRecDepth 20000 in
theorem gX4_findUsers_X4_namesUsedBy : GoodIn wsX4_findUsers (wsV RX4 72 RX4 yX4_namesUsedBy wsX4_namesUsedBy) := goodIn_app (goodIn_of _ (by decide +kernel)) ggX4_findUsers_X4_namesUsedBy
theorem dX4_findUsers_0 : decode cX4_findUsers 0 = .ok (.aload_n 1, 1) := by decide +kernel
theorem dX4_findUsers_1 : decode cX4_findUsers 1 = .ok (.iconst 0, 1) := by decide +kernel
theorem dX4_findUsers_2 : decode cX4_findUsers 2 = .ok (.invokestatic 34, 3) := by decide +kernel
theorem dX4_findUsers_5 : decode cX4_findUsers 5 = .ok (.iconst 0, 1) := by decide +kernel
theorem dX4_findUsers_6 : decode cX4_findUsers 6 = .ok (.istore_n 2, 1) := by decide +kernel
theorem dX4_findUsers_7 : decode cX4_findUsers 7 = .ok (.iload_n 2, 1) := by decide +kernel
theorem dX4_findUsers_8 : decode cX4_findUsers 8 = .ok (.bipush 6, 2) := by decide +kernel
theorem dX4_findUsers_10 : decode cX4_findUsers 10 = .ok (.if_icmp .ge 53, 3) := by decide +kernel
theorem dX4_findUsers_13 : decode cX4_findUsers 13 = .ok (.aload_n 0, 1) := by decide +kernel
theorem dX4_findUsers_14 : decode cX4_findUsers 14 = .ok (.iload_n 2, 1) := by decide +kernel
theorem dX4_findUsers_15 : decode cX4_findUsers 15 = .ok (.invokevirtual 72, 3) := by decide +kernel
theorem dX4_findUsers_18 : decode cX4_findUsers 18 = .ok (.istore_n 3, 1) := by decide +kernel
theorem dX4_findUsers_19 : decode cX4_findUsers 19 = .ok (.iconst 0, 1) := by decide +kernel
theorem dX4_findUsers_20 : decode cX4_findUsers 20 = .ok (.istore 4, 2) := by decide +kernel
theorem dX4_findUsers_22 : decode cX4_findUsers 22 = .ok (.iload 4, 2) := by decide +kernel
theorem dX4_findUsers_24 : decode cX4_findUsers 24 = .ok (.bipush 6, 2) := by decide +kernel
theorem dX4_findUsers_26 : decode cX4_findUsers 26 = .ok (.if_icmp .ge 31, 3) := by decide +kernel
theorem dX4_findUsers_29 : decode cX4_findUsers 29 = .ok (.iload 4, 2) := by decide +kernel
theorem dX4_findUsers_31 : decode cX4_findUsers 31 = .ok (.aload_n 1, 1) := by decide +kernel
theorem dX4_findUsers_32 : decode cX4_findUsers 32 = .ok (.arraylength, 1) := by decide +kernel
theorem dX4_findUsers_33 : decode cX4_findUsers 33 = .ok (.if_icmp .ge 24, 3) := by decide +kernel
theorem dX4_findUsers_36 : decode cX4_findUsers 36 = .ok (.aload_n 1, 1) := by decide +kernel
theorem dX4_findUsers_37 : decode cX4_findUsers 37 = .ok (.iload 4, 2) := by decide +kernel
theorem dX4_findUsers_39 : decode cX4_findUsers 39 = .ok (.dup2, 1) := by decide +kernel
theorem dX4_findUsers_40 : decode cX4_findUsers 40 = .ok (.iaload, 1) := by decide +kernel
theorem dX4_findUsers_41 : decode cX4_findUsers 41 = .ok (.iload_n 3, 1) := by decide +kernel
theorem dX4_findUsers_42 : decode cX4_findUsers 42 = .ok (.iload 4, 2) := by decide +kernel
theorem dX4_findUsers_44 : decode cX4_findUsers 44 = .ok (.ishr, 1) := by decide +kernel
theorem dX4_findUsers_45 : decode cX4_findUsers 45 = .ok (.iconst 1, 1) := by decide +kernel
theorem dX4_findUsers_46 : decode cX4_findUsers 46 = .ok (.iand, 1) := by decide +kernel
theorem dX4_findUsers_47 : decode cX4_findUsers 47 = .ok (.iload_n 2, 1) := by decide +kernel
theorem dX4_findUsers_48 : decode cX4_findUsers 48 = .ok (.ishl, 1) := by decide +kernel
theorem dX4_findUsers_49 : decode cX4_findUsers 49 = .ok (.ior, 1) := by decide +kernel
theorem dX4_findUsers_50 : decode cX4_findUsers 50 = .ok (.iastore, 1) := by decide +kernel
theorem dX4_findUsers_51 : decode cX4_findUsers 51 = .ok (.iinc 4 1, 3) := by decide +kernel
theorem dX4_findUsers_54 : decode cX4_findUsers 54 = .ok (.goto (-32), 3) := by decide +kernel
theorem dX4_findUsers_57 : decode cX4_findUsers 57 = .ok (.iinc 2 1, 3) := by decide +kernel
theorem dX4_findUsers_60 : decode cX4_findUsers 60 = .ok (.goto (-53), 3) := by decide +kernel
theorem dX4_findUsers_63 : decode cX4_findUsers 63 = .ok (.return_, 1) := by decide +kernel
set_option maxRecDepth 20000 in
theorem ggX4_startUses_X4_namesUsedBy : GoodIn wsX4_startUses wsX4_namesUsedBy := goodIn_r _ [6, 7, 8, 9, 5, 10, 11, 12, 13, 14, 15, 16, 17, 18, 19, 20, 21, 22, 23, 24, 25, 26, 27, 28, 29, 30, 31, 32, 33, 34, 35, 36] (by decide +kernel) (by decide +kernel)
set_option maxRecDepth 20000 in
theorem gX4_startUses_X4_namesUsedBy : GoodIn wsX4_startUses (wsV RX4 72 RX4 yX4_namesUsedBy wsX4_namesUsedBy) := goodIn_app (goodIn_of _ (by decide +kernel)) ggX4_startUses_X4_namesUsedBy
theorem dX4_startUses_0 : decode cX4_startUses 0 = .ok (.iconst 1, 1) := by decide +kernel
theorem dX4_startUses_1 : decode cX4_startUses 1 = .ok (.aload_n 0, 1) := by decide +kernel
theorem dX4_startUses_2 : decode cX4_startUses 2 = .ok (.getfield 25, 3) := by decide +kernel
theorem dX4_startUses_5 : decode cX4_startUses 5 = .ok (.ishl, 1) := by decide +kernel
theorem dX4_startUses_6 : decode cX4_startUses 6 = .ok (.istore_n 2, 1) := by decide +kernel
theorem dX4_startUses_7 : decode cX4_startUses 7 = .ok (.iconst 0, 1) := by decide +kernel
theorem dX4_startUses_8 : decode cX4_startUses 8 = .ok (.istore_n 3, 1) := by decide +kernel
theorem dX4_startUses_9 : decode cX4_startUses 9 = .ok (.iload_n 3, 1) := by decide +kernel
theorem dX4_startUses_10 : decode cX4_startUses 10 = .ok (.bipush 6, 2) := by decide +kernel
theorem dX4_startUses_12 : decode cX4_startUses 12 = .ok (.if_icmp .ge 47, 3) := by decide +kernel
theorem dX4_startUses_15 : decode cX4_startUses 15 = .ok (.iconst 0, 1) := by decide +kernel
theorem dX4_startUses_16 : decode cX4_startUses 16 = .ok (.istore 4, 2) := by decide +kernel
theorem dX4_startUses_18 : decode cX4_startUses 18 = .ok (.iload 4, 2) := by decide +kernel
theorem dX4_startUses_20 : decode cX4_startUses 20 = .ok (.bipush 6, 2) := by decide +kernel
theorem dX4_startUses_22 : decode cX4_startUses 22 = .ok (.if_icmp .ge 31, 3) := by decide +kernel
theorem dX4_startUses_25 : decode cX4_startUses 25 = .ok (.iload_n 2, 1) := by decide +kernel
theorem dX4_startUses_26 : decode cX4_startUses 26 = .ok (.iload_n 2, 1) := by decide +kernel
theorem dX4_startUses_27 : decode cX4_startUses 27 = .ok (.iload 4, 2) := by decide +kernel
theorem dX4_startUses_29 : decode cX4_startUses 29 = .ok (.ishr, 1) := by decide +kernel
theorem dX4_startUses_30 : decode cX4_startUses 30 = .ok (.iconst 1, 1) := by decide +kernel
theorem dX4_startUses_31 : decode cX4_startUses 31 = .ok (.iand, 1) := by decide +kernel
theorem dX4_startUses_32 : decode cX4_startUses 32 = .ok (.ifCond .eq 12, 3) := by decide +kernel
theorem dX4_startUses_35 : decode cX4_startUses 35 = .ok (.aload_n 0, 1) := by decide +kernel
theorem dX4_startUses_36 : decode cX4_startUses 36 = .ok (.iload 4, 2) := by decide +kernel
theorem dX4_startUses_38 : decode cX4_startUses 38 = .ok (.invokevirtual 72, 3) := by decide +kernel
theorem dX4_startUses_41 : decode cX4_startUses 41 = .ok (.goto 4, 3) := by decide +kernel
theorem dX4_startUses_44 : decode cX4_startUses 44 = .ok (.iconst 0, 1) := by decide +kernel
theorem dX4_startUses_45 : decode cX4_startUses 45 = .ok (.ior, 1) := by decide +kernel
theorem dX4_startUses_46 : decode cX4_startUses 46 = .ok (.istore_n 2, 1) := by decide +kernel
theorem dX4_startUses_47 : decode cX4_startUses 47 = .ok (.iinc 4 1, 3) := by decide +kernel
theorem dX4_startUses_50 : decode cX4_startUses 50 = .ok (.goto (-32), 3) := by decide +kernel
theorem dX4_startUses_53 : decode cX4_startUses 53 = .ok (.iinc 3 1, 3) := by decide +kernel
theorem dX4_startUses_56 : decode cX4_startUses 56 = .ok (.goto (-47), 3) := by decide +kernel
theorem dX4_startUses_59 : decode cX4_startUses 59 = .ok (.iload_n 2, 1) := by decide +kernel
theorem dX4_startUses_60 : decode cX4_startUses 60 = .ok (.iload_n 1, 1) := by decide +kernel
theorem dX4_startUses_61 : decode cX4_startUses 61 = .ok (.ishr, 1) := by decide +kernel
theorem dX4_startUses_62 : decode cX4_startUses 62 = .ok (.iconst 1, 1) := by decide +kernel
theorem dX4_startUses_63 : decode cX4_startUses 63 = .ok (.iand, 1) := by decide +kernel
theorem dX4_startUses_64 : decode cX4_startUses 64 = .ok (.ifCond .eq 7, 3) := by decide +kernel
theorem dX4_startUses_67 : decode cX4_startUses 67 = .ok (.iconst 1, 1) := by decide +kernel
theorem dX4_startUses_68 : decode cX4_startUses 68 = .ok (.goto 4, 3) := by decide +kernel
theorem dX4_startUses_71 : decode cX4_startUses 71 = .ok (.iconst 0, 1) := by decide +kernel
theorem dX4_startUses_72 : decode cX4_startUses 72 = .ok (.ireturn, 1) := by decide +kernel
set_option maxRecDepth 20000 in
theorem ggX4_namesUsedBy_X4_countOf : GoodIn wsX4_namesUsedBy wsX4_countOf := goodIn_r _ [5, 6, 7, 8, 9, 10, 25, 26, 27, 28, 29, 30, 31] (by decide +kernel) (by decide +kernel)
set_option maxRecDepth 20000 in
theorem gX4_namesUsedBy_X4_countOf : GoodIn wsX4_namesUsedBy (wsV RX4 50 RX4 yX4_countOf wsX4_countOf) := goodIn_app (goodIn_of _ (by decide +kernel)) ggX4_namesUsedBy_X4_countOf
set_option maxRecDepth 20000 in
theorem ggX4_namesUsedBy_X4_slotOf : GoodIn wsX4_namesUsedBy wsX4_slotOf := goodIn_r _ [14, 6, 8, 9, 10, 25, 26, 27, 28, 29, 30, 31] (by decide +kernel) (by decide +kernel)
set_option maxRecDepth 20000 in
theorem gX4_namesUsedBy_X4_slotOf : GoodIn wsX4_namesUsedBy (wsV RX4 75 RX4 yX4_slotOf wsX4_slotOf) := goodIn_app (goodIn_of _ (by decide +kernel)) ggX4_namesUsedBy_X4_slotOf
set_option maxRecDepth 20000 in
theorem ggX4_namesUsedBy_X4_lengthOf : GoodIn wsX4_namesUsedBy wsX4_lengthOf := goodIn_r _ [18, 19, 25, 26, 27, 28, 29, 30, 31] (by decide +kernel) (by decide +kernel)
set_option maxRecDepth 20000 in
theorem gX4_namesUsedBy_X4_lengthOf : GoodIn wsX4_namesUsedBy (wsV RX4 69 RX4 yX4_lengthOf wsX4_lengthOf) := goodIn_app (goodIn_of _ (by decide +kernel)) ggX4_namesUsedBy_X4_lengthOf
set_option maxRecDepth 20000 in
theorem ggX4_namesUsedBy_X4_signAt : GoodIn wsX4_namesUsedBy wsX4_signAt := goodIn_r _ [23, 24, 25, 26, 27, 28, 29, 30, 31] (by decide +kernel) (by decide +kernel)
set_option maxRecDepth 20000 in
theorem gX4_namesUsedBy_X4_signAt : GoodIn wsX4_namesUsedBy (wsV RX4 79 RX4 yX4_signAt wsX4_signAt) := goodIn_app (goodIn_of _ (by decide +kernel)) ggX4_namesUsedBy_X4_signAt
theorem dX4_namesUsedBy_0 : decode cX4_namesUsedBy 0 = .ok (.iconst 0, 1) := by decide +kernel
theorem dX4_namesUsedBy_1 : decode cX4_namesUsedBy 1 = .ok (.istore_n 2, 1) := by decide +kernel
theorem dX4_namesUsedBy_2 : decode cX4_namesUsedBy 2 = .ok (.iconst 0, 1) := by decide +kernel
theorem dX4_namesUsedBy_3 : decode cX4_namesUsedBy 3 = .ok (.istore_n 3, 1) := by decide +kernel
theorem dX4_namesUsedBy_4 : decode cX4_namesUsedBy 4 = .ok (.iload_n 3, 1) := by decide +kernel
theorem dX4_namesUsedBy_5 : decode cX4_namesUsedBy 5 = .ok (.aload_n 0, 1) := by decide +kernel
theorem dX4_namesUsedBy_6 : decode cX4_namesUsedBy 6 = .ok (.iload_n 1, 1) := by decide +kernel
theorem dX4_namesUsedBy_7 : decode cX4_namesUsedBy 7 = .ok (.invokevirtual 50, 3) := by decide +kernel
theorem dX4_namesUsedBy_10 : decode cX4_namesUsedBy 10 = .ok (.if_icmp .ge 66, 3) := by decide +kernel
theorem dX4_namesUsedBy_13 : decode cX4_namesUsedBy 13 = .ok (.aload_n 0, 1) := by decide +kernel
theorem dX4_namesUsedBy_14 : decode cX4_namesUsedBy 14 = .ok (.iload_n 1, 1) := by decide +kernel
theorem dX4_namesUsedBy_15 : decode cX4_namesUsedBy 15 = .ok (.iload_n 3, 1) := by decide +kernel
theorem dX4_namesUsedBy_16 : decode cX4_namesUsedBy 16 = .ok (.invokevirtual 75, 3) := by decide +kernel
theorem dX4_namesUsedBy_19 : decode cX4_namesUsedBy 19 = .ok (.istore 4, 2) := by decide +kernel
theorem dX4_namesUsedBy_21 : decode cX4_namesUsedBy 21 = .ok (.iconst 0, 1) := by decide +kernel
theorem dX4_namesUsedBy_22 : decode cX4_namesUsedBy 22 = .ok (.istore 5, 2) := by decide +kernel
theorem dX4_namesUsedBy_24 : decode cX4_namesUsedBy 24 = .ok (.iload 5, 2) := by decide +kernel
theorem dX4_namesUsedBy_26 : decode cX4_namesUsedBy 26 = .ok (.aload_n 0, 1) := by decide +kernel
theorem dX4_namesUsedBy_27 : decode cX4_namesUsedBy 27 = .ok (.iload 4, 2) := by decide +kernel
theorem dX4_namesUsedBy_29 : decode cX4_namesUsedBy 29 = .ok (.invokevirtual 69, 3) := by decide +kernel
theorem dX4_namesUsedBy_32 : decode cX4_namesUsedBy 32 = .ok (.if_icmp .ge 38, 3) := by decide +kernel
theorem dX4_namesUsedBy_35 : decode cX4_namesUsedBy 35 = .ok (.aload_n 0, 1) := by decide +kernel
theorem dX4_namesUsedBy_36 : decode cX4_namesUsedBy 36 = .ok (.iload 4, 2) := by decide +kernel
theorem dX4_namesUsedBy_38 : decode cX4_namesUsedBy 38 = .ok (.iload 5, 2) := by decide +kernel
theorem dX4_namesUsedBy_40 : decode cX4_namesUsedBy 40 = .ok (.invokevirtual 79, 3) := by decide +kernel
theorem dX4_namesUsedBy_43 : decode cX4_namesUsedBy 43 = .ok (.istore 6, 2) := by decide +kernel
theorem dX4_namesUsedBy_45 : decode cX4_namesUsedBy 45 = .ok (.iload_n 2, 1) := by decide +kernel
theorem dX4_namesUsedBy_46 : decode cX4_namesUsedBy 46 = .ok (.iload 6, 2) := by decide +kernel
theorem dX4_namesUsedBy_48 : decode cX4_namesUsedBy 48 = .ok (.iconst 4, 1) := by decide +kernel
theorem dX4_namesUsedBy_49 : decode cX4_namesUsedBy 49 = .ok (.if_icmp .lt 12, 3) := by decide +kernel
theorem dX4_namesUsedBy_52 : decode cX4_namesUsedBy 52 = .ok (.iconst 1, 1) := by decide +kernel
theorem dX4_namesUsedBy_53 : decode cX4_namesUsedBy 53 = .ok (.iload 6, 2) := by decide +kernel
theorem dX4_namesUsedBy_55 : decode cX4_namesUsedBy 55 = .ok (.iconst 4, 1) := by decide +kernel
theorem dX4_namesUsedBy_56 : decode cX4_namesUsedBy 56 = .ok (.isub, 1) := by decide +kernel
theorem dX4_namesUsedBy_57 : decode cX4_namesUsedBy 57 = .ok (.ishl, 1) := by decide +kernel
theorem dX4_namesUsedBy_58 : decode cX4_namesUsedBy 58 = .ok (.goto 4, 3) := by decide +kernel
theorem dX4_namesUsedBy_61 : decode cX4_namesUsedBy 61 = .ok (.iconst 0, 1) := by decide +kernel
theorem dX4_namesUsedBy_62 : decode cX4_namesUsedBy 62 = .ok (.ior, 1) := by decide +kernel
theorem dX4_namesUsedBy_63 : decode cX4_namesUsedBy 63 = .ok (.istore_n 2, 1) := by decide +kernel
theorem dX4_namesUsedBy_64 : decode cX4_namesUsedBy 64 = .ok (.iinc 5 1, 3) := by decide +kernel
theorem dX4_namesUsedBy_67 : decode cX4_namesUsedBy 67 = .ok (.goto (-43), 3) := by decide +kernel
theorem dX4_namesUsedBy_70 : decode cX4_namesUsedBy 70 = .ok (.iinc 3 1, 3) := by decide +kernel
theorem dX4_namesUsedBy_73 : decode cX4_namesUsedBy 73 = .ok (.goto (-69), 3) := by decide +kernel
theorem dX4_namesUsedBy_76 : decode cX4_namesUsedBy 76 = .ok (.iload_n 2, 1) := by decide +kernel
theorem dX4_namesUsedBy_77 : decode cX4_namesUsedBy 77 = .ok (.ireturn, 1) := by decide +kernel
theorem dX5_init_0 : decode cX5_init 0 = .ok (.aload_n 0, 1) := by decide +kernel
theorem dX5_init_1 : decode cX5_init 1 = .ok (.invokespecial 3, 3) := by decide +kernel
theorem dX5_init_4 : decode cX5_init 4 = .ok (.aload_n 0, 1) := by decide +kernel
theorem dX5_init_5 : decode cX5_init 5 = .ok (.bipush 60, 2) := by decide +kernel
theorem dX5_init_7 : decode cX5_init 7 = .ok (.newarray .int, 2) := by decide +kernel
theorem dX5_init_9 : decode cX5_init 9 = .ok (.putfield 11, 3) := by decide +kernel
theorem dX5_init_12 : decode cX5_init 12 = .ok (.aload_n 0, 1) := by decide +kernel
theorem dX5_init_13 : decode cX5_init 13 = .ok (.iconst 0, 1) := by decide +kernel
theorem dX5_init_14 : decode cX5_init 14 = .ok (.putfield 15, 3) := by decide +kernel
theorem dX5_init_17 : decode cX5_init 17 = .ok (.return_, 1) := by decide +kernel
theorem dX5_add_0 : decode cX5_add 0 = .ok (.aload_n 0, 1) := by decide +kernel
theorem dX5_add_1 : decode cX5_add 1 = .ok (.getfield 15, 3) := by decide +kernel
theorem dX5_add_4 : decode cX5_add 4 = .ok (.ifCond .lt 12, 3) := by decide +kernel
theorem dX5_add_7 : decode cX5_add 7 = .ok (.aload_n 0, 1) := by decide +kernel
theorem dX5_add_8 : decode cX5_add 8 = .ok (.getfield 15, 3) := by decide +kernel
theorem dX5_add_11 : decode cX5_add 11 = .ok (.bipush 60, 2) := by decide +kernel
theorem dX5_add_13 : decode cX5_add 13 = .ok (.if_icmp .lt 5, 3) := by decide +kernel
theorem dX5_add_16 : decode cX5_add 16 = .ok (.iconst 0, 1) := by decide +kernel
theorem dX5_add_17 : decode cX5_add 17 = .ok (.ireturn, 1) := by decide +kernel
theorem dX5_add_18 : decode cX5_add 18 = .ok (.aload_n 0, 1) := by decide +kernel
theorem dX5_add_19 : decode cX5_add 19 = .ok (.getfield 11, 3) := by decide +kernel
theorem dX5_add_22 : decode cX5_add 22 = .ok (.aload_n 0, 1) := by decide +kernel
theorem dX5_add_23 : decode cX5_add 23 = .ok (.getfield 15, 3) := by decide +kernel
theorem dX5_add_26 : decode cX5_add 26 = .ok (.iload_n 1, 1) := by decide +kernel
theorem dX5_add_27 : decode cX5_add 27 = .ok (.iastore, 1) := by decide +kernel
theorem dX5_add_28 : decode cX5_add 28 = .ok (.aload_n 0, 1) := by decide +kernel
theorem dX5_add_29 : decode cX5_add 29 = .ok (.dup, 1) := by decide +kernel
theorem dX5_add_30 : decode cX5_add 30 = .ok (.getfield 15, 3) := by decide +kernel
theorem dX5_add_33 : decode cX5_add 33 = .ok (.iconst 1, 1) := by decide +kernel
theorem dX5_add_34 : decode cX5_add 34 = .ok (.iadd, 1) := by decide +kernel
theorem dX5_add_35 : decode cX5_add 35 = .ok (.putfield 15, 3) := by decide +kernel
theorem dX5_add_38 : decode cX5_add 38 = .ok (.iconst 1, 1) := by decide +kernel
theorem dX5_add_39 : decode cX5_add 39 = .ok (.ireturn, 1) := by decide +kernel
theorem dX5_signAt_0 : decode cX5_signAt 0 = .ok (.iload_n 1, 1) := by decide +kernel
theorem dX5_signAt_1 : decode cX5_signAt 1 = .ok (.ifCond .lt 26, 3) := by decide +kernel
theorem dX5_signAt_4 : decode cX5_signAt 4 = .ok (.iload_n 1, 1) := by decide +kernel
theorem dX5_signAt_5 : decode cX5_signAt 5 = .ok (.aload_n 0, 1) := by decide +kernel
theorem dX5_signAt_6 : decode cX5_signAt 6 = .ok (.getfield 15, 3) := by decide +kernel
theorem dX5_signAt_9 : decode cX5_signAt 9 = .ok (.if_icmp .ge 18, 3) := by decide +kernel
theorem dX5_signAt_12 : decode cX5_signAt 12 = .ok (.iload_n 1, 1) := by decide +kernel
theorem dX5_signAt_13 : decode cX5_signAt 13 = .ok (.bipush 60, 2) := by decide +kernel
theorem dX5_signAt_15 : decode cX5_signAt 15 = .ok (.if_icmp .ge 12, 3) := by decide +kernel
theorem dX5_signAt_18 : decode cX5_signAt 18 = .ok (.aload_n 0, 1) := by decide +kernel
theorem dX5_signAt_19 : decode cX5_signAt 19 = .ok (.getfield 11, 3) := by decide +kernel
theorem dX5_signAt_22 : decode cX5_signAt 22 = .ok (.iload_n 1, 1) := by decide +kernel
theorem dX5_signAt_23 : decode cX5_signAt 23 = .ok (.iaload, 1) := by decide +kernel
theorem dX5_signAt_24 : decode cX5_signAt 24 = .ok (.goto 4, 3) := by decide +kernel
theorem dX5_signAt_27 : decode cX5_signAt 27 = .ok (.iconst 0, 1) := by decide +kernel
theorem dX5_signAt_28 : decode cX5_signAt 28 = .ok (.ireturn, 1) := by decide +kernel
set_option maxRecDepth 20000 in
theorem ggX5_isWord_X5_signAt : GoodIn wsX5_isWord wsX5_signAt := goodIn_r _ [6, 1, 7, 8, 9] (by decide +kernel) (by decide +kernel)
set_option maxRecDepth 20000 in
theorem gX5_isWord_X5_signAt : GoodIn wsX5_isWord (wsV RX5 19 RX5 yX5_signAt wsX5_signAt) := goodIn_app (goodIn_of _ (by decide +kernel)) ggX5_isWord_X5_signAt
theorem dX5_isWord_0 : decode cX5_isWord 0 = .ok (.aload_n 0, 1) := by decide +kernel
theorem dX5_isWord_1 : decode cX5_isWord 1 = .ok (.getfield 15, 3) := by decide +kernel
theorem dX5_isWord_4 : decode cX5_isWord 4 = .ok (.bipush 6, 2) := by decide +kernel
theorem dX5_isWord_6 : decode cX5_isWord 6 = .ok (.if_icmp .le 5, 3) := by decide +kernel
theorem dX5_isWord_9 : decode cX5_isWord 9 = .ok (.iconst 0, 1) := by decide +kernel
theorem dX5_isWord_10 : decode cX5_isWord 10 = .ok (.ireturn, 1) := by decide +kernel
theorem dX5_isWord_11 : decode cX5_isWord 11 = .ok (.iconst 0, 1) := by decide +kernel
theorem dX5_isWord_12 : decode cX5_isWord 12 = .ok (.istore_n 1, 1) := by decide +kernel
theorem dX5_isWord_13 : decode cX5_isWord 13 = .ok (.iload_n 1, 1) := by decide +kernel
theorem dX5_isWord_14 : decode cX5_isWord 14 = .ok (.aload_n 0, 1) := by decide +kernel
theorem dX5_isWord_15 : decode cX5_isWord 15 = .ok (.getfield 15, 3) := by decide +kernel
theorem dX5_isWord_18 : decode cX5_isWord 18 = .ok (.if_icmp .ge 29, 3) := by decide +kernel
theorem dX5_isWord_21 : decode cX5_isWord 21 = .ok (.aload_n 0, 1) := by decide +kernel
theorem dX5_isWord_22 : decode cX5_isWord 22 = .ok (.iload_n 1, 1) := by decide +kernel
theorem dX5_isWord_23 : decode cX5_isWord 23 = .ok (.invokevirtual 19, 3) := by decide +kernel
theorem dX5_isWord_26 : decode cX5_isWord 26 = .ok (.istore_n 2, 1) := by decide +kernel
theorem dX5_isWord_27 : decode cX5_isWord 27 = .ok (.iload_n 2, 1) := by decide +kernel
theorem dX5_isWord_28 : decode cX5_isWord 28 = .ok (.bipush 97, 2) := by decide +kernel
theorem dX5_isWord_30 : decode cX5_isWord 30 = .ok (.if_icmp .lt 9, 3) := by decide +kernel
theorem dX5_isWord_33 : decode cX5_isWord 33 = .ok (.iload_n 2, 1) := by decide +kernel
theorem dX5_isWord_34 : decode cX5_isWord 34 = .ok (.bipush 101, 2) := by decide +kernel
theorem dX5_isWord_36 : decode cX5_isWord 36 = .ok (.if_icmp .lt 5, 3) := by decide +kernel
theorem dX5_isWord_39 : decode cX5_isWord 39 = .ok (.iconst 0, 1) := by decide +kernel
theorem dX5_isWord_40 : decode cX5_isWord 40 = .ok (.ireturn, 1) := by decide +kernel
theorem dX5_isWord_41 : decode cX5_isWord 41 = .ok (.iinc 1 1, 3) := by decide +kernel
theorem dX5_isWord_44 : decode cX5_isWord 44 = .ok (.goto (-31), 3) := by decide +kernel
theorem dX5_isWord_47 : decode cX5_isWord 47 = .ok (.iconst 1, 1) := by decide +kernel
theorem dX5_isWord_48 : decode cX5_isWord 48 = .ok (.ireturn, 1) := by decide +kernel
theorem dX6_init_0 : decode cX6_init 0 = .ok (.aload_n 0, 1) := by decide +kernel
theorem dX6_init_1 : decode cX6_init 1 = .ok (.invokespecial 3, 3) := by decide +kernel
theorem dX6_init_4 : decode cX6_init 4 = .ok (.aload_n 0, 1) := by decide +kernel
theorem dX6_init_5 : decode cX6_init 5 = .ok (.bipush 42, 2) := by decide +kernel
theorem dX6_init_7 : decode cX6_init 7 = .ok (.newarray .int, 2) := by decide +kernel
theorem dX6_init_9 : decode cX6_init 9 = .ok (.putfield 11, 3) := by decide +kernel
theorem dX6_init_12 : decode cX6_init 12 = .ok (.aload_n 0, 1) := by decide +kernel
theorem dX6_init_13 : decode cX6_init 13 = .ok (.aload_n 1, 1) := by decide +kernel
theorem dX6_init_14 : decode cX6_init 14 = .ok (.putfield 17, 3) := by decide +kernel
theorem dX6_init_17 : decode cX6_init 17 = .ok (.return_, 1) := by decide +kernel
set_option maxRecDepth 20000 in
theorem ggX6_farthest_J7_fill_53178 : GoodIn wsX6_farthest wsJ7_fill_53178 := goodIn_r _ [6] (by decide +kernel) (by decide +kernel)
set_option maxRecDepth 20000 in
theorem gX6_farthest_J7_fill_53178 : GoodIn wsX6_farthest (va_wsS RX6 21 yJ7_fill_53178 wsJ7_fill_53178) := goodIn_app (goodIn_of _ (by decide +kernel)) ggX6_farthest_J7_fill_53178
set_option maxRecDepth 20000 in
theorem ggX6_farthest_X0_length : GoodIn wsX6_farthest wsX0_length := goodIn_r _ [11, 12, 13, 102, 103, 104, 105, 106, 107, 108] (by decide +kernel) (by decide +kernel)
set_option maxRecDepth 20000 in
theorem gX6_farthest_X0_length : GoodIn wsX6_farthest (wsV RX6 27 RX0 yX0_length wsX0_length) := goodIn_app (goodIn_of _ (by decide +kernel)) ggX6_farthest_X0_length
set_option maxRecDepth 20000 in
theorem ggX6_farthest_X6_sweep : GoodIn wsX6_farthest wsX6_sweep := goodIn_r _ [18, 2, 19, 1, 20, 21, 22, 23, 24, 25, 26, 27, 28, 29, 30, 31, 32, 33, 34, 35, 36, 17, 37, 38, 39, 40, 41, 42, 43, 44, 10, 45, 46, 47, 48, 49, 50, 51, 52, 53, 54, 55, 56, 57, 58, 59, 60, 61, 62, 63, 64, 65, 66, 67, 68, 69, 70, 71, 72, 7, 8, 9, 11, 12, 13, 73, 74, 75, 76, 77, 78, 79, 80, 81, 82, 83, 84, 85, 86, 87, 88, 89, 90, 91, 92, 93, 94, 95, 96, 97, 98, 99, 100, 101, 102, 103, 104, 105, 106, 109, 110, 111, 112, 113, 114, 115, 107, 108] (by decide +kernel) (by decide +kernel)
set_option maxRecDepth 20000 in
theorem gX6_farthest_X6_sweep : GoodIn wsX6_farthest (wsV RX6 31 RX6 yX6_sweep wsX6_sweep) := goodIn_app (goodIn_of _ (by decide +kernel)) ggX6_farthest_X6_sweep
set_option maxRecDepth 20000 in
theorem ggX6_farthest_X6_farOfSign : GoodIn wsX6_farthest wsX6_farOfSign := goodIn_r _ [76, 2, 1, 77, 78, 79, 10, 80, 12, 81, 82, 83, 84, 85, 86, 87, 100, 101, 102, 103, 104, 105, 106, 107, 108] (by decide +kernel) (by decide +kernel)
set_option maxRecDepth 20000 in
theorem gX6_farthest_X6_farOfSign : GoodIn wsX6_farthest (wsV RX6 35 RX6 yX6_farOfSign wsX6_farOfSign) := goodIn_app (goodIn_of _ (by decide +kernel)) ggX6_farthest_X6_farOfSign
theorem dX6_farthest_0 : decode cX6_farthest 0 = .ok (.aload_n 0, 1) := by decide +kernel
theorem dX6_farthest_1 : decode cX6_farthest 1 = .ok (.getfield 11, 3) := by decide +kernel
theorem dX6_farthest_4 : decode cX6_farthest 4 = .ok (.iconst (-1), 1) := by decide +kernel
theorem dX6_farthest_5 : decode cX6_farthest 5 = .ok (.invokestatic 21, 3) := by decide +kernel
theorem dX6_farthest_8 : decode cX6_farthest 8 = .ok (.aload_n 0, 1) := by decide +kernel
theorem dX6_farthest_9 : decode cX6_farthest 9 = .ok (.getfield 17, 3) := by decide +kernel
theorem dX6_farthest_12 : decode cX6_farthest 12 = .ok (.invokevirtual 27, 3) := by decide +kernel
theorem dX6_farthest_15 : decode cX6_farthest 15 = .ok (.istore_n 2, 1) := by decide +kernel
theorem dX6_farthest_16 : decode cX6_farthest 16 = .ok (.iload_n 2, 1) := by decide +kernel
theorem dX6_farthest_17 : decode cX6_farthest 17 = .ok (.ifCond .lt 37, 3) := by decide +kernel
theorem dX6_farthest_20 : decode cX6_farthest 20 = .ok (.iconst 1, 1) := by decide +kernel
theorem dX6_farthest_21 : decode cX6_farthest 21 = .ok (.istore_n 3, 1) := by decide +kernel
theorem dX6_farthest_22 : decode cX6_farthest 22 = .ok (.iconst 0, 1) := by decide +kernel
theorem dX6_farthest_23 : decode cX6_farthest 23 = .ok (.istore 4, 2) := by decide +kernel
theorem dX6_farthest_25 : decode cX6_farthest 25 = .ok (.iload_n 3, 1) := by decide +kernel
theorem dX6_farthest_26 : decode cX6_farthest 26 = .ok (.ifCond .eq 22, 3) := by decide +kernel
theorem dX6_farthest_29 : decode cX6_farthest 29 = .ok (.iload 4, 2) := by decide +kernel
theorem dX6_farthest_31 : decode cX6_farthest 31 = .ok (.bipush 6, 2) := by decide +kernel
theorem dX6_farthest_33 : decode cX6_farthest 33 = .ok (.if_icmp .ge 15, 3) := by decide +kernel
theorem dX6_farthest_36 : decode cX6_farthest 36 = .ok (.aload_n 0, 1) := by decide +kernel
theorem dX6_farthest_37 : decode cX6_farthest 37 = .ok (.iload_n 2, 1) := by decide +kernel
theorem dX6_farthest_38 : decode cX6_farthest 38 = .ok (.invokevirtual 31, 3) := by decide +kernel
theorem dX6_farthest_41 : decode cX6_farthest 41 = .ok (.istore_n 3, 1) := by decide +kernel
theorem dX6_farthest_42 : decode cX6_farthest 42 = .ok (.iinc 4 1, 3) := by decide +kernel
theorem dX6_farthest_45 : decode cX6_farthest 45 = .ok (.goto (-20), 3) := by decide +kernel
theorem dX6_farthest_48 : decode cX6_farthest 48 = .ok (.iinc 2 (-1), 3) := by decide +kernel
theorem dX6_farthest_51 : decode cX6_farthest 51 = .ok (.goto (-35), 3) := by decide +kernel
theorem dX6_farthest_54 : decode cX6_farthest 54 = .ok (.aload_n 0, 1) := by decide +kernel
theorem dX6_farthest_55 : decode cX6_farthest 55 = .ok (.iconst 4, 1) := by decide +kernel
theorem dX6_farthest_56 : decode cX6_farthest 56 = .ok (.iload_n 1, 1) := by decide +kernel
theorem dX6_farthest_57 : decode cX6_farthest 57 = .ok (.iadd, 1) := by decide +kernel
theorem dX6_farthest_58 : decode cX6_farthest 58 = .ok (.iconst 0, 1) := by decide +kernel
theorem dX6_farthest_59 : decode cX6_farthest 59 = .ok (.invokevirtual 35, 3) := by decide +kernel
theorem dX6_farthest_62 : decode cX6_farthest 62 = .ok (.ireturn, 1) := by decide +kernel
set_option maxRecDepth 20000 in
theorem ggX6_sweep_X4_countOf : GoodIn wsX6_sweep wsX4_countOf := goodIn_r _ [8, 9, 10, 11, 12, 13, 99, 100, 101, 102, 103, 104, 105] (by decide +kernel) (by decide +kernel)
set_option maxRecDepth 20000 in
theorem gX6_sweep_X4_countOf : GoodIn wsX6_sweep (wsV RX6 43 RX4 yX4_countOf wsX4_countOf) := goodIn_app (goodIn_of _ (by decide +kernel)) ggX6_sweep_X4_countOf
set_option maxRecDepth 20000 in
theorem ggX6_sweep_X4_slotOf : GoodIn wsX6_sweep wsX4_slotOf := goodIn_r _ [17, 9, 11, 12, 13, 99, 100, 101, 102, 103, 104, 105] (by decide +kernel) (by decide +kernel)
set_option maxRecDepth 20000 in
theorem gX6_sweep_X4_slotOf : GoodIn wsX6_sweep (wsV RX6 49 RX4 yX4_slotOf wsX4_slotOf) := goodIn_app (goodIn_of _ (by decide +kernel)) ggX6_sweep_X4_slotOf
set_option maxRecDepth 20000 in
theorem ggX6_sweep_X6_farOfRule : GoodIn wsX6_sweep wsX6_farOfRule := goodIn_r _ [22, 1, 2, 23, 24, 25, 26, 27, 28, 29, 30, 31, 32, 33, 34, 35, 36, 7, 37, 38, 39, 40, 41, 42, 43, 44, 45, 46, 47, 48, 49, 50, 51, 52, 53, 54, 55, 56, 57, 21, 58, 59, 60, 61, 62, 63, 64, 65, 66, 67, 68, 3, 69, 70, 71, 72, 73, 74, 75, 76, 77, 78, 79, 80, 81, 82, 83, 84, 85, 86, 87, 88, 89, 90, 91, 92, 93, 94, 95, 96, 97, 98, 99, 100, 101, 102, 103, 104, 105, 106, 107] (by decide +kernel) (by decide +kernel)
set_option maxRecDepth 20000 in
theorem gX6_sweep_X6_farOfRule : GoodIn wsX6_sweep (wsV RX6 52 RX6 yX6_farOfRule wsX6_farOfRule) := goodIn_app (goodIn_of _ (by decide +kernel)) ggX6_sweep_X6_farOfRule
theorem dX6_sweep_0 : decode cX6_sweep 0 = .ok (.iconst 0, 1) := by decide +kernel
theorem dX6_sweep_1 : decode cX6_sweep 1 = .ok (.istore_n 2, 1) := by decide +kernel
theorem dX6_sweep_2 : decode cX6_sweep 2 = .ok (.iconst 5, 1) := by decide +kernel
theorem dX6_sweep_3 : decode cX6_sweep 3 = .ok (.istore_n 3, 1) := by decide +kernel
theorem dX6_sweep_4 : decode cX6_sweep 4 = .ok (.iload_n 3, 1) := by decide +kernel
theorem dX6_sweep_5 : decode cX6_sweep 5 = .ok (.ifCond .lt 100, 3) := by decide +kernel
theorem dX6_sweep_8 : decode cX6_sweep 8 = .ok (.iload_n 3, 1) := by decide +kernel
theorem dX6_sweep_9 : decode cX6_sweep 9 = .ok (.bipush 7, 2) := by decide +kernel
theorem dX6_sweep_11 : decode cX6_sweep 11 = .ok (.imul, 1) := by decide +kernel
theorem dX6_sweep_12 : decode cX6_sweep 12 = .ok (.iload_n 1, 1) := by decide +kernel
theorem dX6_sweep_13 : decode cX6_sweep 13 = .ok (.iadd, 1) := by decide +kernel
theorem dX6_sweep_14 : decode cX6_sweep 14 = .ok (.istore 4, 2) := by decide +kernel
theorem dX6_sweep_16 : decode cX6_sweep 16 = .ok (.iconst 0, 1) := by decide +kernel
theorem dX6_sweep_17 : decode cX6_sweep 17 = .ok (.istore 5, 2) := by decide +kernel
theorem dX6_sweep_19 : decode cX6_sweep 19 = .ok (.iload 5, 2) := by decide +kernel
theorem dX6_sweep_21 : decode cX6_sweep 21 = .ok (.aload_n 0, 1) := by decide +kernel
theorem dX6_sweep_22 : decode cX6_sweep 22 = .ok (.getfield 17, 3) := by decide +kernel
theorem dX6_sweep_25 : decode cX6_sweep 25 = .ok (.getfield 39, 3) := by decide +kernel
theorem dX6_sweep_28 : decode cX6_sweep 28 = .ok (.iload_n 3, 1) := by decide +kernel
theorem dX6_sweep_29 : decode cX6_sweep 29 = .ok (.invokevirtual 43, 3) := by decide +kernel
theorem dX6_sweep_32 : decode cX6_sweep 32 = .ok (.if_icmp .ge 67, 3) := by decide +kernel
theorem dX6_sweep_35 : decode cX6_sweep 35 = .ok (.aload_n 0, 1) := by decide +kernel
theorem dX6_sweep_36 : decode cX6_sweep 36 = .ok (.aload_n 0, 1) := by decide +kernel
theorem dX6_sweep_37 : decode cX6_sweep 37 = .ok (.getfield 17, 3) := by decide +kernel
theorem dX6_sweep_40 : decode cX6_sweep 40 = .ok (.getfield 39, 3) := by decide +kernel
theorem dX6_sweep_43 : decode cX6_sweep 43 = .ok (.iload_n 3, 1) := by decide +kernel
theorem dX6_sweep_44 : decode cX6_sweep 44 = .ok (.iload 5, 2) := by decide +kernel
theorem dX6_sweep_46 : decode cX6_sweep 46 = .ok (.invokevirtual 49, 3) := by decide +kernel
theorem dX6_sweep_49 : decode cX6_sweep 49 = .ok (.iload_n 1, 1) := by decide +kernel
theorem dX6_sweep_50 : decode cX6_sweep 50 = .ok (.invokevirtual 52, 3) := by decide +kernel
theorem dX6_sweep_53 : decode cX6_sweep 53 = .ok (.istore 6, 2) := by decide +kernel
theorem dX6_sweep_55 : decode cX6_sweep 55 = .ok (.iload 4, 2) := by decide +kernel
theorem dX6_sweep_57 : decode cX6_sweep 57 = .ok (.ifCond .lt 36, 3) := by decide +kernel
theorem dX6_sweep_60 : decode cX6_sweep 60 = .ok (.iload 4, 2) := by decide +kernel
theorem dX6_sweep_62 : decode cX6_sweep 62 = .ok (.aload_n 0, 1) := by decide +kernel
theorem dX6_sweep_63 : decode cX6_sweep 63 = .ok (.getfield 11, 3) := by decide +kernel
theorem dX6_sweep_66 : decode cX6_sweep 66 = .ok (.arraylength, 1) := by decide +kernel
theorem dX6_sweep_67 : decode cX6_sweep 67 = .ok (.if_icmp .ge 26, 3) := by decide +kernel
theorem dX6_sweep_70 : decode cX6_sweep 70 = .ok (.iload 6, 2) := by decide +kernel
theorem dX6_sweep_72 : decode cX6_sweep 72 = .ok (.aload_n 0, 1) := by decide +kernel
theorem dX6_sweep_73 : decode cX6_sweep 73 = .ok (.getfield 11, 3) := by decide +kernel
theorem dX6_sweep_76 : decode cX6_sweep 76 = .ok (.iload 4, 2) := by decide +kernel
theorem dX6_sweep_78 : decode cX6_sweep 78 = .ok (.iaload, 1) := by decide +kernel
theorem dX6_sweep_79 : decode cX6_sweep 79 = .ok (.if_icmp .le 14, 3) := by decide +kernel
theorem dX6_sweep_82 : decode cX6_sweep 82 = .ok (.aload_n 0, 1) := by decide +kernel
theorem dX6_sweep_83 : decode cX6_sweep 83 = .ok (.getfield 11, 3) := by decide +kernel
theorem dX6_sweep_86 : decode cX6_sweep 86 = .ok (.iload 4, 2) := by decide +kernel
theorem dX6_sweep_88 : decode cX6_sweep 88 = .ok (.iload 6, 2) := by decide +kernel
theorem dX6_sweep_90 : decode cX6_sweep 90 = .ok (.iastore, 1) := by decide +kernel
theorem dX6_sweep_91 : decode cX6_sweep 91 = .ok (.iconst 1, 1) := by decide +kernel
theorem dX6_sweep_92 : decode cX6_sweep 92 = .ok (.istore_n 2, 1) := by decide +kernel
theorem dX6_sweep_93 : decode cX6_sweep 93 = .ok (.iinc 5 1, 3) := by decide +kernel
theorem dX6_sweep_96 : decode cX6_sweep 96 = .ok (.goto (-77), 3) := by decide +kernel
theorem dX6_sweep_99 : decode cX6_sweep 99 = .ok (.iinc 3 (-1), 3) := by decide +kernel
theorem dX6_sweep_102 : decode cX6_sweep 102 = .ok (.goto (-98), 3) := by decide +kernel
theorem dX6_sweep_105 : decode cX6_sweep 105 = .ok (.iload_n 2, 1) := by decide +kernel
theorem dX6_sweep_106 : decode cX6_sweep 106 = .ok (.ireturn, 1) := by decide +kernel
set_option maxRecDepth 20000 in
theorem ggX6_farOfRule_X0_comesToWords : GoodIn wsX6_farOfRule wsX0_comesToWords := goodIn_r _ [11, 12, 13, 14, 15, 16, 17, 18, 19, 20, 21, 22, 23, 24, 25, 26, 27, 10, 28, 29, 30, 31, 32, 33, 77, 78, 79, 80, 81, 82, 83, 84, 85, 86, 87, 88] (by decide +kernel) (by decide +kernel)
set_option maxRecDepth 20000 in
theorem gX6_farOfRule_X0_comesToWords : GoodIn wsX6_farOfRule (wsV RX6 55 RX0 yX0_comesToWords wsX0_comesToWords) := goodIn_app (goodIn_of _ (by decide +kernel)) ggX6_farOfRule_X0_comesToWords
set_option maxRecDepth 20000 in
theorem ggX6_farOfRule_X4_lengthOf : GoodIn wsX6_farOfRule wsX4_lengthOf := goodIn_r _ [18, 19, 82, 83, 84, 85, 86, 87, 88] (by decide +kernel) (by decide +kernel)
set_option maxRecDepth 20000 in
theorem gX6_farOfRule_X4_lengthOf : GoodIn wsX6_farOfRule (wsV RX6 58 RX4 yX4_lengthOf wsX4_lengthOf) := goodIn_app (goodIn_of _ (by decide +kernel)) ggX6_farOfRule_X4_lengthOf
set_option maxRecDepth 20000 in
theorem ggX6_farOfRule_X4_signAt : GoodIn wsX6_farOfRule wsX4_signAt := goodIn_r _ [23, 24, 82, 83, 84, 85, 86, 87, 88] (by decide +kernel) (by decide +kernel)
set_option maxRecDepth 20000 in
theorem gX6_farOfRule_X4_signAt : GoodIn wsX6_farOfRule (wsV RX6 61 RX4 yX4_signAt wsX4_signAt) := goodIn_app (goodIn_of _ (by decide +kernel)) ggX6_farOfRule_X4_signAt
set_option maxRecDepth 20000 in
theorem ggX6_farOfRule_X6_farFrom : GoodIn wsX6_farOfRule wsX6_farFrom := goodIn_r _ [40, 1, 3, 4, 5, 6, 41, 42, 43, 10, 44, 45, 46, 47, 48, 49, 39, 50, 51, 52, 53, 54, 55, 56, 57, 58, 59, 60, 61, 62, 75, 76, 77, 78, 79, 80, 81, 89, 90] (by decide +kernel) (by decide +kernel)
set_option maxRecDepth 20000 in
theorem gX6_farOfRule_X6_farFrom : GoodIn wsX6_farOfRule (wsV RX6 64 RX6 yX6_farFrom wsX6_farFrom) := goodIn_app (goodIn_of _ (by decide +kernel)) ggX6_farOfRule_X6_farFrom
set_option maxRecDepth 20000 in
theorem ggX6_farOfRule_X6_endsBehind : GoodIn wsX6_farOfRule wsX6_endsBehind := goodIn_r _ [66, 1, 41, 42, 43, 10, 44, 45, 46, 67, 68, 69, 70, 13, 25, 26, 27, 28, 29, 30, 31, 32, 33, 71, 72, 73, 74, 75, 76, 77, 78, 79, 80, 81, 89, 90] (by decide +kernel) (by decide +kernel)
set_option maxRecDepth 20000 in
theorem gX6_farOfRule_X6_endsBehind : GoodIn wsX6_farOfRule (wsV RX6 72 RX6 yX6_endsBehind wsX6_endsBehind) := goodIn_app (goodIn_of _ (by decide +kernel)) ggX6_farOfRule_X6_endsBehind
theorem dX6_farOfRule_0 : decode cX6_farOfRule 0 = .ok (.aload_n 0, 1) := by decide +kernel
theorem dX6_farOfRule_1 : decode cX6_farOfRule 1 = .ok (.getfield 17, 3) := by decide +kernel
theorem dX6_farOfRule_4 : decode cX6_farOfRule 4 = .ok (.iload_n 1, 1) := by decide +kernel
theorem dX6_farOfRule_5 : decode cX6_farOfRule 5 = .ok (.invokevirtual 55, 3) := by decide +kernel
theorem dX6_farOfRule_8 : decode cX6_farOfRule 8 = .ok (.ifCond .ne 5, 3) := by decide +kernel
theorem dX6_farOfRule_11 : decode cX6_farOfRule 11 = .ok (.iconst (-1), 1) := by decide +kernel
theorem dX6_farOfRule_12 : decode cX6_farOfRule 12 = .ok (.ireturn, 1) := by decide +kernel
theorem dX6_farOfRule_13 : decode cX6_farOfRule 13 = .ok (.iload_n 2, 1) := by decide +kernel
theorem dX6_farOfRule_14 : decode cX6_farOfRule 14 = .ok (.istore_n 3, 1) := by decide +kernel
theorem dX6_farOfRule_15 : decode cX6_farOfRule 15 = .ok (.iconst 1, 1) := by decide +kernel
theorem dX6_farOfRule_16 : decode cX6_farOfRule 16 = .ok (.iload_n 2, 1) := by decide +kernel
theorem dX6_farOfRule_17 : decode cX6_farOfRule 17 = .ok (.ishl, 1) := by decide +kernel
theorem dX6_farOfRule_18 : decode cX6_farOfRule 18 = .ok (.istore 4, 2) := by decide +kernel
theorem dX6_farOfRule_20 : decode cX6_farOfRule 20 = .ok (.iconst 0, 1) := by decide +kernel
theorem dX6_farOfRule_21 : decode cX6_farOfRule 21 = .ok (.istore 5, 2) := by decide +kernel
theorem dX6_farOfRule_23 : decode cX6_farOfRule 23 = .ok (.iload 5, 2) := by decide +kernel
theorem dX6_farOfRule_25 : decode cX6_farOfRule 25 = .ok (.aload_n 0, 1) := by decide +kernel
theorem dX6_farOfRule_26 : decode cX6_farOfRule 26 = .ok (.getfield 17, 3) := by decide +kernel
theorem dX6_farOfRule_29 : decode cX6_farOfRule 29 = .ok (.getfield 39, 3) := by decide +kernel
theorem dX6_farOfRule_32 : decode cX6_farOfRule 32 = .ok (.iload_n 1, 1) := by decide +kernel
theorem dX6_farOfRule_33 : decode cX6_farOfRule 33 = .ok (.invokevirtual 58, 3) := by decide +kernel
theorem dX6_farOfRule_36 : decode cX6_farOfRule 36 = .ok (.if_icmp .ge 47, 3) := by decide +kernel
theorem dX6_farOfRule_39 : decode cX6_farOfRule 39 = .ok (.aload_n 0, 1) := by decide +kernel
theorem dX6_farOfRule_40 : decode cX6_farOfRule 40 = .ok (.getfield 17, 3) := by decide +kernel
theorem dX6_farOfRule_43 : decode cX6_farOfRule 43 = .ok (.getfield 39, 3) := by decide +kernel
theorem dX6_farOfRule_46 : decode cX6_farOfRule 46 = .ok (.iload_n 1, 1) := by decide +kernel
theorem dX6_farOfRule_47 : decode cX6_farOfRule 47 = .ok (.iload 5, 2) := by decide +kernel
theorem dX6_farOfRule_49 : decode cX6_farOfRule 49 = .ok (.invokevirtual 61, 3) := by decide +kernel
theorem dX6_farOfRule_52 : decode cX6_farOfRule 52 = .ok (.istore 6, 2) := by decide +kernel
theorem dX6_farOfRule_54 : decode cX6_farOfRule 54 = .ok (.iload_n 3, 1) := by decide +kernel
theorem dX6_farOfRule_55 : decode cX6_farOfRule 55 = .ok (.aload_n 0, 1) := by decide +kernel
theorem dX6_farOfRule_56 : decode cX6_farOfRule 56 = .ok (.iload 4, 2) := by decide +kernel
theorem dX6_farOfRule_58 : decode cX6_farOfRule 58 = .ok (.iload 6, 2) := by decide +kernel
theorem dX6_farOfRule_60 : decode cX6_farOfRule 60 = .ok (.invokevirtual 64, 3) := by decide +kernel
theorem dX6_farOfRule_63 : decode cX6_farOfRule 63 = .ok (.invokestatic 67, 3) := by decide +kernel
theorem dX6_farOfRule_66 : decode cX6_farOfRule 66 = .ok (.istore_n 3, 1) := by decide +kernel
theorem dX6_farOfRule_67 : decode cX6_farOfRule 67 = .ok (.aload_n 0, 1) := by decide +kernel
theorem dX6_farOfRule_68 : decode cX6_farOfRule 68 = .ok (.iload 4, 2) := by decide +kernel
theorem dX6_farOfRule_70 : decode cX6_farOfRule 70 = .ok (.iload 6, 2) := by decide +kernel
theorem dX6_farOfRule_72 : decode cX6_farOfRule 72 = .ok (.invokevirtual 72, 3) := by decide +kernel
theorem dX6_farOfRule_75 : decode cX6_farOfRule 75 = .ok (.istore 4, 2) := by decide +kernel
theorem dX6_farOfRule_77 : decode cX6_farOfRule 77 = .ok (.iinc 5 1, 3) := by decide +kernel
theorem dX6_farOfRule_80 : decode cX6_farOfRule 80 = .ok (.goto (-57), 3) := by decide +kernel
theorem dX6_farOfRule_83 : decode cX6_farOfRule 83 = .ok (.iload_n 3, 1) := by decide +kernel
theorem dX6_farOfRule_84 : decode cX6_farOfRule 84 = .ok (.ireturn, 1) := by decide +kernel
set_option maxRecDepth 20000 in
theorem ggX6_farFrom_X0_length : GoodIn wsX6_farFrom wsX0_length := goodIn_r _ [10, 11, 12, 32, 33, 34, 35, 36, 37, 38] (by decide +kernel) (by decide +kernel)
set_option maxRecDepth 20000 in
theorem gX6_farFrom_X0_length : GoodIn wsX6_farFrom (wsV RX6 27 RX0 yX0_length wsX0_length) := goodIn_app (goodIn_of _ (by decide +kernel)) ggX6_farFrom_X0_length
set_option maxRecDepth 20000 in
theorem ggX6_farFrom_X6_farOfSign : GoodIn wsX6_farFrom wsX6_farOfSign := goodIn_r _ [17, 1, 18, 19, 20, 21, 9, 22, 11, 23, 24, 25, 26, 27, 28, 29, 30, 31, 32, 33, 34, 35, 36, 37, 38] (by decide +kernel) (by decide +kernel)
set_option maxRecDepth 20000 in
theorem gX6_farFrom_X6_farOfSign : GoodIn wsX6_farFrom (wsV RX6 35 RX6 yX6_farOfSign wsX6_farOfSign) := goodIn_app (goodIn_of _ (by decide +kernel)) ggX6_farFrom_X6_farOfSign
theorem dX6_farFrom_0 : decode cX6_farFrom 0 = .ok (.iconst (-1), 1) := by decide +kernel
theorem dX6_farFrom_1 : decode cX6_farFrom 1 = .ok (.istore_n 3, 1) := by decide +kernel
theorem dX6_farFrom_2 : decode cX6_farFrom 2 = .ok (.iconst 0, 1) := by decide +kernel
theorem dX6_farFrom_3 : decode cX6_farFrom 3 = .ok (.istore 4, 2) := by decide +kernel
theorem dX6_farFrom_5 : decode cX6_farFrom 5 = .ok (.iload 4, 2) := by decide +kernel
theorem dX6_farFrom_7 : decode cX6_farFrom 7 = .ok (.aload_n 0, 1) := by decide +kernel
theorem dX6_farFrom_8 : decode cX6_farFrom 8 = .ok (.getfield 17, 3) := by decide +kernel
theorem dX6_farFrom_11 : decode cX6_farFrom 11 = .ok (.invokevirtual 27, 3) := by decide +kernel
theorem dX6_farFrom_14 : decode cX6_farFrom 14 = .ok (.if_icmp .gt 30, 3) := by decide +kernel
theorem dX6_farFrom_17 : decode cX6_farFrom 17 = .ok (.iload_n 1, 1) := by decide +kernel
theorem dX6_farFrom_18 : decode cX6_farFrom 18 = .ok (.iload 4, 2) := by decide +kernel
theorem dX6_farFrom_20 : decode cX6_farFrom 20 = .ok (.ishr, 1) := by decide +kernel
theorem dX6_farFrom_21 : decode cX6_farFrom 21 = .ok (.iconst 1, 1) := by decide +kernel
theorem dX6_farFrom_22 : decode cX6_farFrom 22 = .ok (.iand, 1) := by decide +kernel
theorem dX6_farFrom_23 : decode cX6_farFrom 23 = .ok (.ifCond .eq 15, 3) := by decide +kernel
theorem dX6_farFrom_26 : decode cX6_farFrom 26 = .ok (.iload_n 3, 1) := by decide +kernel
theorem dX6_farFrom_27 : decode cX6_farFrom 27 = .ok (.aload_n 0, 1) := by decide +kernel
theorem dX6_farFrom_28 : decode cX6_farFrom 28 = .ok (.iload_n 2, 1) := by decide +kernel
theorem dX6_farFrom_29 : decode cX6_farFrom 29 = .ok (.iload 4, 2) := by decide +kernel
theorem dX6_farFrom_31 : decode cX6_farFrom 31 = .ok (.invokevirtual 35, 3) := by decide +kernel
theorem dX6_farFrom_34 : decode cX6_farFrom 34 = .ok (.invokestatic 67, 3) := by decide +kernel
theorem dX6_farFrom_37 : decode cX6_farFrom 37 = .ok (.istore_n 3, 1) := by decide +kernel
theorem dX6_farFrom_38 : decode cX6_farFrom 38 = .ok (.iinc 4 1, 3) := by decide +kernel
theorem dX6_farFrom_41 : decode cX6_farFrom 41 = .ok (.goto (-36), 3) := by decide +kernel
theorem dX6_farFrom_44 : decode cX6_farFrom 44 = .ok (.iload_n 3, 1) := by decide +kernel
theorem dX6_farFrom_45 : decode cX6_farFrom 45 = .ok (.ireturn, 1) := by decide +kernel
set_option maxRecDepth 20000 in
theorem ggX6_farOfSign_X0_letterStandsAt : GoodIn wsX6_farOfSign wsX0_letterStandsAt := goodIn_r _ [7, 8, 9, 10, 11, 12, 13, 14, 15, 18, 19, 20, 21, 22, 23, 24] (by decide +kernel) (by decide +kernel)
set_option maxRecDepth 20000 in
theorem gX6_farOfSign_X0_letterStandsAt : GoodIn wsX6_farOfSign (wsV RX6 75 RX0 yX0_letterStandsAt wsX0_letterStandsAt) := goodIn_app (goodIn_of _ (by decide +kernel)) ggX6_farOfSign_X0_letterStandsAt
theorem dX6_farOfSign_0 : decode cX6_farOfSign 0 = .ok (.iload_n 1, 1) := by decide +kernel
theorem dX6_farOfSign_1 : decode cX6_farOfSign 1 = .ok (.iconst 4, 1) := by decide +kernel
theorem dX6_farOfSign_2 : decode cX6_farOfSign 2 = .ok (.if_icmp .ge 23, 3) := by decide +kernel
theorem dX6_farOfSign_5 : decode cX6_farOfSign 5 = .ok (.aload_n 0, 1) := by decide +kernel
theorem dX6_farOfSign_6 : decode cX6_farOfSign 6 = .ok (.getfield 17, 3) := by decide +kernel
theorem dX6_farOfSign_9 : decode cX6_farOfSign 9 = .ok (.iload_n 1, 1) := by decide +kernel
theorem dX6_farOfSign_10 : decode cX6_farOfSign 10 = .ok (.iload_n 2, 1) := by decide +kernel
theorem dX6_farOfSign_11 : decode cX6_farOfSign 11 = .ok (.invokevirtual 75, 3) := by decide +kernel
theorem dX6_farOfSign_14 : decode cX6_farOfSign 14 = .ok (.ifCond .eq 9, 3) := by decide +kernel
theorem dX6_farOfSign_17 : decode cX6_farOfSign 17 = .ok (.iload_n 2, 1) := by decide +kernel
theorem dX6_farOfSign_18 : decode cX6_farOfSign 18 = .ok (.iconst 1, 1) := by decide +kernel
theorem dX6_farOfSign_19 : decode cX6_farOfSign 19 = .ok (.iadd, 1) := by decide +kernel
theorem dX6_farOfSign_20 : decode cX6_farOfSign 20 = .ok (.goto 4, 3) := by decide +kernel
theorem dX6_farOfSign_23 : decode cX6_farOfSign 23 = .ok (.iload_n 2, 1) := by decide +kernel
theorem dX6_farOfSign_24 : decode cX6_farOfSign 24 = .ok (.ireturn, 1) := by decide +kernel
theorem dX6_farOfSign_25 : decode cX6_farOfSign 25 = .ok (.iload_n 1, 1) := by decide +kernel
theorem dX6_farOfSign_26 : decode cX6_farOfSign 26 = .ok (.iconst 4, 1) := by decide +kernel
theorem dX6_farOfSign_27 : decode cX6_farOfSign 27 = .ok (.isub, 1) := by decide +kernel
theorem dX6_farOfSign_28 : decode cX6_farOfSign 28 = .ok (.bipush 7, 2) := by decide +kernel
theorem dX6_farOfSign_30 : decode cX6_farOfSign 30 = .ok (.imul, 1) := by decide +kernel
theorem dX6_farOfSign_31 : decode cX6_farOfSign 31 = .ok (.iload_n 2, 1) := by decide +kernel
theorem dX6_farOfSign_32 : decode cX6_farOfSign 32 = .ok (.iadd, 1) := by decide +kernel
theorem dX6_farOfSign_33 : decode cX6_farOfSign 33 = .ok (.istore_n 3, 1) := by decide +kernel
theorem dX6_farOfSign_34 : decode cX6_farOfSign 34 = .ok (.iload_n 3, 1) := by decide +kernel
theorem dX6_farOfSign_35 : decode cX6_farOfSign 35 = .ok (.ifCond .lt 21, 3) := by decide +kernel
theorem dX6_farOfSign_38 : decode cX6_farOfSign 38 = .ok (.iload_n 3, 1) := by decide +kernel
theorem dX6_farOfSign_39 : decode cX6_farOfSign 39 = .ok (.aload_n 0, 1) := by decide +kernel
theorem dX6_farOfSign_40 : decode cX6_farOfSign 40 = .ok (.getfield 11, 3) := by decide +kernel
theorem dX6_farOfSign_43 : decode cX6_farOfSign 43 = .ok (.arraylength, 1) := by decide +kernel
theorem dX6_farOfSign_44 : decode cX6_farOfSign 44 = .ok (.if_icmp .ge 12, 3) := by decide +kernel
theorem dX6_farOfSign_47 : decode cX6_farOfSign 47 = .ok (.aload_n 0, 1) := by decide +kernel
theorem dX6_farOfSign_48 : decode cX6_farOfSign 48 = .ok (.getfield 11, 3) := by decide +kernel
theorem dX6_farOfSign_51 : decode cX6_farOfSign 51 = .ok (.iload_n 3, 1) := by decide +kernel
theorem dX6_farOfSign_52 : decode cX6_farOfSign 52 = .ok (.iaload, 1) := by decide +kernel
theorem dX6_farOfSign_53 : decode cX6_farOfSign 53 = .ok (.goto 4, 3) := by decide +kernel
theorem dX6_farOfSign_56 : decode cX6_farOfSign 56 = .ok (.iconst (-1), 1) := by decide +kernel
theorem dX6_farOfSign_57 : decode cX6_farOfSign 57 = .ok (.ireturn, 1) := by decide +kernel
set_option maxRecDepth 20000 in
theorem ggX6_endsBehind_X0_length : GoodIn wsX6_endsBehind wsX0_length := goodIn_r _ [6, 7, 8, 29, 30, 31, 32, 33, 34, 35] (by decide +kernel) (by decide +kernel)
set_option maxRecDepth 20000 in
theorem gX6_endsBehind_X0_length : GoodIn wsX6_endsBehind (wsV RX6 27 RX0 yX0_length wsX0_length) := goodIn_app (goodIn_of _ (by decide +kernel)) ggX6_endsBehind_X0_length
set_option maxRecDepth 20000 in
theorem ggX6_endsBehind_X0_fitsAsItIs : GoodIn wsX6_endsBehind wsX0_fitsAsItIs := goodIn_r _ [12, 13, 14, 15, 16, 5, 17, 18, 19, 20, 21, 22, 23, 24, 25, 26, 29, 30, 31, 32, 33] (by decide +kernel) (by decide +kernel)
set_option maxRecDepth 20000 in
theorem gX6_endsBehind_X0_fitsAsItIs : GoodIn wsX6_endsBehind (wsV RX6 79 RX0 yX0_fitsAsItIs wsX0_fitsAsItIs) := goodIn_app (goodIn_of _ (by decide +kernel)) ggX6_endsBehind_X0_fitsAsItIs
theorem dX6_endsBehind_0 : decode cX6_endsBehind 0 = .ok (.iconst 0, 1) := by decide +kernel
theorem dX6_endsBehind_1 : decode cX6_endsBehind 1 = .ok (.istore_n 3, 1) := by decide +kernel
theorem dX6_endsBehind_2 : decode cX6_endsBehind 2 = .ok (.iconst 0, 1) := by decide +kernel
theorem dX6_endsBehind_3 : decode cX6_endsBehind 3 = .ok (.istore 4, 2) := by decide +kernel
theorem dX6_endsBehind_5 : decode cX6_endsBehind 5 = .ok (.iload 4, 2) := by decide +kernel
theorem dX6_endsBehind_7 : decode cX6_endsBehind 7 = .ok (.aload_n 0, 1) := by decide +kernel
theorem dX6_endsBehind_8 : decode cX6_endsBehind 8 = .ok (.getfield 17, 3) := by decide +kernel
theorem dX6_endsBehind_11 : decode cX6_endsBehind 11 = .ok (.invokevirtual 27, 3) := by decide +kernel
theorem dX6_endsBehind_14 : decode cX6_endsBehind 14 = .ok (.if_icmp .gt 62, 3) := by decide +kernel
theorem dX6_endsBehind_17 : decode cX6_endsBehind 17 = .ok (.iload 4, 2) := by decide +kernel
theorem dX6_endsBehind_19 : decode cX6_endsBehind 19 = .ok (.istore 5, 2) := by decide +kernel
theorem dX6_endsBehind_21 : decode cX6_endsBehind 21 = .ok (.iload_n 1, 1) := by decide +kernel
theorem dX6_endsBehind_22 : decode cX6_endsBehind 22 = .ok (.iload 4, 2) := by decide +kernel
theorem dX6_endsBehind_24 : decode cX6_endsBehind 24 = .ok (.ishr, 1) := by decide +kernel
theorem dX6_endsBehind_25 : decode cX6_endsBehind 25 = .ok (.iconst 1, 1) := by decide +kernel
theorem dX6_endsBehind_26 : decode cX6_endsBehind 26 = .ok (.iand, 1) := by decide +kernel
theorem dX6_endsBehind_27 : decode cX6_endsBehind 27 = .ok (.ifCond .eq 43, 3) := by decide +kernel
theorem dX6_endsBehind_30 : decode cX6_endsBehind 30 = .ok (.iload 5, 2) := by decide +kernel
theorem dX6_endsBehind_32 : decode cX6_endsBehind 32 = .ok (.aload_n 0, 1) := by decide +kernel
theorem dX6_endsBehind_33 : decode cX6_endsBehind 33 = .ok (.getfield 17, 3) := by decide +kernel
theorem dX6_endsBehind_36 : decode cX6_endsBehind 36 = .ok (.invokevirtual 27, 3) := by decide +kernel
theorem dX6_endsBehind_39 : decode cX6_endsBehind 39 = .ok (.if_icmp .gt 31, 3) := by decide +kernel
theorem dX6_endsBehind_42 : decode cX6_endsBehind 42 = .ok (.aload_n 0, 1) := by decide +kernel
theorem dX6_endsBehind_43 : decode cX6_endsBehind 43 = .ok (.getfield 17, 3) := by decide +kernel
theorem dX6_endsBehind_46 : decode cX6_endsBehind 46 = .ok (.iload_n 2, 1) := by decide +kernel
theorem dX6_endsBehind_47 : decode cX6_endsBehind 47 = .ok (.iload 4, 2) := by decide +kernel
theorem dX6_endsBehind_49 : decode cX6_endsBehind 49 = .ok (.iload 5, 2) := by decide +kernel
theorem dX6_endsBehind_51 : decode cX6_endsBehind 51 = .ok (.invokevirtual 79, 3) := by decide +kernel
theorem dX6_endsBehind_54 : decode cX6_endsBehind 54 = .ok (.ifCond .eq 10, 3) := by decide +kernel
theorem dX6_endsBehind_57 : decode cX6_endsBehind 57 = .ok (.iload_n 3, 1) := by decide +kernel
theorem dX6_endsBehind_58 : decode cX6_endsBehind 58 = .ok (.iconst 1, 1) := by decide +kernel
theorem dX6_endsBehind_59 : decode cX6_endsBehind 59 = .ok (.iload 5, 2) := by decide +kernel
theorem dX6_endsBehind_61 : decode cX6_endsBehind 61 = .ok (.ishl, 1) := by decide +kernel
theorem dX6_endsBehind_62 : decode cX6_endsBehind 62 = .ok (.ior, 1) := by decide +kernel
theorem dX6_endsBehind_63 : decode cX6_endsBehind 63 = .ok (.istore_n 3, 1) := by decide +kernel
theorem dX6_endsBehind_64 : decode cX6_endsBehind 64 = .ok (.iinc 5 1, 3) := by decide +kernel
theorem dX6_endsBehind_67 : decode cX6_endsBehind 67 = .ok (.goto (-46), 3) := by decide +kernel
theorem dX6_endsBehind_70 : decode cX6_endsBehind 70 = .ok (.iinc 4 1, 3) := by decide +kernel
theorem dX6_endsBehind_73 : decode cX6_endsBehind 73 = .ok (.goto (-68), 3) := by decide +kernel
theorem dX6_endsBehind_76 : decode cX6_endsBehind 76 = .ok (.iload_n 3, 1) := by decide +kernel
theorem dX6_endsBehind_77 : decode cX6_endsBehind 77 = .ok (.ireturn, 1) := by decide +kernel
theorem dX7_init_0 : decode cX7_init 0 = .ok (.aload_n 0, 1) := by decide +kernel
theorem dX7_init_1 : decode cX7_init 1 = .ok (.invokespecial 3, 3) := by decide +kernel
theorem dX7_init_4 : decode cX7_init 4 = .ok (.aload_n 0, 1) := by decide +kernel
theorem dX7_init_5 : decode cX7_init 5 = .ok (.bipush 91, 2) := by decide +kernel
theorem dX7_init_7 : decode cX7_init 7 = .ok (.newarray .int, 2) := by decide +kernel
theorem dX7_init_9 : decode cX7_init 9 = .ok (.putfield 11, 3) := by decide +kernel
theorem dX7_init_12 : decode cX7_init 12 = .ok (.aload_n 0, 1) := by decide +kernel
theorem dX7_init_13 : decode cX7_init 13 = .ok (.bipush 91, 2) := by decide +kernel
theorem dX7_init_15 : decode cX7_init 15 = .ok (.newarray .int, 2) := by decide +kernel
theorem dX7_init_17 : decode cX7_init 17 = .ok (.putfield 15, 3) := by decide +kernel
theorem dX7_init_20 : decode cX7_init 20 = .ok (.aload_n 0, 1) := by decide +kernel
theorem dX7_init_21 : decode cX7_init 21 = .ok (.aload_n 1, 1) := by decide +kernel
theorem dX7_init_22 : decode cX7_init 22 = .ok (.putfield 18, 3) := by decide +kernel
theorem dX7_init_25 : decode cX7_init 25 = .ok (.return_, 1) := by decide +kernel
set_option maxRecDepth 20000 in
theorem ggX7_fill_X7_clear : GoodIn wsX7_fill wsX7_clear := goodIn_r _ [7, 8, 9, 10, 41, 42, 43] (by decide +kernel) (by decide +kernel)
set_option maxRecDepth 20000 in
theorem gX7_fill_X7_clear : GoodIn wsX7_fill (wsV RX7 28 RX7 yX7_clear wsX7_clear) := goodIn_app (goodIn_of _ (by decide +kernel)) ggX7_fill_X7_clear
set_option maxRecDepth 20000 in
theorem ggX7_fill_X1_drop : GoodIn wsX7_fill wsX1_drop := goodIn_r _ [15, 16, 44] (by decide +kernel) (by decide +kernel)
set_option maxRecDepth 20000 in
theorem gX7_fill_X1_drop : GoodIn wsX7_fill (wsV RX7 32 RX1 yX1_drop wsX1_drop) := goodIn_app (goodIn_of _ (by decide +kernel)) ggX7_fill_X1_drop
set_option maxRecDepth 20000 in
theorem ggX7_fill_X7_offer : GoodIn wsX7_fill wsX7_offer := goodIn_r _ [20, 8, 9, 41, 42, 43] (by decide +kernel) (by decide +kernel)
set_option maxRecDepth 20000 in
theorem gX7_fill_X7_offer : GoodIn wsX7_fill (wsV RX7 38 RX7 yX7_offer wsX7_offer) := goodIn_app (goodIn_of _ (by decide +kernel)) ggX7_fill_X7_offer
set_option maxRecDepth 20000 in
theorem ggX7_fill_X1_put : GoodIn wsX7_fill wsX1_put := goodIn_r _ [24, 16, 44] (by decide +kernel) (by decide +kernel)
set_option maxRecDepth 20000 in
theorem gX7_fill_X1_put : GoodIn wsX7_fill (wsV RX7 42 RX1 yX1_put wsX1_put) := goodIn_app (goodIn_of _ (by decide +kernel)) ggX7_fill_X1_put
set_option maxRecDepth 20000 in
theorem ggX7_fill_X7_letter : GoodIn wsX7_fill wsX7_letter := goodIn_r _ [27, 1, 28, 29, 30, 31, 32, 33, 34, 39, 40] (by decide +kernel) (by decide +kernel)
set_option maxRecDepth 20000 in
theorem gX7_fill_X7_letter : GoodIn wsX7_fill (va_wsS RX7 45 yX7_letter wsX7_letter) := goodIn_app (goodIn_of _ (by decide +kernel)) ggX7_fill_X7_letter
set_option maxRecDepth 20000 in
theorem ggX7_fill_X1_change : GoodIn wsX7_fill wsX1_change := goodIn_r _ [38, 16, 44] (by decide +kernel) (by decide +kernel)
set_option maxRecDepth 20000 in
theorem gX7_fill_X1_change : GoodIn wsX7_fill (wsV RX7 49 RX1 yX1_change wsX1_change) := goodIn_app (goodIn_of _ (by decide +kernel)) ggX7_fill_X1_change
theorem dX7_fill_0 : decode cX7_fill 0 = .ok (.iconst 0, 1) := by decide +kernel
theorem dX7_fill_1 : decode cX7_fill 1 = .ok (.istore 4, 2) := by decide +kernel
theorem dX7_fill_3 : decode cX7_fill 3 = .ok (.iload 4, 2) := by decide +kernel
theorem dX7_fill_5 : decode cX7_fill 5 = .ok (.aload_n 1, 1) := by decide +kernel
theorem dX7_fill_6 : decode cX7_fill 6 = .ok (.getfield 22, 3) := by decide +kernel
theorem dX7_fill_9 : decode cX7_fill 9 = .ok (.if_icmp .gt 151, 3) := by decide +kernel
theorem dX7_fill_12 : decode cX7_fill 12 = .ok (.iconst 0, 1) := by decide +kernel
theorem dX7_fill_13 : decode cX7_fill 13 = .ok (.istore 5, 2) := by decide +kernel
theorem dX7_fill_15 : decode cX7_fill 15 = .ok (.iload 5, 2) := by decide +kernel
theorem dX7_fill_17 : decode cX7_fill 17 = .ok (.aload_n 2, 1) := by decide +kernel
theorem dX7_fill_18 : decode cX7_fill 18 = .ok (.getfield 22, 3) := by decide +kernel
theorem dX7_fill_21 : decode cX7_fill 21 = .ok (.if_icmp .gt 133, 3) := by decide +kernel
theorem dX7_fill_24 : decode cX7_fill 24 = .ok (.iload 4, 2) := by decide +kernel
theorem dX7_fill_26 : decode cX7_fill 26 = .ok (.bipush 13, 2) := by decide +kernel
theorem dX7_fill_28 : decode cX7_fill 28 = .ok (.imul, 1) := by decide +kernel
theorem dX7_fill_29 : decode cX7_fill 29 = .ok (.iload 5, 2) := by decide +kernel
theorem dX7_fill_31 : decode cX7_fill 31 = .ok (.iadd, 1) := by decide +kernel
theorem dX7_fill_32 : decode cX7_fill 32 = .ok (.istore 6, 2) := by decide +kernel
theorem dX7_fill_34 : decode cX7_fill 34 = .ok (.aload_n 0, 1) := by decide +kernel
theorem dX7_fill_35 : decode cX7_fill 35 = .ok (.iload 6, 2) := by decide +kernel
theorem dX7_fill_37 : decode cX7_fill 37 = .ok (.invokevirtual 28, 3) := by decide +kernel
theorem dX7_fill_40 : decode cX7_fill 40 = .ok (.iload 4, 2) := by decide +kernel
theorem dX7_fill_42 : decode cX7_fill 42 = .ok (.ifCond .le 21, 3) := by decide +kernel
theorem dX7_fill_45 : decode cX7_fill 45 = .ok (.aload_n 0, 1) := by decide +kernel
theorem dX7_fill_46 : decode cX7_fill 46 = .ok (.iload 6, 2) := by decide +kernel
theorem dX7_fill_48 : decode cX7_fill 48 = .ok (.iload 6, 2) := by decide +kernel
theorem dX7_fill_50 : decode cX7_fill 50 = .ok (.bipush 13, 2) := by decide +kernel
theorem dX7_fill_52 : decode cX7_fill 52 = .ok (.isub, 1) := by decide +kernel
theorem dX7_fill_53 : decode cX7_fill 53 = .ok (.aload_n 0, 1) := by decide +kernel
theorem dX7_fill_54 : decode cX7_fill 54 = .ok (.getfield 18, 3) := by decide +kernel
theorem dX7_fill_57 : decode cX7_fill 57 = .ok (.invokevirtual 32, 3) := by decide +kernel
theorem dX7_fill_60 : decode cX7_fill 60 = .ok (.invokevirtual 38, 3) := by decide +kernel
theorem dX7_fill_63 : decode cX7_fill 63 = .ok (.iload 5, 2) := by decide +kernel
theorem dX7_fill_65 : decode cX7_fill 65 = .ok (.ifCond .le 20, 3) := by decide +kernel
theorem dX7_fill_68 : decode cX7_fill 68 = .ok (.aload_n 0, 1) := by decide +kernel
theorem dX7_fill_69 : decode cX7_fill 69 = .ok (.iload 6, 2) := by decide +kernel
theorem dX7_fill_71 : decode cX7_fill 71 = .ok (.iload 6, 2) := by decide +kernel
theorem dX7_fill_73 : decode cX7_fill 73 = .ok (.iconst 1, 1) := by decide +kernel
theorem dX7_fill_74 : decode cX7_fill 74 = .ok (.isub, 1) := by decide +kernel
theorem dX7_fill_75 : decode cX7_fill 75 = .ok (.aload_n 0, 1) := by decide +kernel
theorem dX7_fill_76 : decode cX7_fill 76 = .ok (.getfield 18, 3) := by decide +kernel
theorem dX7_fill_79 : decode cX7_fill 79 = .ok (.invokevirtual 42, 3) := by decide +kernel
theorem dX7_fill_82 : decode cX7_fill 82 = .ok (.invokevirtual 38, 3) := by decide +kernel
theorem dX7_fill_85 : decode cX7_fill 85 = .ok (.iload 4, 2) := by decide +kernel
theorem dX7_fill_87 : decode cX7_fill 87 = .ok (.ifCond .le 61, 3) := by decide +kernel
theorem dX7_fill_90 : decode cX7_fill 90 = .ok (.iload 5, 2) := by decide +kernel
theorem dX7_fill_92 : decode cX7_fill 92 = .ok (.ifCond .le 56, 3) := by decide +kernel
theorem dX7_fill_95 : decode cX7_fill 95 = .ok (.aload_n 1, 1) := by decide +kernel
theorem dX7_fill_96 : decode cX7_fill 96 = .ok (.iload 4, 2) := by decide +kernel
theorem dX7_fill_98 : decode cX7_fill 98 = .ok (.iload_n 3, 1) := by decide +kernel
theorem dX7_fill_99 : decode cX7_fill 99 = .ok (.invokestatic 45, 3) := by decide +kernel
theorem dX7_fill_102 : decode cX7_fill 102 = .ok (.aload_n 2, 1) := by decide +kernel
theorem dX7_fill_103 : decode cX7_fill 103 = .ok (.iload 5, 2) := by decide +kernel
theorem dX7_fill_105 : decode cX7_fill 105 = .ok (.iload_n 3, 1) := by decide +kernel
theorem dX7_fill_106 : decode cX7_fill 106 = .ok (.invokestatic 45, 3) := by decide +kernel
theorem dX7_fill_109 : decode cX7_fill 109 = .ok (.if_icmp .ne 7, 3) := by decide +kernel
theorem dX7_fill_112 : decode cX7_fill 112 = .ok (.iconst 1, 1) := by decide +kernel
theorem dX7_fill_113 : decode cX7_fill 113 = .ok (.goto 4, 3) := by decide +kernel
theorem dX7_fill_116 : decode cX7_fill 116 = .ok (.iconst 0, 1) := by decide +kernel
theorem dX7_fill_117 : decode cX7_fill 117 = .ok (.istore 7, 2) := by decide +kernel
theorem dX7_fill_119 : decode cX7_fill 119 = .ok (.aload_n 0, 1) := by decide +kernel
theorem dX7_fill_120 : decode cX7_fill 120 = .ok (.iload 6, 2) := by decide +kernel
theorem dX7_fill_122 : decode cX7_fill 122 = .ok (.iload 6, 2) := by decide +kernel
theorem dX7_fill_124 : decode cX7_fill 124 = .ok (.bipush 13, 2) := by decide +kernel
theorem dX7_fill_126 : decode cX7_fill 126 = .ok (.isub, 1) := by decide +kernel
theorem dX7_fill_127 : decode cX7_fill 127 = .ok (.iconst 1, 1) := by decide +kernel
theorem dX7_fill_128 : decode cX7_fill 128 = .ok (.isub, 1) := by decide +kernel
theorem dX7_fill_129 : decode cX7_fill 129 = .ok (.iload 7, 2) := by decide +kernel
theorem dX7_fill_131 : decode cX7_fill 131 = .ok (.ifCond .eq 7, 3) := by decide +kernel
theorem dX7_fill_134 : decode cX7_fill 134 = .ok (.iconst 0, 1) := by decide +kernel
theorem dX7_fill_135 : decode cX7_fill 135 = .ok (.goto 10, 3) := by decide +kernel
theorem dX7_fill_138 : decode cX7_fill 138 = .ok (.aload_n 0, 1) := by decide +kernel
theorem dX7_fill_139 : decode cX7_fill 139 = .ok (.getfield 18, 3) := by decide +kernel
theorem dX7_fill_142 : decode cX7_fill 142 = .ok (.invokevirtual 49, 3) := by decide +kernel
theorem dX7_fill_145 : decode cX7_fill 145 = .ok (.invokevirtual 38, 3) := by decide +kernel
theorem dX7_fill_148 : decode cX7_fill 148 = .ok (.iinc 5 1, 3) := by decide +kernel
theorem dX7_fill_151 : decode cX7_fill 151 = .ok (.goto (-136), 3) := by decide +kernel
theorem dX7_fill_154 : decode cX7_fill 154 = .ok (.iinc 4 1, 3) := by decide +kernel
theorem dX7_fill_157 : decode cX7_fill 157 = .ok (.goto (-154), 3) := by decide +kernel
theorem dX7_fill_160 : decode cX7_fill 160 = .ok (.return_, 1) := by decide +kernel
theorem dX7_leastAt_0 : decode cX7_leastAt 0 = .ok (.iload_n 1, 1) := by decide +kernel
theorem dX7_leastAt_1 : decode cX7_leastAt 1 = .ok (.bipush 13, 2) := by decide +kernel
theorem dX7_leastAt_3 : decode cX7_leastAt 3 = .ok (.imul, 1) := by decide +kernel
theorem dX7_leastAt_4 : decode cX7_leastAt 4 = .ok (.iload_n 2, 1) := by decide +kernel
theorem dX7_leastAt_5 : decode cX7_leastAt 5 = .ok (.iadd, 1) := by decide +kernel
theorem dX7_leastAt_6 : decode cX7_leastAt 6 = .ok (.istore_n 3, 1) := by decide +kernel
theorem dX7_leastAt_7 : decode cX7_leastAt 7 = .ok (.iload_n 3, 1) := by decide +kernel
theorem dX7_leastAt_8 : decode cX7_leastAt 8 = .ok (.ifCond .lt 21, 3) := by decide +kernel
theorem dX7_leastAt_11 : decode cX7_leastAt 11 = .ok (.iload_n 3, 1) := by decide +kernel
theorem dX7_leastAt_12 : decode cX7_leastAt 12 = .ok (.aload_n 0, 1) := by decide +kernel
theorem dX7_leastAt_13 : decode cX7_leastAt 13 = .ok (.getfield 11, 3) := by decide +kernel
theorem dX7_leastAt_16 : decode cX7_leastAt 16 = .ok (.arraylength, 1) := by decide +kernel
theorem dX7_leastAt_17 : decode cX7_leastAt 17 = .ok (.if_icmp .ge 12, 3) := by decide +kernel
theorem dX7_leastAt_20 : decode cX7_leastAt 20 = .ok (.aload_n 0, 1) := by decide +kernel
theorem dX7_leastAt_21 : decode cX7_leastAt 21 = .ok (.getfield 11, 3) := by decide +kernel
theorem dX7_leastAt_24 : decode cX7_leastAt 24 = .ok (.iload_n 3, 1) := by decide +kernel
theorem dX7_leastAt_25 : decode cX7_leastAt 25 = .ok (.iaload, 1) := by decide +kernel
theorem dX7_leastAt_26 : decode cX7_leastAt 26 = .ok (.goto 5, 3) := by decide +kernel
theorem dX7_leastAt_29 : decode cX7_leastAt 29 = .ok (.ldc 52, 2) := by decide +kernel
theorem dX7_leastAt_31 : decode cX7_leastAt 31 = .ok (.ireturn, 1) := by decide +kernel
theorem dX7_countAt_0 : decode cX7_countAt 0 = .ok (.iload_n 1, 1) := by decide +kernel
theorem dX7_countAt_1 : decode cX7_countAt 1 = .ok (.bipush 13, 2) := by decide +kernel
theorem dX7_countAt_3 : decode cX7_countAt 3 = .ok (.imul, 1) := by decide +kernel
theorem dX7_countAt_4 : decode cX7_countAt 4 = .ok (.iload_n 2, 1) := by decide +kernel
theorem dX7_countAt_5 : decode cX7_countAt 5 = .ok (.iadd, 1) := by decide +kernel
theorem dX7_countAt_6 : decode cX7_countAt 6 = .ok (.istore_n 3, 1) := by decide +kernel
theorem dX7_countAt_7 : decode cX7_countAt 7 = .ok (.iload_n 3, 1) := by decide +kernel
theorem dX7_countAt_8 : decode cX7_countAt 8 = .ok (.ifCond .lt 21, 3) := by decide +kernel
theorem dX7_countAt_11 : decode cX7_countAt 11 = .ok (.iload_n 3, 1) := by decide +kernel
theorem dX7_countAt_12 : decode cX7_countAt 12 = .ok (.aload_n 0, 1) := by decide +kernel
theorem dX7_countAt_13 : decode cX7_countAt 13 = .ok (.getfield 15, 3) := by decide +kernel
theorem dX7_countAt_16 : decode cX7_countAt 16 = .ok (.arraylength, 1) := by decide +kernel
theorem dX7_countAt_17 : decode cX7_countAt 17 = .ok (.if_icmp .ge 12, 3) := by decide +kernel
theorem dX7_countAt_20 : decode cX7_countAt 20 = .ok (.aload_n 0, 1) := by decide +kernel
theorem dX7_countAt_21 : decode cX7_countAt 21 = .ok (.getfield 15, 3) := by decide +kernel
theorem dX7_countAt_24 : decode cX7_countAt 24 = .ok (.iload_n 3, 1) := by decide +kernel
theorem dX7_countAt_25 : decode cX7_countAt 25 = .ok (.iaload, 1) := by decide +kernel
theorem dX7_countAt_26 : decode cX7_countAt 26 = .ok (.goto 4, 3) := by decide +kernel
theorem dX7_countAt_29 : decode cX7_countAt 29 = .ok (.iconst 0, 1) := by decide +kernel
theorem dX7_countAt_30 : decode cX7_countAt 30 = .ok (.ireturn, 1) := by decide +kernel
set_option maxRecDepth 20000 in
theorem ggX7_letter_X10_letterAt : GoodIn wsX7_letter wsX10_letterAt := goodIn_r _ [6, 7, 8, 9, 10] (by decide +kernel) (by decide +kernel)
set_option maxRecDepth 20000 in
theorem gX7_letter_X10_letterAt : GoodIn wsX7_letter (wsV RX7 53 RX10 yX10_letterAt wsX10_letterAt) := goodIn_app (goodIn_of _ (by decide +kernel)) ggX7_letter_X10_letterAt
theorem dX7_letter_0 : decode cX7_letter 0 = .ok (.aload_n 0, 1) := by decide +kernel
theorem dX7_letter_1 : decode cX7_letter 1 = .ok (.iload_n 2, 1) := by decide +kernel
theorem dX7_letter_2 : decode cX7_letter 2 = .ok (.ifCond .eq 12, 3) := by decide +kernel
theorem dX7_letter_5 : decode cX7_letter 5 = .ok (.aload_n 0, 1) := by decide +kernel
theorem dX7_letter_6 : decode cX7_letter 6 = .ok (.getfield 22, 3) := by decide +kernel
theorem dX7_letter_9 : decode cX7_letter 9 = .ok (.iload_n 1, 1) := by decide +kernel
theorem dX7_letter_10 : decode cX7_letter 10 = .ok (.isub, 1) := by decide +kernel
theorem dX7_letter_11 : decode cX7_letter 11 = .ok (.goto 6, 3) := by decide +kernel
theorem dX7_letter_14 : decode cX7_letter 14 = .ok (.iload_n 1, 1) := by decide +kernel
theorem dX7_letter_15 : decode cX7_letter 15 = .ok (.iconst 1, 1) := by decide +kernel
theorem dX7_letter_16 : decode cX7_letter 16 = .ok (.isub, 1) := by decide +kernel
theorem dX7_letter_17 : decode cX7_letter 17 = .ok (.invokevirtual 53, 3) := by decide +kernel
theorem dX7_letter_20 : decode cX7_letter 20 = .ok (.ireturn, 1) := by decide +kernel
theorem dX7_clear_0 : decode cX7_clear 0 = .ok (.iload_n 1, 1) := by decide +kernel
theorem dX7_clear_1 : decode cX7_clear 1 = .ok (.ifCond .lt 52, 3) := by decide +kernel
theorem dX7_clear_4 : decode cX7_clear 4 = .ok (.iload_n 1, 1) := by decide +kernel
theorem dX7_clear_5 : decode cX7_clear 5 = .ok (.aload_n 0, 1) := by decide +kernel
theorem dX7_clear_6 : decode cX7_clear 6 = .ok (.getfield 11, 3) := by decide +kernel
theorem dX7_clear_9 : decode cX7_clear 9 = .ok (.arraylength, 1) := by decide +kernel
theorem dX7_clear_10 : decode cX7_clear 10 = .ok (.if_icmp .ge 43, 3) := by decide +kernel
theorem dX7_clear_13 : decode cX7_clear 13 = .ok (.iload_n 1, 1) := by decide +kernel
theorem dX7_clear_14 : decode cX7_clear 14 = .ok (.aload_n 0, 1) := by decide +kernel
theorem dX7_clear_15 : decode cX7_clear 15 = .ok (.getfield 15, 3) := by decide +kernel
theorem dX7_clear_18 : decode cX7_clear 18 = .ok (.arraylength, 1) := by decide +kernel
theorem dX7_clear_19 : decode cX7_clear 19 = .ok (.if_icmp .ge 34, 3) := by decide +kernel
theorem dX7_clear_22 : decode cX7_clear 22 = .ok (.aload_n 0, 1) := by decide +kernel
theorem dX7_clear_23 : decode cX7_clear 23 = .ok (.getfield 11, 3) := by decide +kernel
theorem dX7_clear_26 : decode cX7_clear 26 = .ok (.iload_n 1, 1) := by decide +kernel
theorem dX7_clear_27 : decode cX7_clear 27 = .ok (.iload_n 1, 1) := by decide +kernel
theorem dX7_clear_28 : decode cX7_clear 28 = .ok (.ifCond .ne 7, 3) := by decide +kernel
theorem dX7_clear_31 : decode cX7_clear 31 = .ok (.iconst 0, 1) := by decide +kernel
theorem dX7_clear_32 : decode cX7_clear 32 = .ok (.goto 5, 3) := by decide +kernel
theorem dX7_clear_35 : decode cX7_clear 35 = .ok (.ldc 52, 2) := by decide +kernel
theorem dX7_clear_37 : decode cX7_clear 37 = .ok (.iastore, 1) := by decide +kernel
theorem dX7_clear_38 : decode cX7_clear 38 = .ok (.aload_n 0, 1) := by decide +kernel
theorem dX7_clear_39 : decode cX7_clear 39 = .ok (.getfield 15, 3) := by decide +kernel
theorem dX7_clear_42 : decode cX7_clear 42 = .ok (.iload_n 1, 1) := by decide +kernel
theorem dX7_clear_43 : decode cX7_clear 43 = .ok (.iload_n 1, 1) := by decide +kernel
theorem dX7_clear_44 : decode cX7_clear 44 = .ok (.ifCond .ne 7, 3) := by decide +kernel
theorem dX7_clear_47 : decode cX7_clear 47 = .ok (.iconst 1, 1) := by decide +kernel
theorem dX7_clear_48 : decode cX7_clear 48 = .ok (.goto 4, 3) := by decide +kernel
theorem dX7_clear_51 : decode cX7_clear 51 = .ok (.iconst 0, 1) := by decide +kernel
theorem dX7_clear_52 : decode cX7_clear 52 = .ok (.iastore, 1) := by decide +kernel
theorem dX7_clear_53 : decode cX7_clear 53 = .ok (.return_, 1) := by decide +kernel
theorem dX7_offer_0 : decode cX7_offer 0 = .ok (.iload_n 2, 1) := by decide +kernel
theorem dX7_offer_1 : decode cX7_offer 1 = .ok (.ifCond .lt 26, 3) := by decide +kernel
theorem dX7_offer_4 : decode cX7_offer 4 = .ok (.iload_n 2, 1) := by decide +kernel
theorem dX7_offer_5 : decode cX7_offer 5 = .ok (.iload_n 1, 1) := by decide +kernel
theorem dX7_offer_6 : decode cX7_offer 6 = .ok (.if_icmp .ge 21, 3) := by decide +kernel
theorem dX7_offer_9 : decode cX7_offer 9 = .ok (.iload_n 1, 1) := by decide +kernel
theorem dX7_offer_10 : decode cX7_offer 10 = .ok (.aload_n 0, 1) := by decide +kernel
theorem dX7_offer_11 : decode cX7_offer 11 = .ok (.getfield 11, 3) := by decide +kernel
theorem dX7_offer_14 : decode cX7_offer 14 = .ok (.arraylength, 1) := by decide +kernel
theorem dX7_offer_15 : decode cX7_offer 15 = .ok (.if_icmp .ge 12, 3) := by decide +kernel
theorem dX7_offer_18 : decode cX7_offer 18 = .ok (.iload_n 1, 1) := by decide +kernel
theorem dX7_offer_19 : decode cX7_offer 19 = .ok (.aload_n 0, 1) := by decide +kernel
theorem dX7_offer_20 : decode cX7_offer 20 = .ok (.getfield 15, 3) := by decide +kernel
theorem dX7_offer_23 : decode cX7_offer 23 = .ok (.arraylength, 1) := by decide +kernel
theorem dX7_offer_24 : decode cX7_offer 24 = .ok (.if_icmp .lt 4, 3) := by decide +kernel
theorem dX7_offer_27 : decode cX7_offer 27 = .ok (.return_, 1) := by decide +kernel
theorem dX7_offer_28 : decode cX7_offer 28 = .ok (.aload_n 0, 1) := by decide +kernel
theorem dX7_offer_29 : decode cX7_offer 29 = .ok (.getfield 11, 3) := by decide +kernel
theorem dX7_offer_32 : decode cX7_offer 32 = .ok (.iload_n 2, 1) := by decide +kernel
theorem dX7_offer_33 : decode cX7_offer 33 = .ok (.iaload, 1) := by decide +kernel
theorem dX7_offer_34 : decode cX7_offer 34 = .ok (.iload_n 3, 1) := by decide +kernel
theorem dX7_offer_35 : decode cX7_offer 35 = .ok (.iadd, 1) := by decide +kernel
theorem dX7_offer_36 : decode cX7_offer 36 = .ok (.istore 4, 2) := by decide +kernel
theorem dX7_offer_38 : decode cX7_offer 38 = .ok (.iload 4, 2) := by decide +kernel
theorem dX7_offer_40 : decode cX7_offer 40 = .ok (.aload_n 0, 1) := by decide +kernel
theorem dX7_offer_41 : decode cX7_offer 41 = .ok (.getfield 11, 3) := by decide +kernel
theorem dX7_offer_44 : decode cX7_offer 44 = .ok (.iload_n 1, 1) := by decide +kernel
theorem dX7_offer_45 : decode cX7_offer 45 = .ok (.iaload, 1) := by decide +kernel
theorem dX7_offer_46 : decode cX7_offer 46 = .ok (.if_icmp .ge 18, 3) := by decide +kernel
theorem dX7_offer_49 : decode cX7_offer 49 = .ok (.aload_n 0, 1) := by decide +kernel
theorem dX7_offer_50 : decode cX7_offer 50 = .ok (.getfield 11, 3) := by decide +kernel
theorem dX7_offer_53 : decode cX7_offer 53 = .ok (.iload_n 1, 1) := by decide +kernel
theorem dX7_offer_54 : decode cX7_offer 54 = .ok (.iload 4, 2) := by decide +kernel
theorem dX7_offer_56 : decode cX7_offer 56 = .ok (.iastore, 1) := by decide +kernel
theorem dX7_offer_57 : decode cX7_offer 57 = .ok (.aload_n 0, 1) := by decide +kernel
theorem dX7_offer_58 : decode cX7_offer 58 = .ok (.getfield 15, 3) := by decide +kernel
theorem dX7_offer_61 : decode cX7_offer 61 = .ok (.iload_n 1, 1) := by decide +kernel
theorem dX7_offer_62 : decode cX7_offer 62 = .ok (.iconst 0, 1) := by decide +kernel
theorem dX7_offer_63 : decode cX7_offer 63 = .ok (.iastore, 1) := by decide +kernel
theorem dX7_offer_64 : decode cX7_offer 64 = .ok (.iload 4, 2) := by decide +kernel
theorem dX7_offer_66 : decode cX7_offer 66 = .ok (.aload_n 0, 1) := by decide +kernel
theorem dX7_offer_67 : decode cX7_offer 67 = .ok (.getfield 11, 3) := by decide +kernel
theorem dX7_offer_70 : decode cX7_offer 70 = .ok (.iload_n 1, 1) := by decide +kernel
theorem dX7_offer_71 : decode cX7_offer 71 = .ok (.iaload, 1) := by decide +kernel
theorem dX7_offer_72 : decode cX7_offer 72 = .ok (.if_icmp .ne 18, 3) := by decide +kernel
theorem dX7_offer_75 : decode cX7_offer 75 = .ok (.aload_n 0, 1) := by decide +kernel
theorem dX7_offer_76 : decode cX7_offer 76 = .ok (.getfield 15, 3) := by decide +kernel
theorem dX7_offer_79 : decode cX7_offer 79 = .ok (.iload_n 1, 1) := by decide +kernel
theorem dX7_offer_80 : decode cX7_offer 80 = .ok (.dup2, 1) := by decide +kernel
theorem dX7_offer_81 : decode cX7_offer 81 = .ok (.iaload, 1) := by decide +kernel
theorem dX7_offer_82 : decode cX7_offer 82 = .ok (.aload_n 0, 1) := by decide +kernel
theorem dX7_offer_83 : decode cX7_offer 83 = .ok (.getfield 15, 3) := by decide +kernel
theorem dX7_offer_86 : decode cX7_offer 86 = .ok (.iload_n 2, 1) := by decide +kernel
theorem dX7_offer_87 : decode cX7_offer 87 = .ok (.iaload, 1) := by decide +kernel
theorem dX7_offer_88 : decode cX7_offer 88 = .ok (.iadd, 1) := by decide +kernel
theorem dX7_offer_89 : decode cX7_offer 89 = .ok (.iastore, 1) := by decide +kernel
theorem dX7_offer_90 : decode cX7_offer 90 = .ok (.return_, 1) := by decide +kernel
set_option maxRecDepth 20000 in
theorem ggX8_read_X4_clear : GoodIn wsX8_read wsX4_clear := goodIn_r _ [6, 7, 8, 9, 10, 11, 12, 13, 14, 86, 87, 88, 89, 90, 91, 92] (by decide +kernel) (by decide +kernel)
set_option maxRecDepth 20000 in
theorem gX8_read_X4_clear : GoodIn wsX8_read (wsV RX8 9 RX4 yX4_clear wsX4_clear) := goodIn_app (goodIn_of _ (by decide +kernel)) ggX8_read_X4_clear
set_option maxRecDepth 20000 in
theorem ggX8_read_X5_signAt : GoodIn wsX8_read wsX5_signAt := goodIn_r _ [19, 20, 21, 84, 85] (by decide +kernel) (by decide +kernel)
set_option maxRecDepth 20000 in
theorem gX8_read_X5_signAt : GoodIn wsX8_read (wsV RX8 22 RX5 yX5_signAt wsX5_signAt) := goodIn_app (goodIn_of _ (by decide +kernel)) ggX8_read_X5_signAt
set_option maxRecDepth 20000 in
theorem ggX8_read_X8_next : GoodIn wsX8_read wsX8_next := goodIn_r _ [25, 26, 27, 28, 5, 29, 8, 9, 10, 30, 31, 32, 33, 34, 24, 35, 36, 37, 38, 39, 7, 40, 41, 42, 43, 44, 45, 46, 47, 48, 49, 50, 51, 52, 53, 54, 55, 56, 57, 58, 59, 60, 61, 62, 63, 64, 65, 66, 67, 68, 69, 70, 71, 72, 73, 74, 75, 76, 77, 78, 79, 80, 81, 82, 83, 86, 87, 88, 89, 90, 91, 92] (by decide +kernel) (by decide +kernel)
set_option maxRecDepth 20000 in
theorem gX8_read_X8_next : GoodIn wsX8_read (va_wsS RX8 26 yX8_next wsX8_next) := goodIn_app (goodIn_of _ (by decide +kernel)) ggX8_read_X8_next
theorem dX8_read_0 : decode cX8_read 0 = .ok (.aload_n 1, 1) := by decide +kernel
theorem dX8_read_1 : decode cX8_read 1 = .ok (.invokevirtual 9, 3) := by decide +kernel
theorem dX8_read_4 : decode cX8_read 4 = .ok (.iconst 0, 1) := by decide +kernel
theorem dX8_read_5 : decode cX8_read 5 = .ok (.istore_n 2, 1) := by decide +kernel
theorem dX8_read_6 : decode cX8_read 6 = .ok (.iconst 0, 1) := by decide +kernel
theorem dX8_read_7 : decode cX8_read 7 = .ok (.istore_n 3, 1) := by decide +kernel
theorem dX8_read_8 : decode cX8_read 8 = .ok (.iload_n 3, 1) := by decide +kernel
theorem dX8_read_9 : decode cX8_read 9 = .ok (.aload_n 0, 1) := by decide +kernel
theorem dX8_read_10 : decode cX8_read 10 = .ok (.getfield 16, 3) := by decide +kernel
theorem dX8_read_13 : decode cX8_read 13 = .ok (.if_icmp .ge 27, 3) := by decide +kernel
theorem dX8_read_16 : decode cX8_read 16 = .ok (.iload_n 2, 1) := by decide +kernel
theorem dX8_read_17 : decode cX8_read 17 = .ok (.aload_n 0, 1) := by decide +kernel
theorem dX8_read_18 : decode cX8_read 18 = .ok (.iload_n 3, 1) := by decide +kernel
theorem dX8_read_19 : decode cX8_read 19 = .ok (.invokevirtual 22, 3) := by decide +kernel
theorem dX8_read_22 : decode cX8_read 22 = .ok (.aload_n 1, 1) := by decide +kernel
theorem dX8_read_23 : decode cX8_read 23 = .ok (.invokestatic 26, 3) := by decide +kernel
theorem dX8_read_26 : decode cX8_read 26 = .ok (.istore_n 2, 1) := by decide +kernel
theorem dX8_read_27 : decode cX8_read 27 = .ok (.iload_n 2, 1) := by decide +kernel
theorem dX8_read_28 : decode cX8_read 28 = .ok (.iconst 5, 1) := by decide +kernel
theorem dX8_read_29 : decode cX8_read 29 = .ok (.if_icmp .ne 5, 3) := by decide +kernel
theorem dX8_read_32 : decode cX8_read 32 = .ok (.iload_n 3, 1) := by decide +kernel
theorem dX8_read_33 : decode cX8_read 33 = .ok (.ireturn, 1) := by decide +kernel
theorem dX8_read_34 : decode cX8_read 34 = .ok (.iinc 3 1, 3) := by decide +kernel
theorem dX8_read_37 : decode cX8_read 37 = .ok (.goto (-29), 3) := by decide +kernel
theorem dX8_read_40 : decode cX8_read 40 = .ok (.iload_n 2, 1) := by decide +kernel
theorem dX8_read_41 : decode cX8_read 41 = .ok (.iconst 3, 1) := by decide +kernel
theorem dX8_read_42 : decode cX8_read 42 = .ok (.if_icmp .eq 8, 3) := by decide +kernel
theorem dX8_read_45 : decode cX8_read 45 = .ok (.iload_n 2, 1) := by decide +kernel
theorem dX8_read_46 : decode cX8_read 46 = .ok (.iconst 4, 1) := by decide +kernel
theorem dX8_read_47 : decode cX8_read 47 = .ok (.if_icmp .ne 8, 3) := by decide +kernel
theorem dX8_read_50 : decode cX8_read 50 = .ok (.bipush (-6), 2) := by decide +kernel
theorem dX8_read_52 : decode cX8_read 52 = .ok (.goto 7, 3) := by decide +kernel
theorem dX8_read_55 : decode cX8_read 55 = .ok (.aload_n 0, 1) := by decide +kernel
theorem dX8_read_56 : decode cX8_read 56 = .ok (.getfield 16, 3) := by decide +kernel
theorem dX8_read_59 : decode cX8_read 59 = .ok (.ireturn, 1) := by decide +kernel
set_option maxRecDepth 20000 in
theorem ggX8_next_X4_tellName : GoodIn wsX8_next wsX4_tellName := goodIn_r _ [5, 6, 7, 8, 9, 10, 11, 65, 66, 67, 68, 69, 70, 71] (by decide +kernel) (by decide +kernel)
set_option maxRecDepth 20000 in
theorem gX8_next_X4_tellName : GoodIn wsX8_next (wsV RX8 30 RX4 yX4_tellName wsX4_tellName) := goodIn_app (goodIn_of _ (by decide +kernel)) ggX8_next_X4_tellName
set_option maxRecDepth 20000 in
theorem ggX8_next_X8_openRule : GoodIn wsX8_next wsX8_openRule := goodIn_r _ [15, 16, 17, 18, 4, 19, 8, 20, 9, 10, 11, 21, 22, 23, 24, 25, 26, 27, 28, 29, 30, 31, 32, 33, 34, 35, 36, 37, 38, 39, 14, 40, 41, 42, 43, 44, 45, 46, 47, 48, 49, 50, 51, 52, 53, 54, 55, 56, 65, 66, 67, 68, 69, 70, 71] (by decide +kernel) (by decide +kernel)
set_option maxRecDepth 20000 in
theorem gX8_next_X8_openRule : GoodIn wsX8_next (va_wsS RX8 34 yX8_openRule wsX8_openRule) := goodIn_app (goodIn_of _ (by decide +kernel)) ggX8_next_X8_openRule
set_option maxRecDepth 20000 in
theorem ggX8_next_X8_isSign : GoodIn wsX8_next wsX8_isSign := goodIn_r _ [40] (by decide +kernel) (by decide +kernel)
set_option maxRecDepth 20000 in
theorem gX8_next_X8_isSign : GoodIn wsX8_next (va_wsS RX8 38 yX8_isSign wsX8_isSign) := goodIn_app (goodIn_of _ (by decide +kernel)) ggX8_next_X8_isSign
set_option maxRecDepth 20000 in
theorem ggX8_next_X8_addSign : GoodIn wsX8_next wsX8_addSign := goodIn_r _ [43, 44, 45, 46, 4, 47, 8, 25, 26, 27, 28, 20, 29, 9, 10, 11, 48, 49, 50, 51, 52, 34, 53, 54, 55, 56, 35, 36, 37, 65, 66, 67, 68, 69, 70, 71] (by decide +kernel) (by decide +kernel)
set_option maxRecDepth 20000 in
theorem gX8_next_X8_addSign : GoodIn wsX8_next (va_wsS RX8 41 yX8_addSign wsX8_addSign) := goodIn_app (goodIn_of _ (by decide +kernel)) ggX8_next_X8_addSign
set_option maxRecDepth 20000 in
theorem ggX8_next_X8_closeRule : GoodIn wsX8_next wsX8_closeRule := goodIn_r _ [59, 60, 22, 23, 4, 24, 8, 25, 26, 27, 28, 20, 29, 9, 10, 11, 61, 62, 63, 64, 6, 65, 66, 67, 68, 69, 70, 71] (by decide +kernel) (by decide +kernel)
set_option maxRecDepth 20000 in
theorem gX8_next_X8_closeRule : GoodIn wsX8_next (va_wsS RX8 44 yX8_closeRule wsX8_closeRule) := goodIn_app (goodIn_of _ (by decide +kernel)) ggX8_next_X8_closeRule
theorem dX8_next_0 : decode cX8_next 0 = .ok (.iload_n 0, 1) := by decide +kernel
theorem dX8_next_1 : decode cX8_next 1 = .ok (.tableswitch 87 0 3 #[31, 48, 60, 66], 31) := by decide +kernel
theorem dX8_next_32 : decode cX8_next 32 = .ok (.aload_n 2, 1) := by decide +kernel
theorem dX8_next_33 : decode cX8_next 33 = .ok (.iload_n 1, 1) := by decide +kernel
theorem dX8_next_34 : decode cX8_next 34 = .ok (.bipush 65, 2) := by decide +kernel
theorem dX8_next_36 : decode cX8_next 36 = .ok (.isub, 1) := by decide +kernel
theorem dX8_next_37 : decode cX8_next 37 = .ok (.invokevirtual 30, 3) := by decide +kernel
theorem dX8_next_40 : decode cX8_next 40 = .ok (.ifCond .eq 7, 3) := by decide +kernel
theorem dX8_next_43 : decode cX8_next 43 = .ok (.iconst 1, 1) := by decide +kernel
theorem dX8_next_44 : decode cX8_next 44 = .ok (.goto 4, 3) := by decide +kernel
theorem dX8_next_47 : decode cX8_next 47 = .ok (.iconst 5, 1) := by decide +kernel
theorem dX8_next_48 : decode cX8_next 48 = .ok (.ireturn, 1) := by decide +kernel
theorem dX8_next_49 : decode cX8_next 49 = .ok (.iload_n 1, 1) := by decide +kernel
theorem dX8_next_50 : decode cX8_next 50 = .ok (.bipush 61, 2) := by decide +kernel
theorem dX8_next_52 : decode cX8_next 52 = .ok (.if_icmp .ne 7, 3) := by decide +kernel
theorem dX8_next_55 : decode cX8_next 55 = .ok (.iconst 2, 1) := by decide +kernel
theorem dX8_next_56 : decode cX8_next 56 = .ok (.goto 4, 3) := by decide +kernel
theorem dX8_next_59 : decode cX8_next 59 = .ok (.iconst 5, 1) := by decide +kernel
theorem dX8_next_60 : decode cX8_next 60 = .ok (.ireturn, 1) := by decide +kernel
theorem dX8_next_61 : decode cX8_next 61 = .ok (.iload_n 1, 1) := by decide +kernel
theorem dX8_next_62 : decode cX8_next 62 = .ok (.aload_n 2, 1) := by decide +kernel
theorem dX8_next_63 : decode cX8_next 63 = .ok (.invokestatic 34, 3) := by decide +kernel
theorem dX8_next_66 : decode cX8_next 66 = .ok (.ireturn, 1) := by decide +kernel
theorem dX8_next_67 : decode cX8_next 67 = .ok (.iload_n 1, 1) := by decide +kernel
theorem dX8_next_68 : decode cX8_next 68 = .ok (.invokestatic 38, 3) := by decide +kernel
theorem dX8_next_71 : decode cX8_next 71 = .ok (.ifCond .eq 11, 3) := by decide +kernel
theorem dX8_next_74 : decode cX8_next 74 = .ok (.iload_n 1, 1) := by decide +kernel
theorem dX8_next_75 : decode cX8_next 75 = .ok (.aload_n 2, 1) := by decide +kernel
theorem dX8_next_76 : decode cX8_next 76 = .ok (.invokestatic 41, 3) := by decide +kernel
theorem dX8_next_79 : decode cX8_next 79 = .ok (.goto 8, 3) := by decide +kernel
theorem dX8_next_82 : decode cX8_next 82 = .ok (.iload_n 1, 1) := by decide +kernel
theorem dX8_next_83 : decode cX8_next 83 = .ok (.aload_n 2, 1) := by decide +kernel
theorem dX8_next_84 : decode cX8_next 84 = .ok (.invokestatic 44, 3) := by decide +kernel
theorem dX8_next_87 : decode cX8_next 87 = .ok (.ireturn, 1) := by decide +kernel
theorem dX8_next_88 : decode cX8_next 88 = .ok (.iload_n 1, 1) := by decide +kernel
theorem dX8_next_89 : decode cX8_next 89 = .ok (.aload_n 2, 1) := by decide +kernel
theorem dX8_next_90 : decode cX8_next 90 = .ok (.invokestatic 44, 3) := by decide +kernel
theorem dX8_next_93 : decode cX8_next 93 = .ok (.ireturn, 1) := by decide +kernel
set_option maxRecDepth 20000 in
theorem ggX8_openRule_X4_beginRule : GoodIn wsX8_openRule wsX4_beginRule := goodIn_r _ [5, 6, 7, 8, 9, 10, 11, 12, 13, 4, 14, 15, 16, 17, 18, 19, 20, 21, 22, 23, 24, 25, 26, 27, 48, 49, 50, 51, 52, 53, 54] (by decide +kernel) (by decide +kernel)
set_option maxRecDepth 20000 in
theorem gX8_openRule_X4_beginRule : GoodIn wsX8_openRule (wsV RX8 47 RX4 yX4_beginRule wsX4_beginRule) := goodIn_app (goodIn_of _ (by decide +kernel)) ggX8_openRule_X4_beginRule
set_option maxRecDepth 20000 in
theorem ggX8_openRule_X8_isSign : GoodIn wsX8_openRule wsX8_isSign := goodIn_r _ [31] (by decide +kernel) (by decide +kernel)
set_option maxRecDepth 20000 in
theorem gX8_openRule_X8_isSign : GoodIn wsX8_openRule (va_wsS RX8 38 yX8_isSign wsX8_isSign) := goodIn_app (goodIn_of _ (by decide +kernel)) ggX8_openRule_X8_isSign
set_option maxRecDepth 20000 in
theorem ggX8_openRule_X8_addSign : GoodIn wsX8_openRule wsX8_addSign := goodIn_r _ [34, 35, 36, 37, 4, 38, 6, 15, 16, 17, 18, 7, 19, 8, 9, 10, 39, 40, 41, 42, 43, 24, 44, 45, 46, 47, 25, 26, 27, 48, 49, 50, 51, 52, 53, 54] (by decide +kernel) (by decide +kernel)
set_option maxRecDepth 20000 in
theorem gX8_openRule_X8_addSign : GoodIn wsX8_openRule (va_wsS RX8 41 yX8_addSign wsX8_addSign) := goodIn_app (goodIn_of _ (by decide +kernel)) ggX8_openRule_X8_addSign
theorem dX8_openRule_0 : decode cX8_openRule 0 = .ok (.iload_n 0, 1) := by decide +kernel
theorem dX8_openRule_1 : decode cX8_openRule 1 = .ok (.bipush 95, 2) := by decide +kernel
theorem dX8_openRule_3 : decode cX8_openRule 3 = .ok (.if_icmp .ne 9, 3) := by decide +kernel
theorem dX8_openRule_6 : decode cX8_openRule 6 = .ok (.aload_n 1, 1) := by decide +kernel
theorem dX8_openRule_7 : decode cX8_openRule 7 = .ok (.invokevirtual 47, 3) := by decide +kernel
theorem dX8_openRule_10 : decode cX8_openRule 10 = .ok (.iconst 4, 1) := by decide +kernel
theorem dX8_openRule_11 : decode cX8_openRule 11 = .ok (.ireturn, 1) := by decide +kernel
theorem dX8_openRule_12 : decode cX8_openRule 12 = .ok (.iload_n 0, 1) := by decide +kernel
theorem dX8_openRule_13 : decode cX8_openRule 13 = .ok (.invokestatic 38, 3) := by decide +kernel
theorem dX8_openRule_16 : decode cX8_openRule 16 = .ok (.ifCond .ne 5, 3) := by decide +kernel
theorem dX8_openRule_19 : decode cX8_openRule 19 = .ok (.iconst 5, 1) := by decide +kernel
theorem dX8_openRule_20 : decode cX8_openRule 20 = .ok (.ireturn, 1) := by decide +kernel
theorem dX8_openRule_21 : decode cX8_openRule 21 = .ok (.aload_n 1, 1) := by decide +kernel
theorem dX8_openRule_22 : decode cX8_openRule 22 = .ok (.invokevirtual 47, 3) := by decide +kernel
theorem dX8_openRule_25 : decode cX8_openRule 25 = .ok (.iload_n 0, 1) := by decide +kernel
theorem dX8_openRule_26 : decode cX8_openRule 26 = .ok (.aload_n 1, 1) := by decide +kernel
theorem dX8_openRule_27 : decode cX8_openRule 27 = .ok (.invokestatic 41, 3) := by decide +kernel
theorem dX8_openRule_30 : decode cX8_openRule 30 = .ok (.ireturn, 1) := by decide +kernel
set_option maxRecDepth 20000 in
theorem ggX8_addSign_X4_addSign : GoodIn wsX8_addSign wsX4_addSign := goodIn_r _ [5, 6, 7, 8, 9, 4, 10, 11, 12, 13, 14, 15, 16, 17, 18, 19, 20, 21, 22, 23, 24, 25, 26, 27, 28, 29, 30, 31, 32, 33, 34, 35] (by decide +kernel) (by decide +kernel)
set_option maxRecDepth 20000 in
theorem gX8_addSign_X4_addSign : GoodIn wsX8_addSign (wsV RX8 50 RX4 yX4_addSign wsX4_addSign) := goodIn_app (goodIn_of _ (by decide +kernel)) ggX8_addSign_X4_addSign
theorem dX8_addSign_0 : decode cX8_addSign 0 = .ok (.iload_n 0, 1) := by decide +kernel
theorem dX8_addSign_1 : decode cX8_addSign 1 = .ok (.bipush 97, 2) := by decide +kernel
theorem dX8_addSign_3 : decode cX8_addSign 3 = .ok (.if_icmp .lt 10, 3) := by decide +kernel
theorem dX8_addSign_6 : decode cX8_addSign 6 = .ok (.iload_n 0, 1) := by decide +kernel
theorem dX8_addSign_7 : decode cX8_addSign 7 = .ok (.bipush 97, 2) := by decide +kernel
theorem dX8_addSign_9 : decode cX8_addSign 9 = .ok (.isub, 1) := by decide +kernel
theorem dX8_addSign_10 : decode cX8_addSign 10 = .ok (.goto 9, 3) := by decide +kernel
theorem dX8_addSign_13 : decode cX8_addSign 13 = .ok (.iconst 4, 1) := by decide +kernel
theorem dX8_addSign_14 : decode cX8_addSign 14 = .ok (.iload_n 0, 1) := by decide +kernel
theorem dX8_addSign_15 : decode cX8_addSign 15 = .ok (.iadd, 1) := by decide +kernel
theorem dX8_addSign_16 : decode cX8_addSign 16 = .ok (.bipush 65, 2) := by decide +kernel
theorem dX8_addSign_18 : decode cX8_addSign 18 = .ok (.isub, 1) := by decide +kernel
theorem dX8_addSign_19 : decode cX8_addSign 19 = .ok (.istore_n 2, 1) := by decide +kernel
theorem dX8_addSign_20 : decode cX8_addSign 20 = .ok (.aload_n 1, 1) := by decide +kernel
theorem dX8_addSign_21 : decode cX8_addSign 21 = .ok (.iload_n 2, 1) := by decide +kernel
theorem dX8_addSign_22 : decode cX8_addSign 22 = .ok (.invokevirtual 50, 3) := by decide +kernel
theorem dX8_addSign_25 : decode cX8_addSign 25 = .ok (.ifCond .eq 7, 3) := by decide +kernel
theorem dX8_addSign_28 : decode cX8_addSign 28 = .ok (.iconst 3, 1) := by decide +kernel
theorem dX8_addSign_29 : decode cX8_addSign 29 = .ok (.goto 4, 3) := by decide +kernel
theorem dX8_addSign_32 : decode cX8_addSign 32 = .ok (.iconst 5, 1) := by decide +kernel
theorem dX8_addSign_33 : decode cX8_addSign 33 = .ok (.ireturn, 1) := by decide +kernel
set_option maxRecDepth 20000 in
theorem ggX8_closeRule_X4_hasRoomForRule : GoodIn wsX8_closeRule wsX4_hasRoomForRule := goodIn_r _ [5, 6, 7, 8, 9, 4, 10, 11, 12, 13, 14, 15, 21, 22, 23, 24, 25, 26, 27] (by decide +kernel) (by decide +kernel)
set_option maxRecDepth 20000 in
theorem gX8_closeRule_X4_hasRoomForRule : GoodIn wsX8_closeRule (wsV RX8 52 RX4 yX4_hasRoomForRule wsX4_hasRoomForRule) := goodIn_app (goodIn_of _ (by decide +kernel)) ggX8_closeRule_X4_hasRoomForRule
set_option maxRecDepth 20000 in
theorem ggX8_closeRule_X4_hasRoomForName : GoodIn wsX8_closeRule wsX4_hasRoomForName := goodIn_r _ [19, 20, 21, 22, 23, 24, 25, 26, 27] (by decide +kernel) (by decide +kernel)
set_option maxRecDepth 20000 in
theorem gX8_closeRule_X4_hasRoomForName : GoodIn wsX8_closeRule (wsV RX8 56 RX4 yX4_hasRoomForName wsX4_hasRoomForName) := goodIn_app (goodIn_of _ (by decide +kernel)) ggX8_closeRule_X4_hasRoomForName
theorem dX8_closeRule_0 : decode cX8_closeRule 0 = .ok (.iload_n 0, 1) := by decide +kernel
theorem dX8_closeRule_1 : decode cX8_closeRule 1 = .ok (.bipush 124, 2) := by decide +kernel
theorem dX8_closeRule_3 : decode cX8_closeRule 3 = .ok (.if_icmp .ne 12, 3) := by decide +kernel
theorem dX8_closeRule_6 : decode cX8_closeRule 6 = .ok (.aload_n 1, 1) := by decide +kernel
theorem dX8_closeRule_7 : decode cX8_closeRule 7 = .ok (.invokevirtual 52, 3) := by decide +kernel
theorem dX8_closeRule_10 : decode cX8_closeRule 10 = .ok (.ifCond .eq 5, 3) := by decide +kernel
theorem dX8_closeRule_13 : decode cX8_closeRule 13 = .ok (.iconst 2, 1) := by decide +kernel
theorem dX8_closeRule_14 : decode cX8_closeRule 14 = .ok (.ireturn, 1) := by decide +kernel
theorem dX8_closeRule_15 : decode cX8_closeRule 15 = .ok (.iload_n 0, 1) := by decide +kernel
theorem dX8_closeRule_16 : decode cX8_closeRule 16 = .ok (.bipush 59, 2) := by decide +kernel
theorem dX8_closeRule_18 : decode cX8_closeRule 18 = .ok (.if_icmp .ne 14, 3) := by decide +kernel
theorem dX8_closeRule_21 : decode cX8_closeRule 21 = .ok (.aload_n 1, 1) := by decide +kernel
theorem dX8_closeRule_22 : decode cX8_closeRule 22 = .ok (.invokevirtual 56, 3) := by decide +kernel
theorem dX8_closeRule_25 : decode cX8_closeRule 25 = .ok (.ifCond .eq 7, 3) := by decide +kernel
theorem dX8_closeRule_28 : decode cX8_closeRule 28 = .ok (.iconst 0, 1) := by decide +kernel
theorem dX8_closeRule_29 : decode cX8_closeRule 29 = .ok (.goto 4, 3) := by decide +kernel
theorem dX8_closeRule_32 : decode cX8_closeRule 32 = .ok (.iconst 5, 1) := by decide +kernel
theorem dX8_closeRule_33 : decode cX8_closeRule 33 = .ok (.ireturn, 1) := by decide +kernel
theorem dX8_isSign_0 : decode cX8_isSign 0 = .ok (.iload_n 0, 1) := by decide +kernel
theorem dX8_isSign_1 : decode cX8_isSign 1 = .ok (.bipush 97, 2) := by decide +kernel
theorem dX8_isSign_3 : decode cX8_isSign 3 = .ok (.if_icmp .lt 9, 3) := by decide +kernel
theorem dX8_isSign_6 : decode cX8_isSign 6 = .ok (.iload_n 0, 1) := by decide +kernel
theorem dX8_isSign_7 : decode cX8_isSign 7 = .ok (.bipush 101, 2) := by decide +kernel
theorem dX8_isSign_9 : decode cX8_isSign 9 = .ok (.if_icmp .lt 15, 3) := by decide +kernel
theorem dX8_isSign_12 : decode cX8_isSign 12 = .ok (.iload_n 0, 1) := by decide +kernel
theorem dX8_isSign_13 : decode cX8_isSign 13 = .ok (.bipush 65, 2) := by decide +kernel
theorem dX8_isSign_15 : decode cX8_isSign 15 = .ok (.if_icmp .lt 13, 3) := by decide +kernel
theorem dX8_isSign_18 : decode cX8_isSign 18 = .ok (.iload_n 0, 1) := by decide +kernel
theorem dX8_isSign_19 : decode cX8_isSign 19 = .ok (.bipush 71, 2) := by decide +kernel
theorem dX8_isSign_21 : decode cX8_isSign 21 = .ok (.if_icmp .ge 7, 3) := by decide +kernel
theorem dX8_isSign_24 : decode cX8_isSign 24 = .ok (.iconst 1, 1) := by decide +kernel
theorem dX8_isSign_25 : decode cX8_isSign 25 = .ok (.goto 4, 3) := by decide +kernel
theorem dX8_isSign_28 : decode cX8_isSign 28 = .ok (.iconst 0, 1) := by decide +kernel
theorem dX8_isSign_29 : decode cX8_isSign 29 = .ok (.ireturn, 1) := by decide +kernel
theorem dX9_init_0 : decode cX9_init 0 = .ok (.aload_n 0, 1) := by decide +kernel
theorem dX9_init_1 : decode cX9_init 1 = .ok (.invokespecial 3, 3) := by decide +kernel
theorem dX9_init_4 : decode cX9_init 4 = .ok (.aload_n 0, 1) := by decide +kernel
theorem dX9_init_5 : decode cX9_init 5 = .ok (.iconst (-1), 1) := by decide +kernel
theorem dX9_init_6 : decode cX9_init 6 = .ok (.putfield 9, 3) := by decide +kernel
theorem dX9_init_9 : decode cX9_init 9 = .ok (.aload_n 0, 1) := by decide +kernel
theorem dX9_init_10 : decode cX9_init 10 = .ok (.ldc 15, 2) := by decide +kernel
theorem dX9_init_12 : decode cX9_init 12 = .ok (.putfield 16, 3) := by decide +kernel
theorem dX9_init_15 : decode cX9_init 15 = .ok (.aload_n 0, 1) := by decide +kernel
theorem dX9_init_16 : decode cX9_init 16 = .ok (.iconst 0, 1) := by decide +kernel
theorem dX9_init_17 : decode cX9_init 17 = .ok (.putfield 19, 3) := by decide +kernel
theorem dX9_init_20 : decode cX9_init 20 = .ok (.aload_n 0, 1) := by decide +kernel
theorem dX9_init_21 : decode cX9_init 21 = .ok (.aload_n 1, 1) := by decide +kernel
theorem dX9_init_22 : decode cX9_init 22 = .ok (.putfield 22, 3) := by decide +kernel
theorem dX9_init_25 : decode cX9_init 25 = .ok (.aload_n 0, 1) := by decide +kernel
theorem dX9_init_26 : decode cX9_init 26 = .ok (.aload_n 2, 1) := by decide +kernel
theorem dX9_init_27 : decode cX9_init 27 = .ok (.putfield 26, 3) := by decide +kernel
theorem dX9_init_30 : decode cX9_init 30 = .ok (.aload_n 0, 1) := by decide +kernel
theorem dX9_init_31 : decode cX9_init 31 = .ok (.aload_n 3, 1) := by decide +kernel
theorem dX9_init_32 : decode cX9_init 32 = .ok (.putfield 30, 3) := by decide +kernel
theorem dX9_init_35 : decode cX9_init 35 = .ok (.return_, 1) := by decide +kernel
theorem dX9_hasSought_0 : decode cX9_hasSought 0 = .ok (.iload_n 1, 1) := by decide +kernel
theorem dX9_hasSought_1 : decode cX9_hasSought 1 = .ok (.aload_n 0, 1) := by decide +kernel
theorem dX9_hasSought_2 : decode cX9_hasSought 2 = .ok (.getfield 9, 3) := by decide +kernel
theorem dX9_hasSought_5 : decode cX9_hasSought 5 = .ok (.if_icmp .ne 7, 3) := by decide +kernel
theorem dX9_hasSought_8 : decode cX9_hasSought 8 = .ok (.iconst 1, 1) := by decide +kernel
theorem dX9_hasSought_9 : decode cX9_hasSought 9 = .ok (.goto 4, 3) := by decide +kernel
theorem dX9_hasSought_12 : decode cX9_hasSought 12 = .ok (.iconst 0, 1) := by decide +kernel
theorem dX9_hasSought_13 : decode cX9_hasSought 13 = .ok (.ireturn, 1) := by decide +kernel
theorem dX9_forgetBest_0 : decode cX9_forgetBest 0 = .ok (.aload_n 0, 1) := by decide +kernel
theorem dX9_forgetBest_1 : decode cX9_forgetBest 1 = .ok (.iconst (-1), 1) := by decide +kernel
theorem dX9_forgetBest_2 : decode cX9_forgetBest 2 = .ok (.putfield 9, 3) := by decide +kernel
theorem dX9_forgetBest_5 : decode cX9_forgetBest 5 = .ok (.return_, 1) := by decide +kernel
set_option maxRecDepth 20000 in
theorem ggX9_totalBelow_X2_at : GoodIn wsX9_totalBelow wsX2_at := goodIn_r _ [16, 17, 18, 19, 20, 21, 15, 22, 23, 160, 161, 162] (by decide +kernel) (by decide +kernel)
set_option maxRecDepth 20000 in
theorem gX9_totalBelow_X2_at : GoodIn wsX9_totalBelow (wsV RX9 39 RX2 yX2_at wsX2_at) := goodIn_app (goodIn_of _ (by decide +kernel)) ggX9_totalBelow_X2_at
set_option maxRecDepth 20000 in
theorem ggX9_totalBelow_X0_fill : GoodIn wsX9_totalBelow wsX0_fill := goodIn_r _ [28, 29, 30, 31, 32, 33, 34, 35, 36, 37, 38, 39, 40, 41, 42, 43, 44, 45, 46, 47, 48, 49, 50, 51, 52, 53, 54, 55, 56, 57, 58, 59, 60, 61, 62, 63, 64, 65, 66, 67, 68, 69, 70, 71, 27, 72, 73, 74, 75, 76, 77, 78, 79, 80, 81, 82, 83, 84, 85, 9, 10, 11, 86, 87, 88, 89, 90, 91, 92, 93, 94, 95, 96, 97, 98, 99, 100, 101, 102, 103, 104, 105, 106, 107, 108, 109, 110, 111, 112, 113, 114, 115, 116, 117, 118, 119, 120, 121, 122, 123, 124, 125, 126, 127, 128, 129, 130, 131, 132, 133, 134, 135, 136, 137, 138, 139, 140, 141, 142, 143, 144, 145, 146, 147, 148, 149, 172, 173, 174, 175, 176, 170, 171, 163, 164, 165, 166, 167, 168, 169, 177] (by decide +kernel) (by decide +kernel)
set_option maxRecDepth 20000 in
theorem gX9_totalBelow_X0_fill : GoodIn wsX9_totalBelow (wsV RX9 43 RX0 yX0_fill wsX0_fill) := goodIn_app (goodIn_of _ (by decide +kernel)) ggX9_totalBelow_X0_fill
set_option maxRecDepth 20000 in
theorem ggX9_totalBelow_X0_fitOf : GoodIn wsX9_totalBelow wsX0_fitOf := goodIn_r _ [125, 126, 127, 128, 27, 129, 109, 114, 172, 173, 174, 175, 176] (by decide +kernel) (by decide +kernel)
set_option maxRecDepth 20000 in
theorem gX9_totalBelow_X0_fitOf : GoodIn wsX9_totalBelow (wsV RX9 59 RX0 yX0_fitOf wsX0_fitOf) := goodIn_app (goodIn_of _ (by decide +kernel)) ggX9_totalBelow_X0_fitOf
set_option maxRecDepth 20000 in
theorem ggX9_totalBelow_X3_costOf : GoodIn wsX9_totalBelow wsX3_costOf := goodIn_r _ [153] (by decide +kernel) (by decide +kernel)
set_option maxRecDepth 20000 in
theorem gX9_totalBelow_X3_costOf : GoodIn wsX9_totalBelow (va_wsS RX9 67 yX3_costOf wsX3_costOf) := goodIn_app (goodIn_of _ (by decide +kernel)) ggX9_totalBelow_X3_costOf
theorem dX9_totalBelow_0 : decode cX9_totalBelow 0 = .ok (.iconst 0, 1) := by decide +kernel
theorem dX9_totalBelow_1 : decode cX9_totalBelow 1 = .ok (.istore_n 2, 1) := by decide +kernel
theorem dX9_totalBelow_2 : decode cX9_totalBelow 2 = .ok (.iconst 0, 1) := by decide +kernel
theorem dX9_totalBelow_3 : decode cX9_totalBelow 3 = .ok (.istore_n 3, 1) := by decide +kernel
theorem dX9_totalBelow_4 : decode cX9_totalBelow 4 = .ok (.iload_n 3, 1) := by decide +kernel
theorem dX9_totalBelow_5 : decode cX9_totalBelow 5 = .ok (.aload_n 0, 1) := by decide +kernel
theorem dX9_totalBelow_6 : decode cX9_totalBelow 6 = .ok (.getfield 30, 3) := by decide +kernel
theorem dX9_totalBelow_9 : decode cX9_totalBelow 9 = .ok (.getfield 34, 3) := by decide +kernel
theorem dX9_totalBelow_12 : decode cX9_totalBelow 12 = .ok (.if_icmp .ge 76, 3) := by decide +kernel
theorem dX9_totalBelow_15 : decode cX9_totalBelow 15 = .ok (.iload_n 2, 1) := by decide +kernel
theorem dX9_totalBelow_16 : decode cX9_totalBelow 16 = .ok (.iload_n 1, 1) := by decide +kernel
theorem dX9_totalBelow_17 : decode cX9_totalBelow 17 = .ok (.if_icmp .ge 71, 3) := by decide +kernel
theorem dX9_totalBelow_20 : decode cX9_totalBelow 20 = .ok (.aload_n 0, 1) := by decide +kernel
theorem dX9_totalBelow_21 : decode cX9_totalBelow 21 = .ok (.getfield 30, 3) := by decide +kernel
theorem dX9_totalBelow_24 : decode cX9_totalBelow 24 = .ok (.iload_n 3, 1) := by decide +kernel
theorem dX9_totalBelow_25 : decode cX9_totalBelow 25 = .ok (.invokevirtual 39, 3) := by decide +kernel
theorem dX9_totalBelow_28 : decode cX9_totalBelow 28 = .ok (.astore 4, 2) := by decide +kernel
theorem dX9_totalBelow_30 : decode cX9_totalBelow 30 = .ok (.aload_n 0, 1) := by decide +kernel
theorem dX9_totalBelow_31 : decode cX9_totalBelow 31 = .ok (.getfield 26, 3) := by decide +kernel
theorem dX9_totalBelow_34 : decode cX9_totalBelow 34 = .ok (.aload 4, 2) := by decide +kernel
theorem dX9_totalBelow_36 : decode cX9_totalBelow 36 = .ok (.invokevirtual 43, 3) := by decide +kernel
theorem dX9_totalBelow_39 : decode cX9_totalBelow 39 = .ok (.aload_n 0, 1) := by decide +kernel
theorem dX9_totalBelow_40 : decode cX9_totalBelow 40 = .ok (.getfield 26, 3) := by decide +kernel
theorem dX9_totalBelow_43 : decode cX9_totalBelow 43 = .ok (.iconst 4, 1) := by decide +kernel
theorem dX9_totalBelow_44 : decode cX9_totalBelow 44 = .ok (.aload_n 0, 1) := by decide +kernel
theorem dX9_totalBelow_45 : decode cX9_totalBelow 45 = .ok (.getfield 22, 3) := by decide +kernel
theorem dX9_totalBelow_48 : decode cX9_totalBelow 48 = .ok (.getfield 49, 3) := by decide +kernel
theorem dX9_totalBelow_51 : decode cX9_totalBelow 51 = .ok (.iadd, 1) := by decide +kernel
theorem dX9_totalBelow_52 : decode cX9_totalBelow 52 = .ok (.iconst 0, 1) := by decide +kernel
theorem dX9_totalBelow_53 : decode cX9_totalBelow 53 = .ok (.aload 4, 2) := by decide +kernel
theorem dX9_totalBelow_55 : decode cX9_totalBelow 55 = .ok (.getfield 54, 3) := by decide +kernel
theorem dX9_totalBelow_58 : decode cX9_totalBelow 58 = .ok (.invokevirtual 59, 3) := by decide +kernel
theorem dX9_totalBelow_61 : decode cX9_totalBelow 61 = .ok (.lstore 5, 2) := by decide +kernel
theorem dX9_totalBelow_63 : decode cX9_totalBelow 63 = .ok (.lload 5, 2) := by decide +kernel
theorem dX9_totalBelow_65 : decode cX9_totalBelow 65 = .ok (.ldc2_w 65, 3) := by decide +kernel
theorem dX9_totalBelow_68 : decode cX9_totalBelow 68 = .ok (.lcmp, 1) := by decide +kernel
theorem dX9_totalBelow_69 : decode cX9_totalBelow 69 = .ok (.ifCond .ne 5, 3) := by decide +kernel
theorem dX9_totalBelow_72 : decode cX9_totalBelow 72 = .ok (.iload_n 1, 1) := by decide +kernel
theorem dX9_totalBelow_73 : decode cX9_totalBelow 73 = .ok (.ireturn, 1) := by decide +kernel
theorem dX9_totalBelow_74 : decode cX9_totalBelow 74 = .ok (.iload_n 2, 1) := by decide +kernel
theorem dX9_totalBelow_75 : decode cX9_totalBelow 75 = .ok (.lload 5, 2) := by decide +kernel
theorem dX9_totalBelow_77 : decode cX9_totalBelow 77 = .ok (.invokestatic 67, 3) := by decide +kernel
theorem dX9_totalBelow_80 : decode cX9_totalBelow 80 = .ok (.iadd, 1) := by decide +kernel
theorem dX9_totalBelow_81 : decode cX9_totalBelow 81 = .ok (.istore_n 2, 1) := by decide +kernel
theorem dX9_totalBelow_82 : decode cX9_totalBelow 82 = .ok (.iinc 3 1, 3) := by decide +kernel
theorem dX9_totalBelow_85 : decode cX9_totalBelow 85 = .ok (.goto (-81), 3) := by decide +kernel
theorem dX9_totalBelow_88 : decode cX9_totalBelow 88 = .ok (.iload_n 2, 1) := by decide +kernel
theorem dX9_totalBelow_89 : decode cX9_totalBelow 89 = .ok (.iload_n 1, 1) := by decide +kernel
theorem dX9_totalBelow_90 : decode cX9_totalBelow 90 = .ok (.invokestatic 71, 3) := by decide +kernel
theorem dX9_totalBelow_93 : decode cX9_totalBelow 93 = .ok (.ireturn, 1) := by decide +kernel
set_option maxRecDepth 20000 in
theorem ggX9_seek_X4_startUses : GoodIn wsX9_seek wsX4_startUses := goodIn_r _ [10, 11, 12, 13, 14, 9, 15, 16, 17, 18, 19, 20, 21, 22, 23, 24, 25, 26, 27, 28, 29, 30, 31, 32, 33, 34, 35, 36, 37, 38, 193, 194, 195, 196, 197, 198, 199] (by decide +kernel) (by decide +kernel)
set_option maxRecDepth 20000 in
theorem gX9_seek_X4_startUses : GoodIn wsX9_seek (wsV RX9 77 RX4 yX4_startUses wsX4_startUses) := goodIn_app (goodIn_of _ (by decide +kernel)) ggX9_seek_X4_startUses
set_option maxRecDepth 20000 in
theorem ggX9_seek_X4_tryRule : GoodIn wsX9_seek wsX4_tryRule := goodIn_r _ [42, 21, 43, 44, 45, 9, 46, 33, 47, 48, 49, 50, 51, 52, 53, 38, 29, 30, 31, 32, 193, 194, 195, 196, 197, 198, 199] (by decide +kernel) (by decide +kernel)
set_option maxRecDepth 20000 in
theorem gX9_seek_X4_tryRule : GoodIn wsX9_seek (wsV RX9 81 RX4 yX4_tryRule wsX4_tryRule) := goodIn_app (goodIn_of _ (by decide +kernel)) ggX9_seek_X4_tryRule
set_option maxRecDepth 20000 in
theorem ggX9_seek_X9_totalBelow : GoodIn wsX9_seek wsX9_totalBelow := goodIn_r _ [58, 59, 60, 61, 4, 62, 63, 64, 65, 66, 67, 68, 69, 70, 71, 72, 73, 74, 75, 76, 77, 78, 79, 80, 81, 82, 83, 84, 85, 86, 87, 88, 89, 90, 91, 92, 9, 93, 94, 95, 96, 97, 12, 13, 14, 15, 16, 17, 18, 19, 20, 21, 22, 23, 24, 25, 26, 27, 28, 29, 30, 31, 32, 33, 34, 35, 36, 37, 38, 98, 99, 100, 101, 102, 103, 104, 105, 106, 107, 108, 109, 110, 111, 112, 113, 114, 115, 116, 117, 118, 119, 120, 121, 122, 123, 124, 125, 126, 127, 128, 129, 130, 131, 132, 133, 134, 135, 136, 137, 138, 139, 140, 141, 142, 143, 144, 145, 146, 147, 148, 149, 150, 151, 152, 153, 154, 155, 156, 157, 158, 159, 160, 161, 162, 163, 164, 165, 166, 167, 168, 169, 170, 171, 172, 173, 174, 175, 176, 177, 178, 179, 180, 181, 182, 187, 188, 189, 190, 191, 192, 200, 201, 202, 193, 194, 195, 196, 197, 198, 199, 203, 204, 205, 206, 207, 208, 209, 210] (by decide +kernel) (by decide +kernel)
set_option maxRecDepth 20000 in
theorem gX9_seek_X9_totalBelow : GoodIn wsX9_seek (wsV RX9 85 RX9 yX9_totalBelow wsX9_totalBelow) := goodIn_app (goodIn_of _ (by decide +kernel)) ggX9_seek_X9_totalBelow
set_option maxRecDepth 20000 in
theorem ggX9_seek_X4_endTrial : GoodIn wsX9_seek wsX4_endTrial := goodIn_r _ [186, 21, 193, 194, 195, 196, 197, 198, 199] (by decide +kernel) (by decide +kernel)
set_option maxRecDepth 20000 in
theorem gX9_seek_X4_endTrial : GoodIn wsX9_seek (wsV RX9 89 RX4 yX4_endTrial wsX4_endTrial) := goodIn_app (goodIn_of _ (by decide +kernel)) ggX9_seek_X4_endTrial
theorem dX9_seek_0 : decode cX9_seek 0 = .ok (.aload_n 0, 1) := by decide +kernel
theorem dX9_seek_1 : decode cX9_seek 1 = .ok (.ldc 15, 2) := by decide +kernel
theorem dX9_seek_3 : decode cX9_seek 3 = .ok (.putfield 16, 3) := by decide +kernel
theorem dX9_seek_6 : decode cX9_seek 6 = .ok (.aload_n 0, 1) := by decide +kernel
theorem dX9_seek_7 : decode cX9_seek 7 = .ok (.iconst 0, 1) := by decide +kernel
theorem dX9_seek_8 : decode cX9_seek 8 = .ok (.putfield 19, 3) := by decide +kernel
theorem dX9_seek_11 : decode cX9_seek 11 = .ok (.aload_n 0, 1) := by decide +kernel
theorem dX9_seek_12 : decode cX9_seek 12 = .ok (.getfield 22, 3) := by decide +kernel
theorem dX9_seek_15 : decode cX9_seek 15 = .ok (.iload_n 1, 1) := by decide +kernel
theorem dX9_seek_16 : decode cX9_seek 16 = .ok (.invokevirtual 77, 3) := by decide +kernel
theorem dX9_seek_19 : decode cX9_seek 19 = .ok (.ifCond .eq 8, 3) := by decide +kernel
theorem dX9_seek_22 : decode cX9_seek 22 = .ok (.bipush 27, 2) := by decide +kernel
theorem dX9_seek_24 : decode cX9_seek 24 = .ok (.goto 4, 3) := by decide +kernel
theorem dX9_seek_27 : decode cX9_seek 27 = .ok (.iconst 1, 1) := by decide +kernel
theorem dX9_seek_28 : decode cX9_seek 28 = .ok (.istore_n 2, 1) := by decide +kernel
theorem dX9_seek_29 : decode cX9_seek 29 = .ok (.iconst 0, 1) := by decide +kernel
theorem dX9_seek_30 : decode cX9_seek 30 = .ok (.istore_n 3, 1) := by decide +kernel
theorem dX9_seek_31 : decode cX9_seek 31 = .ok (.iload_n 3, 1) := by decide +kernel
theorem dX9_seek_32 : decode cX9_seek 32 = .ok (.iload_n 2, 1) := by decide +kernel
theorem dX9_seek_33 : decode cX9_seek 33 = .ok (.if_icmp .ge 55, 3) := by decide +kernel
theorem dX9_seek_36 : decode cX9_seek 36 = .ok (.aload_n 0, 1) := by decide +kernel
theorem dX9_seek_37 : decode cX9_seek 37 = .ok (.getfield 16, 3) := by decide +kernel
theorem dX9_seek_40 : decode cX9_seek 40 = .ok (.ifCond .le 48, 3) := by decide +kernel
theorem dX9_seek_43 : decode cX9_seek 43 = .ok (.aload_n 0, 1) := by decide +kernel
theorem dX9_seek_44 : decode cX9_seek 44 = .ok (.getfield 22, 3) := by decide +kernel
theorem dX9_seek_47 : decode cX9_seek 47 = .ok (.iload_n 1, 1) := by decide +kernel
theorem dX9_seek_48 : decode cX9_seek 48 = .ok (.iload_n 3, 1) := by decide +kernel
theorem dX9_seek_49 : decode cX9_seek 49 = .ok (.invokevirtual 81, 3) := by decide +kernel
theorem dX9_seek_52 : decode cX9_seek 52 = .ok (.aload_n 0, 1) := by decide +kernel
theorem dX9_seek_53 : decode cX9_seek 53 = .ok (.aload_n 0, 1) := by decide +kernel
theorem dX9_seek_54 : decode cX9_seek 54 = .ok (.getfield 16, 3) := by decide +kernel
theorem dX9_seek_57 : decode cX9_seek 57 = .ok (.invokevirtual 85, 3) := by decide +kernel
theorem dX9_seek_60 : decode cX9_seek 60 = .ok (.istore 4, 2) := by decide +kernel
theorem dX9_seek_62 : decode cX9_seek 62 = .ok (.iload 4, 2) := by decide +kernel
theorem dX9_seek_64 : decode cX9_seek 64 = .ok (.aload_n 0, 1) := by decide +kernel
theorem dX9_seek_65 : decode cX9_seek 65 = .ok (.getfield 16, 3) := by decide +kernel
theorem dX9_seek_68 : decode cX9_seek 68 = .ok (.if_icmp .ge 14, 3) := by decide +kernel
theorem dX9_seek_71 : decode cX9_seek 71 = .ok (.aload_n 0, 1) := by decide +kernel
theorem dX9_seek_72 : decode cX9_seek 72 = .ok (.iload 4, 2) := by decide +kernel
theorem dX9_seek_74 : decode cX9_seek 74 = .ok (.putfield 16, 3) := by decide +kernel
theorem dX9_seek_77 : decode cX9_seek 77 = .ok (.aload_n 0, 1) := by decide +kernel
theorem dX9_seek_78 : decode cX9_seek 78 = .ok (.iload_n 3, 1) := by decide +kernel
theorem dX9_seek_79 : decode cX9_seek 79 = .ok (.putfield 19, 3) := by decide +kernel
theorem dX9_seek_82 : decode cX9_seek 82 = .ok (.iinc 3 1, 3) := by decide +kernel
theorem dX9_seek_85 : decode cX9_seek 85 = .ok (.goto (-54), 3) := by decide +kernel
theorem dX9_seek_88 : decode cX9_seek 88 = .ok (.aload_n 0, 1) := by decide +kernel
theorem dX9_seek_89 : decode cX9_seek 89 = .ok (.getfield 22, 3) := by decide +kernel
theorem dX9_seek_92 : decode cX9_seek 92 = .ok (.iload_n 1, 1) := by decide +kernel
theorem dX9_seek_93 : decode cX9_seek 93 = .ok (.aload_n 0, 1) := by decide +kernel
theorem dX9_seek_94 : decode cX9_seek 94 = .ok (.getfield 19, 3) := by decide +kernel
theorem dX9_seek_97 : decode cX9_seek 97 = .ok (.invokevirtual 81, 3) := by decide +kernel
theorem dX9_seek_100 : decode cX9_seek 100 = .ok (.aload_n 0, 1) := by decide +kernel
theorem dX9_seek_101 : decode cX9_seek 101 = .ok (.getfield 22, 3) := by decide +kernel
theorem dX9_seek_104 : decode cX9_seek 104 = .ok (.invokevirtual 89, 3) := by decide +kernel
theorem dX9_seek_107 : decode cX9_seek 107 = .ok (.aload_n 0, 1) := by decide +kernel
theorem dX9_seek_108 : decode cX9_seek 108 = .ok (.iload_n 1, 1) := by decide +kernel
theorem dX9_seek_109 : decode cX9_seek 109 = .ok (.putfield 9, 3) := by decide +kernel
theorem dX9_seek_112 : decode cX9_seek 112 = .ok (.return_, 1) := by decide +kernel
theorem dX10_init_0 : decode cX10_init 0 = .ok (.aload_n 0, 1) := by decide +kernel
theorem dX10_init_1 : decode cX10_init 1 = .ok (.invokespecial 1, 3) := by decide +kernel
theorem dX10_init_4 : decode cX10_init 4 = .ok (.aload_n 0, 1) := by decide +kernel
theorem dX10_init_5 : decode cX10_init 5 = .ok (.iconst 0, 1) := by decide +kernel
theorem dX10_init_6 : decode cX10_init 6 = .ok (.putfield 7, 3) := by decide +kernel
theorem dX10_init_9 : decode cX10_init 9 = .ok (.aload_n 0, 1) := by decide +kernel
theorem dX10_init_10 : decode cX10_init 10 = .ok (.iload_n 1, 1) := by decide +kernel
theorem dX10_init_11 : decode cX10_init 11 = .ok (.ifCond .le 7, 3) := by decide +kernel
theorem dX10_init_14 : decode cX10_init 14 = .ok (.iload_n 1, 1) := by decide +kernel
theorem dX10_init_15 : decode cX10_init 15 = .ok (.goto 4, 3) := by decide +kernel
theorem dX10_init_18 : decode cX10_init 18 = .ok (.iconst 0, 1) := by decide +kernel
theorem dX10_init_19 : decode cX10_init 19 = .ok (.newarray .int, 2) := by decide +kernel
theorem dX10_init_21 : decode cX10_init 21 = .ok (.putfield 13, 3) := by decide +kernel
theorem dX10_init_24 : decode cX10_init 24 = .ok (.return_, 1) := by decide +kernel
theorem dX10_clear_0 : decode cX10_clear 0 = .ok (.aload_n 0, 1) := by decide +kernel
theorem dX10_clear_1 : decode cX10_clear 1 = .ok (.iconst 0, 1) := by decide +kernel
theorem dX10_clear_2 : decode cX10_clear 2 = .ok (.putfield 7, 3) := by decide +kernel
theorem dX10_clear_5 : decode cX10_clear 5 = .ok (.return_, 1) := by decide +kernel
theorem dX10_add_0 : decode cX10_add 0 = .ok (.aload_n 0, 1) := by decide +kernel
theorem dX10_add_1 : decode cX10_add 1 = .ok (.getfield 7, 3) := by decide +kernel
theorem dX10_add_4 : decode cX10_add 4 = .ok (.ifCond .lt 35, 3) := by decide +kernel
theorem dX10_add_7 : decode cX10_add 7 = .ok (.aload_n 0, 1) := by decide +kernel
theorem dX10_add_8 : decode cX10_add 8 = .ok (.getfield 7, 3) := by decide +kernel
theorem dX10_add_11 : decode cX10_add 11 = .ok (.aload_n 0, 1) := by decide +kernel
theorem dX10_add_12 : decode cX10_add 12 = .ok (.getfield 13, 3) := by decide +kernel
theorem dX10_add_15 : decode cX10_add 15 = .ok (.arraylength, 1) := by decide +kernel
theorem dX10_add_16 : decode cX10_add 16 = .ok (.if_icmp .ge 23, 3) := by decide +kernel
theorem dX10_add_19 : decode cX10_add 19 = .ok (.aload_n 0, 1) := by decide +kernel
theorem dX10_add_20 : decode cX10_add 20 = .ok (.getfield 13, 3) := by decide +kernel
theorem dX10_add_23 : decode cX10_add 23 = .ok (.aload_n 0, 1) := by decide +kernel
theorem dX10_add_24 : decode cX10_add 24 = .ok (.getfield 7, 3) := by decide +kernel
theorem dX10_add_27 : decode cX10_add 27 = .ok (.iload_n 1, 1) := by decide +kernel
theorem dX10_add_28 : decode cX10_add 28 = .ok (.iastore, 1) := by decide +kernel
theorem dX10_add_29 : decode cX10_add 29 = .ok (.aload_n 0, 1) := by decide +kernel
theorem dX10_add_30 : decode cX10_add 30 = .ok (.dup, 1) := by decide +kernel
theorem dX10_add_31 : decode cX10_add 31 = .ok (.getfield 7, 3) := by decide +kernel
theorem dX10_add_34 : decode cX10_add 34 = .ok (.iconst 1, 1) := by decide +kernel
theorem dX10_add_35 : decode cX10_add 35 = .ok (.iadd, 1) := by decide +kernel
theorem dX10_add_36 : decode cX10_add 36 = .ok (.putfield 7, 3) := by decide +kernel
theorem dX10_add_39 : decode cX10_add 39 = .ok (.return_, 1) := by decide +kernel
set_option maxRecDepth 20000 in
theorem ggX10_copy_X10_clear : GoodIn wsX10_copy wsX10_clear := goodIn_r _ [6, 1, 16, 17] (by decide +kernel) (by decide +kernel)
set_option maxRecDepth 20000 in
theorem gX10_copy_X10_clear : GoodIn wsX10_copy (wsV RX10 17 RX10 yX10_clear wsX10_clear) := goodIn_app (goodIn_of _ (by decide +kernel)) ggX10_copy_X10_clear
set_option maxRecDepth 20000 in
theorem ggX10_copy_X10_letterAt : GoodIn wsX10_copy wsX10_letterAt := goodIn_r _ [10, 1, 11, 16, 17] (by decide +kernel) (by decide +kernel)
set_option maxRecDepth 20000 in
theorem gX10_copy_X10_letterAt : GoodIn wsX10_copy (wsV RX10 20 RX10 yX10_letterAt wsX10_letterAt) := goodIn_app (goodIn_of _ (by decide +kernel)) ggX10_copy_X10_letterAt
set_option maxRecDepth 20000 in
theorem ggX10_copy_X10_add : GoodIn wsX10_copy wsX10_add := goodIn_r _ [15, 1, 11, 16, 17] (by decide +kernel) (by decide +kernel)
set_option maxRecDepth 20000 in
theorem gX10_copy_X10_add : GoodIn wsX10_copy (wsV RX10 24 RX10 yX10_add wsX10_add) := goodIn_app (goodIn_of _ (by decide +kernel)) ggX10_copy_X10_add
theorem dX10_copy_0 : decode cX10_copy 0 = .ok (.aload_n 0, 1) := by decide +kernel
theorem dX10_copy_1 : decode cX10_copy 1 = .ok (.invokevirtual 17, 3) := by decide +kernel
theorem dX10_copy_4 : decode cX10_copy 4 = .ok (.iconst 0, 1) := by decide +kernel
theorem dX10_copy_5 : decode cX10_copy 5 = .ok (.istore_n 2, 1) := by decide +kernel
theorem dX10_copy_6 : decode cX10_copy 6 = .ok (.iload_n 2, 1) := by decide +kernel
theorem dX10_copy_7 : decode cX10_copy 7 = .ok (.aload_n 1, 1) := by decide +kernel
theorem dX10_copy_8 : decode cX10_copy 8 = .ok (.getfield 7, 3) := by decide +kernel
theorem dX10_copy_11 : decode cX10_copy 11 = .ok (.if_icmp .ge 18, 3) := by decide +kernel
theorem dX10_copy_14 : decode cX10_copy 14 = .ok (.aload_n 0, 1) := by decide +kernel
theorem dX10_copy_15 : decode cX10_copy 15 = .ok (.aload_n 1, 1) := by decide +kernel
theorem dX10_copy_16 : decode cX10_copy 16 = .ok (.iload_n 2, 1) := by decide +kernel
theorem dX10_copy_17 : decode cX10_copy 17 = .ok (.invokevirtual 20, 3) := by decide +kernel
theorem dX10_copy_20 : decode cX10_copy 20 = .ok (.invokevirtual 24, 3) := by decide +kernel
theorem dX10_copy_23 : decode cX10_copy 23 = .ok (.iinc 2 1, 3) := by decide +kernel
theorem dX10_copy_26 : decode cX10_copy 26 = .ok (.goto (-20), 3) := by decide +kernel
theorem dX10_copy_29 : decode cX10_copy 29 = .ok (.return_, 1) := by decide +kernel
theorem dX10_letterAt_0 : decode cX10_letterAt 0 = .ok (.iload_n 1, 1) := by decide +kernel
theorem dX10_letterAt_1 : decode cX10_letterAt 1 = .ok (.ifCond .lt 29, 3) := by decide +kernel
theorem dX10_letterAt_4 : decode cX10_letterAt 4 = .ok (.iload_n 1, 1) := by decide +kernel
theorem dX10_letterAt_5 : decode cX10_letterAt 5 = .ok (.aload_n 0, 1) := by decide +kernel
theorem dX10_letterAt_6 : decode cX10_letterAt 6 = .ok (.getfield 7, 3) := by decide +kernel
theorem dX10_letterAt_9 : decode cX10_letterAt 9 = .ok (.if_icmp .ge 21, 3) := by decide +kernel
theorem dX10_letterAt_12 : decode cX10_letterAt 12 = .ok (.iload_n 1, 1) := by decide +kernel
theorem dX10_letterAt_13 : decode cX10_letterAt 13 = .ok (.aload_n 0, 1) := by decide +kernel
theorem dX10_letterAt_14 : decode cX10_letterAt 14 = .ok (.getfield 13, 3) := by decide +kernel
theorem dX10_letterAt_17 : decode cX10_letterAt 17 = .ok (.arraylength, 1) := by decide +kernel
theorem dX10_letterAt_18 : decode cX10_letterAt 18 = .ok (.if_icmp .ge 12, 3) := by decide +kernel
theorem dX10_letterAt_21 : decode cX10_letterAt 21 = .ok (.aload_n 0, 1) := by decide +kernel
theorem dX10_letterAt_22 : decode cX10_letterAt 22 = .ok (.getfield 13, 3) := by decide +kernel
theorem dX10_letterAt_25 : decode cX10_letterAt 25 = .ok (.iload_n 1, 1) := by decide +kernel
theorem dX10_letterAt_26 : decode cX10_letterAt 26 = .ok (.iaload, 1) := by decide +kernel
theorem dX10_letterAt_27 : decode cX10_letterAt 27 = .ok (.goto 4, 3) := by decide +kernel
theorem dX10_letterAt_30 : decode cX10_letterAt 30 = .ok (.iconst (-1), 1) := by decide +kernel
theorem dX10_letterAt_31 : decode cX10_letterAt 31 = .ok (.ireturn, 1) := by decide +kernel
set_option maxRecDepth 20000 in
theorem ggX11_init_X5_init : GoodIn wsX11_init wsX5_init := goodIn_r _ [45, 46, 2, 3, 47, 48, 49, 113, 114] (by decide +kernel) (by decide +kernel)
set_option maxRecDepth 20000 in
theorem gX11_init_X5_init_n11 : GoodIn wsX11_init (wsX5_init) := ggX11_init_X5_init
set_option maxRecDepth 20000 in
theorem ggX11_init_X4_init : GoodIn wsX11_init wsX4_init := goodIn_r _ [51, 52, 2, 3, 47, 53, 54, 55, 56, 57, 58, 59, 128, 129, 130, 131, 132, 133, 134] (by decide +kernel) (by decide +kernel)
set_option maxRecDepth 20000 in
theorem gX11_init_X4_init_n18 : GoodIn wsX11_init (wsX4_init) := ggX11_init_X4_init
set_option maxRecDepth 20000 in
theorem ggX11_init_X1_init : GoodIn wsX11_init wsX1_init := goodIn_r _ [61, 62, 2, 3, 47, 63, 135] (by decide +kernel) (by decide +kernel)
set_option maxRecDepth 20000 in
theorem gX11_init_X1_init_n28 : GoodIn wsX11_init (wsX1_init) := ggX11_init_X1_init
set_option maxRecDepth 20000 in
theorem ggX11_init_X10_init : GoodIn wsX11_init wsX10_init := goodIn_r _ [66, 67, 2, 3, 68, 47, 69, 136, 137] (by decide +kernel) (by decide +kernel)
set_option maxRecDepth 20000 in
theorem gX11_init_X10_init : GoodIn wsX11_init (wsX10_init) := ggX11_init_X10_init
set_option maxRecDepth 20000 in
theorem ggX11_init_X2_init : GoodIn wsX11_init wsX2_init := goodIn_r _ [72, 73, 2, 3, 74, 75, 18, 19, 76, 77, 78, 65, 66, 67, 68, 47, 69, 138, 139, 140, 136, 137] (by decide +kernel) (by decide +kernel)
set_option maxRecDepth 20000 in
theorem gX11_init_X2_init : GoodIn wsX11_init (wsX2_init) := ggX11_init_X2_init
set_option maxRecDepth 20000 in
theorem ggX11_init_X0_init : GoodIn wsX11_init wsX0_init := goodIn_r _ [81, 82, 2, 3, 83, 84, 47, 85, 86, 87, 88, 141, 142, 143, 144, 145] (by decide +kernel) (by decide +kernel)
set_option maxRecDepth 20000 in
theorem gX11_init_X0_init : GoodIn wsX11_init (wsX0_init) := ggX11_init_X0_init
set_option maxRecDepth 20000 in
theorem ggX11_init_X6_init : GoodIn wsX11_init wsX6_init := goodIn_r _ [91, 92, 2, 3, 47, 93, 94, 146, 147] (by decide +kernel) (by decide +kernel)
set_option maxRecDepth 20000 in
theorem gX11_init_X6_init : GoodIn wsX11_init (wsX6_init) := ggX11_init_X6_init
set_option maxRecDepth 20000 in
theorem ggX11_init_X7_init : GoodIn wsX11_init wsX7_init := goodIn_r _ [97, 98, 2, 3, 47, 99, 100, 101, 148, 149, 150] (by decide +kernel) (by decide +kernel)
set_option maxRecDepth 20000 in
theorem gX11_init_X7_init : GoodIn wsX11_init (wsX7_init) := ggX11_init_X7_init
set_option maxRecDepth 20000 in
theorem ggX11_init_X9_init : GoodIn wsX11_init wsX9_init := goodIn_r _ [104, 105, 2, 3, 106, 107, 108, 109, 110, 111, 112, 151, 152, 153, 154, 155, 156] (by decide +kernel) (by decide +kernel)
set_option maxRecDepth 20000 in
theorem gX11_init_X9_init : GoodIn wsX11_init (wsX9_init) := ggX11_init_X9_init
theorem dX11_init_0 : decode cX11_init 0 = .ok (.aload_n 0, 1) := by decide +kernel
theorem dX11_init_1 : decode cX11_init 1 = .ok (.invokespecial 3, 3) := by decide +kernel
theorem dX11_init_4 : decode cX11_init 4 = .ok (.aload_n 0, 1) := by decide +kernel
theorem dX11_init_5 : decode cX11_init 5 = .ok (.new 9, 3) := by decide +kernel
theorem dX11_init_8 : decode cX11_init 8 = .ok (.dup, 1) := by decide +kernel
theorem dX11_init_9 : decode cX11_init 9 = .ok (.invokespecial 11, 3) := by decide +kernel
theorem dX11_init_12 : decode cX11_init 12 = .ok (.putfield 12, 3) := by decide +kernel
theorem dX11_init_15 : decode cX11_init 15 = .ok (.aload_n 0, 1) := by decide +kernel
theorem dX11_init_16 : decode cX11_init 16 = .ok (.new 16, 3) := by decide +kernel
theorem dX11_init_19 : decode cX11_init 19 = .ok (.dup, 1) := by decide +kernel
theorem dX11_init_20 : decode cX11_init 20 = .ok (.invokespecial 18, 3) := by decide +kernel
theorem dX11_init_23 : decode cX11_init 23 = .ok (.putfield 19, 3) := by decide +kernel
theorem dX11_init_26 : decode cX11_init 26 = .ok (.aload_n 0, 1) := by decide +kernel
theorem dX11_init_27 : decode cX11_init 27 = .ok (.new 16, 3) := by decide +kernel
theorem dX11_init_30 : decode cX11_init 30 = .ok (.dup, 1) := by decide +kernel
theorem dX11_init_31 : decode cX11_init 31 = .ok (.invokespecial 18, 3) := by decide +kernel
theorem dX11_init_34 : decode cX11_init 34 = .ok (.putfield 23, 3) := by decide +kernel
theorem dX11_init_37 : decode cX11_init 37 = .ok (.aload_n 0, 1) := by decide +kernel
theorem dX11_init_38 : decode cX11_init 38 = .ok (.new 26, 3) := by decide +kernel
theorem dX11_init_41 : decode cX11_init 41 = .ok (.dup, 1) := by decide +kernel
theorem dX11_init_42 : decode cX11_init 42 = .ok (.invokespecial 28, 3) := by decide +kernel
theorem dX11_init_45 : decode cX11_init 45 = .ok (.putfield 29, 3) := by decide +kernel
theorem dX11_init_48 : decode cX11_init 48 = .ok (.aload_n 0, 1) := by decide +kernel
theorem dX11_init_49 : decode cX11_init 49 = .ok (.new 33, 3) := by decide +kernel
theorem dX11_init_52 : decode cX11_init 52 = .ok (.dup, 1) := by decide +kernel
theorem dX11_init_53 : decode cX11_init 53 = .ok (.bipush 6, 2) := by decide +kernel
theorem dX11_init_55 : decode cX11_init 55 = .ok (.invokespecial 35, 3) := by decide +kernel
theorem dX11_init_58 : decode cX11_init 58 = .ok (.putfield 38, 3) := by decide +kernel
theorem dX11_init_61 : decode cX11_init 61 = .ok (.aload_n 0, 1) := by decide +kernel
theorem dX11_init_62 : decode cX11_init 62 = .ok (.new 33, 3) := by decide +kernel
theorem dX11_init_65 : decode cX11_init 65 = .ok (.dup, 1) := by decide +kernel
theorem dX11_init_66 : decode cX11_init 66 = .ok (.bipush 12, 2) := by decide +kernel
theorem dX11_init_68 : decode cX11_init 68 = .ok (.invokespecial 35, 3) := by decide +kernel
theorem dX11_init_71 : decode cX11_init 71 = .ok (.putfield 42, 3) := by decide +kernel
theorem dX11_init_74 : decode cX11_init 74 = .ok (.aload_n 0, 1) := by decide +kernel
theorem dX11_init_75 : decode cX11_init 75 = .ok (.new 45, 3) := by decide +kernel
theorem dX11_init_78 : decode cX11_init 78 = .ok (.dup, 1) := by decide +kernel
theorem dX11_init_79 : decode cX11_init 79 = .ok (.invokespecial 47, 3) := by decide +kernel
theorem dX11_init_82 : decode cX11_init 82 = .ok (.putfield 48, 3) := by decide +kernel
theorem dX11_init_85 : decode cX11_init 85 = .ok (.aload_n 0, 1) := by decide +kernel
theorem dX11_init_86 : decode cX11_init 86 = .ok (.new 52, 3) := by decide +kernel
theorem dX11_init_89 : decode cX11_init 89 = .ok (.dup, 1) := by decide +kernel
theorem dX11_init_90 : decode cX11_init 90 = .ok (.aload_n 0, 1) := by decide +kernel
theorem dX11_init_91 : decode cX11_init 91 = .ok (.getfield 19, 3) := by decide +kernel
theorem dX11_init_94 : decode cX11_init 94 = .ok (.aload_n 0, 1) := by decide +kernel
theorem dX11_init_95 : decode cX11_init 95 = .ok (.getfield 29, 3) := by decide +kernel
theorem dX11_init_98 : decode cX11_init 98 = .ok (.aload_n 0, 1) := by decide +kernel
theorem dX11_init_99 : decode cX11_init 99 = .ok (.getfield 38, 3) := by decide +kernel
theorem dX11_init_102 : decode cX11_init 102 = .ok (.invokespecial 54, 3) := by decide +kernel
theorem dX11_init_105 : decode cX11_init 105 = .ok (.putfield 57, 3) := by decide +kernel
theorem dX11_init_108 : decode cX11_init 108 = .ok (.aload_n 0, 1) := by decide +kernel
theorem dX11_init_109 : decode cX11_init 109 = .ok (.new 61, 3) := by decide +kernel
theorem dX11_init_112 : decode cX11_init 112 = .ok (.dup, 1) := by decide +kernel
theorem dX11_init_113 : decode cX11_init 113 = .ok (.aload_n 0, 1) := by decide +kernel
theorem dX11_init_114 : decode cX11_init 114 = .ok (.getfield 57, 3) := by decide +kernel
theorem dX11_init_117 : decode cX11_init 117 = .ok (.invokespecial 63, 3) := by decide +kernel
theorem dX11_init_120 : decode cX11_init 120 = .ok (.putfield 66, 3) := by decide +kernel
theorem dX11_init_123 : decode cX11_init 123 = .ok (.aload_n 0, 1) := by decide +kernel
theorem dX11_init_124 : decode cX11_init 124 = .ok (.new 70, 3) := by decide +kernel
theorem dX11_init_127 : decode cX11_init 127 = .ok (.dup, 1) := by decide +kernel
theorem dX11_init_128 : decode cX11_init 128 = .ok (.aload_n 0, 1) := by decide +kernel
theorem dX11_init_129 : decode cX11_init 129 = .ok (.getfield 29, 3) := by decide +kernel
theorem dX11_init_132 : decode cX11_init 132 = .ok (.invokespecial 72, 3) := by decide +kernel
theorem dX11_init_135 : decode cX11_init 135 = .ok (.putfield 75, 3) := by decide +kernel
theorem dX11_init_138 : decode cX11_init 138 = .ok (.aload_n 0, 1) := by decide +kernel
theorem dX11_init_139 : decode cX11_init 139 = .ok (.new 70, 3) := by decide +kernel
theorem dX11_init_142 : decode cX11_init 142 = .ok (.dup, 1) := by decide +kernel
theorem dX11_init_143 : decode cX11_init 143 = .ok (.aload_n 0, 1) := by decide +kernel
theorem dX11_init_144 : decode cX11_init 144 = .ok (.getfield 29, 3) := by decide +kernel
theorem dX11_init_147 : decode cX11_init 147 = .ok (.invokespecial 72, 3) := by decide +kernel
theorem dX11_init_150 : decode cX11_init 150 = .ok (.putfield 79, 3) := by decide +kernel
theorem dX11_init_153 : decode cX11_init 153 = .ok (.aload_n 0, 1) := by decide +kernel
theorem dX11_init_154 : decode cX11_init 154 = .ok (.new 82, 3) := by decide +kernel
theorem dX11_init_157 : decode cX11_init 157 = .ok (.dup, 1) := by decide +kernel
theorem dX11_init_158 : decode cX11_init 158 = .ok (.aload_n 0, 1) := by decide +kernel
theorem dX11_init_159 : decode cX11_init 159 = .ok (.getfield 19, 3) := by decide +kernel
theorem dX11_init_162 : decode cX11_init 162 = .ok (.aload_n 0, 1) := by decide +kernel
theorem dX11_init_163 : decode cX11_init 163 = .ok (.getfield 57, 3) := by decide +kernel
theorem dX11_init_166 : decode cX11_init 166 = .ok (.aload_n 0, 1) := by decide +kernel
theorem dX11_init_167 : decode cX11_init 167 = .ok (.getfield 48, 3) := by decide +kernel
theorem dX11_init_170 : decode cX11_init 170 = .ok (.invokespecial 84, 3) := by decide +kernel
theorem dX11_init_173 : decode cX11_init 173 = .ok (.putfield 87, 3) := by decide +kernel
theorem dX11_init_176 : decode cX11_init 176 = .ok (.aload_n 0, 1) := by decide +kernel
theorem dX11_init_177 : decode cX11_init 177 = .ok (.iconst 0, 1) := by decide +kernel
theorem dX11_init_178 : decode cX11_init 178 = .ok (.putfield 91, 3) := by decide +kernel
theorem dX11_init_181 : decode cX11_init 181 = .ok (.return_, 1) := by decide +kernel
set_option maxRecDepth 20000 in
theorem ggX11_say_X5_add : GoodIn wsX11_say wsX5_add := goodIn_r _ [7, 8, 9, 23, 24] (by decide +kernel) (by decide +kernel)
set_option maxRecDepth 20000 in
theorem gX11_say_X5_add : GoodIn wsX11_say (wsV RX11 95 RX5 yX5_add wsX5_add) := goodIn_app (goodIn_of _ (by decide +kernel)) ggX11_say_X5_add
theorem dX11_say_0 : decode cX11_say 0 = .ok (.iload_n 1, 1) := by decide +kernel
theorem dX11_say_1 : decode cX11_say 1 = .ok (.bipush 33, 2) := by decide +kernel
theorem dX11_say_3 : decode cX11_say 3 = .ok (.if_icmp .lt 9, 3) := by decide +kernel
theorem dX11_say_6 : decode cX11_say 6 = .ok (.iload_n 1, 1) := by decide +kernel
theorem dX11_say_7 : decode cX11_say 7 = .ok (.bipush 126, 2) := by decide +kernel
theorem dX11_say_9 : decode cX11_say 9 = .ok (.if_icmp .le 6, 3) := by decide +kernel
theorem dX11_say_12 : decode cX11_say 12 = .ok (.bipush (-2), 2) := by decide +kernel
theorem dX11_say_14 : decode cX11_say 14 = .ok (.ireturn, 1) := by decide +kernel
theorem dX11_say_15 : decode cX11_say 15 = .ok (.aload_n 0, 1) := by decide +kernel
theorem dX11_say_16 : decode cX11_say 16 = .ok (.getfield 12, 3) := by decide +kernel
theorem dX11_say_19 : decode cX11_say 19 = .ok (.iload_n 1, 1) := by decide +kernel
theorem dX11_say_20 : decode cX11_say 20 = .ok (.invokevirtual 95, 3) := by decide +kernel
theorem dX11_say_23 : decode cX11_say 23 = .ok (.ifCond .eq 13, 3) := by decide +kernel
theorem dX11_say_26 : decode cX11_say 26 = .ok (.aload_n 0, 1) := by decide +kernel
theorem dX11_say_27 : decode cX11_say 27 = .ok (.getfield 12, 3) := by decide +kernel
theorem dX11_say_30 : decode cX11_say 30 = .ok (.getfield 99, 3) := by decide +kernel
theorem dX11_say_33 : decode cX11_say 33 = .ok (.goto 5, 3) := by decide +kernel
theorem dX11_say_36 : decode cX11_say 36 = .ok (.bipush (-4), 2) := by decide +kernel
theorem dX11_say_38 : decode cX11_say 38 = .ok (.ireturn, 1) := by decide +kernel
theorem dX11_wipe_0 : decode cX11_wipe 0 = .ok (.aload_n 0, 1) := by decide +kernel
theorem dX11_wipe_1 : decode cX11_wipe 1 = .ok (.getfield 12, 3) := by decide +kernel
theorem dX11_wipe_4 : decode cX11_wipe 4 = .ok (.getfield 99, 3) := by decide +kernel
theorem dX11_wipe_7 : decode cX11_wipe 7 = .ok (.istore_n 1, 1) := by decide +kernel
theorem dX11_wipe_8 : decode cX11_wipe 8 = .ok (.aload_n 0, 1) := by decide +kernel
theorem dX11_wipe_9 : decode cX11_wipe 9 = .ok (.getfield 12, 3) := by decide +kernel
theorem dX11_wipe_12 : decode cX11_wipe 12 = .ok (.iconst 0, 1) := by decide +kernel
theorem dX11_wipe_13 : decode cX11_wipe 13 = .ok (.putfield 99, 3) := by decide +kernel
theorem dX11_wipe_16 : decode cX11_wipe 16 = .ok (.iload_n 1, 1) := by decide +kernel
theorem dX11_wipe_17 : decode cX11_wipe 17 = .ok (.ireturn, 1) := by decide +kernel
set_option maxRecDepth 20000 in
theorem ggX11_fault_X8_read : GoodIn wsX11_fault wsX8_read := goodIn_r _ [6, 7, 8, 9, 10, 11, 12, 13, 14, 15, 16, 17, 18, 19, 20, 21, 22, 23, 24, 25, 26, 27, 28, 29, 5, 30, 31, 32, 33, 34, 35, 36, 37, 38, 39, 40, 41, 42, 43, 44, 45, 46, 47, 48, 49, 50, 51, 52, 53, 54, 55, 56, 57, 58, 59, 60, 61, 62, 63, 64, 65, 66, 67, 68, 69, 70, 71, 72, 73, 74, 75, 76, 77, 78, 79, 80, 81, 82, 83, 84, 85, 86, 87, 88, 102, 103, 104, 105, 106, 107, 108, 109, 110] (by decide +kernel) (by decide +kernel)
set_option maxRecDepth 20000 in
theorem gX11_fault_X8_read : GoodIn wsX11_fault (va_wsS RX11 103 yX8_read wsX8_read) := goodIn_app (goodIn_of _ (by decide +kernel)) ggX11_fault_X8_read
theorem dX11_fault_0 : decode cX11_fault 0 = .ok (.aload_n 0, 1) := by decide +kernel
theorem dX11_fault_1 : decode cX11_fault 1 = .ok (.getfield 12, 3) := by decide +kernel
theorem dX11_fault_4 : decode cX11_fault 4 = .ok (.aload_n 0, 1) := by decide +kernel
theorem dX11_fault_5 : decode cX11_fault 5 = .ok (.getfield 23, 3) := by decide +kernel
theorem dX11_fault_8 : decode cX11_fault 8 = .ok (.invokestatic 103, 3) := by decide +kernel
theorem dX11_fault_11 : decode cX11_fault 11 = .ok (.ireturn, 1) := by decide +kernel
set_option maxRecDepth 20000 in
theorem ggX11_grammar_X8_read : GoodIn wsX11_grammar wsX8_read := goodIn_r _ [9, 10, 11, 12, 13, 14, 15, 16, 17, 18, 19, 20, 21, 22, 23, 24, 25, 26, 27, 28, 29, 30, 31, 32, 8, 33, 34, 35, 36, 37, 38, 39, 40, 41, 42, 43, 44, 45, 46, 47, 48, 49, 50, 51, 52, 53, 54, 55, 56, 57, 58, 59, 60, 61, 62, 63, 64, 65, 66, 67, 68, 69, 70, 71, 72, 73, 74, 75, 76, 77, 78, 79, 80, 81, 82, 83, 84, 85, 86, 87, 88, 89, 90, 91, 132, 133, 134, 135, 136, 137, 138, 139, 140] (by decide +kernel) (by decide +kernel)
set_option maxRecDepth 20000 in
theorem gX11_grammar_X8_read : GoodIn wsX11_grammar (va_wsS RX11 103 yX8_read wsX8_read) := goodIn_app (goodIn_of _ (by decide +kernel)) ggX11_grammar_X8_read
set_option maxRecDepth 20000 in
theorem ggX11_grammar_X4_copy : GoodIn wsX11_grammar wsX4_copy := goodIn_r _ [95, 16, 96, 97, 98, 99, 61, 79, 17, 18, 134, 135, 136, 137, 138, 139, 140] (by decide +kernel) (by decide +kernel)
set_option maxRecDepth 20000 in
theorem gX11_grammar_X4_copy : GoodIn wsX11_grammar (wsV RX11 109 RX4 yX4_copy wsX4_copy) := goodIn_app (goodIn_of _ (by decide +kernel)) ggX11_grammar_X4_copy
set_option maxRecDepth 20000 in
theorem ggX11_grammar_X11_forgetAnswers : GoodIn wsX11_grammar wsX11_forgetAnswers := goodIn_r _ [103, 104, 105, 106, 107, 108, 109, 110, 111, 119, 120, 121, 122, 123, 124, 125, 126, 127, 128, 129, 130, 131, 141, 142, 143, 144, 145, 146] (by decide +kernel) (by decide +kernel)
set_option maxRecDepth 20000 in
theorem gX11_grammar_X11_forgetAnswers : GoodIn wsX11_grammar (wsV RX11 113 RX11 yX11_forgetAnswers wsX11_forgetAnswers) := goodIn_app (goodIn_of _ (by decide +kernel)) ggX11_grammar_X11_forgetAnswers
set_option maxRecDepth 20000 in
theorem ggX11_grammar_J6_bitCount_0f7a4 : GoodIn wsX11_grammar wsJ6_bitCount_0f7a4 := goodIn_r _ [115, 116, 117, 118] (by decide +kernel) (by decide +kernel)
set_option maxRecDepth 20000 in
theorem gX11_grammar_J6_bitCount_0f7a4 : GoodIn wsX11_grammar (va_wsS RX11 119 yJ6_bitCount_0f7a4 wsJ6_bitCount_0f7a4) := goodIn_app (goodIn_of _ (by decide +kernel)) ggX11_grammar_J6_bitCount_0f7a4
theorem dX11_grammar_0 : decode cX11_grammar 0 = .ok (.aload_n 0, 1) := by decide +kernel
theorem dX11_grammar_1 : decode cX11_grammar 1 = .ok (.getfield 12, 3) := by decide +kernel
theorem dX11_grammar_4 : decode cX11_grammar 4 = .ok (.aload_n 0, 1) := by decide +kernel
theorem dX11_grammar_5 : decode cX11_grammar 5 = .ok (.getfield 23, 3) := by decide +kernel
theorem dX11_grammar_8 : decode cX11_grammar 8 = .ok (.invokestatic 103, 3) := by decide +kernel
theorem dX11_grammar_11 : decode cX11_grammar 11 = .ok (.bipush (-6), 2) := by decide +kernel
theorem dX11_grammar_13 : decode cX11_grammar 13 = .ok (.if_icmp .eq 6, 3) := by decide +kernel
theorem dX11_grammar_16 : decode cX11_grammar 16 = .ok (.bipush (-5), 2) := by decide +kernel
theorem dX11_grammar_18 : decode cX11_grammar 18 = .ok (.ireturn, 1) := by decide +kernel
theorem dX11_grammar_19 : decode cX11_grammar 19 = .ok (.aload_n 0, 1) := by decide +kernel
theorem dX11_grammar_20 : decode cX11_grammar 20 = .ok (.getfield 19, 3) := by decide +kernel
theorem dX11_grammar_23 : decode cX11_grammar 23 = .ok (.aload_n 0, 1) := by decide +kernel
theorem dX11_grammar_24 : decode cX11_grammar 24 = .ok (.getfield 23, 3) := by decide +kernel
theorem dX11_grammar_27 : decode cX11_grammar 27 = .ok (.invokevirtual 109, 3) := by decide +kernel
theorem dX11_grammar_30 : decode cX11_grammar 30 = .ok (.aload_n 0, 1) := by decide +kernel
theorem dX11_grammar_31 : decode cX11_grammar 31 = .ok (.getfield 12, 3) := by decide +kernel
theorem dX11_grammar_34 : decode cX11_grammar 34 = .ok (.iconst 0, 1) := by decide +kernel
theorem dX11_grammar_35 : decode cX11_grammar 35 = .ok (.putfield 99, 3) := by decide +kernel
theorem dX11_grammar_38 : decode cX11_grammar 38 = .ok (.aload_n 0, 1) := by decide +kernel
theorem dX11_grammar_39 : decode cX11_grammar 39 = .ok (.invokevirtual 113, 3) := by decide +kernel
theorem dX11_grammar_42 : decode cX11_grammar 42 = .ok (.aload_n 0, 1) := by decide +kernel
theorem dX11_grammar_43 : decode cX11_grammar 43 = .ok (.getfield 19, 3) := by decide +kernel
theorem dX11_grammar_46 : decode cX11_grammar 46 = .ok (.getfield 116, 3) := by decide +kernel
theorem dX11_grammar_49 : decode cX11_grammar 49 = .ok (.invokestatic 119, 3) := by decide +kernel
theorem dX11_grammar_52 : decode cX11_grammar 52 = .ok (.ireturn, 1) := by decide +kernel
set_option maxRecDepth 20000 in
theorem ggX11_rule_X11_isName : GoodIn wsX11_rule wsX11_isName := goodIn_r _ [5] (by decide +kernel) (by decide +kernel)
set_option maxRecDepth 20000 in
theorem gX11_rule_X11_isName : GoodIn wsX11_rule (va_wsS RX11 125 yX11_isName wsX11_isName) := goodIn_app (goodIn_of _ (by decide +kernel)) ggX11_rule_X11_isName
set_option maxRecDepth 20000 in
theorem ggX11_rule_X4_countOf : GoodIn wsX11_rule wsX4_countOf := goodIn_r _ [10, 11, 12, 3, 4, 5, 43, 44, 45, 46, 47, 48, 49] (by decide +kernel) (by decide +kernel)
set_option maxRecDepth 20000 in
theorem gX11_rule_X4_countOf : GoodIn wsX11_rule (wsV RX11 128 RX4 yX4_countOf wsX4_countOf) := goodIn_app (goodIn_of _ (by decide +kernel)) ggX11_rule_X4_countOf
set_option maxRecDepth 20000 in
theorem ggX11_rule_X4_slotOf : GoodIn wsX11_rule wsX4_slotOf := goodIn_r _ [16, 11, 3, 4, 5, 43, 44, 45, 46, 47, 48, 49] (by decide +kernel) (by decide +kernel)
set_option maxRecDepth 20000 in
theorem gX11_rule_X4_slotOf : GoodIn wsX11_rule (wsV RX11 131 RX4 yX4_slotOf wsX4_slotOf) := goodIn_app (goodIn_of _ (by decide +kernel)) ggX11_rule_X4_slotOf
set_option maxRecDepth 20000 in
theorem ggX11_rule_X4_lengthOf : GoodIn wsX11_rule wsX4_lengthOf := goodIn_r _ [20, 21, 43, 44, 45, 46, 47, 48, 49] (by decide +kernel) (by decide +kernel)
set_option maxRecDepth 20000 in
theorem gX11_rule_X4_lengthOf : GoodIn wsX11_rule (wsV RX11 135 RX4 yX4_lengthOf wsX4_lengthOf) := goodIn_app (goodIn_of _ (by decide +kernel)) ggX11_rule_X4_lengthOf
set_option maxRecDepth 20000 in
theorem ggX11_rule_X4_signAt : GoodIn wsX11_rule wsX4_signAt := goodIn_r _ [25, 26, 43, 44, 45, 46, 47, 48, 49] (by decide +kernel) (by decide +kernel)
set_option maxRecDepth 20000 in
theorem gX11_rule_X4_signAt : GoodIn wsX11_rule (wsV RX11 138 RX4 yX4_signAt wsX4_signAt) := goodIn_app (goodIn_of _ (by decide +kernel)) ggX11_rule_X4_signAt
set_option maxRecDepth 20000 in
theorem ggX11_rule_X11_codeOf : GoodIn wsX11_rule wsX11_codeOf := goodIn_r _ [29] (by decide +kernel) (by decide +kernel)
set_option maxRecDepth 20000 in
theorem gX11_rule_X11_codeOf : GoodIn wsX11_rule (va_wsS RX11 141 yX11_codeOf wsX11_codeOf) := goodIn_app (goodIn_of _ (by decide +kernel)) ggX11_rule_X11_codeOf
theorem dX11_rule_0 : decode cX11_rule 0 = .ok (.iload_n 1, 1) := by decide +kernel
theorem dX11_rule_1 : decode cX11_rule 1 = .ok (.invokestatic 125, 3) := by decide +kernel
theorem dX11_rule_4 : decode cX11_rule 4 = .ok (.ifCond .eq 19, 3) := by decide +kernel
theorem dX11_rule_7 : decode cX11_rule 7 = .ok (.iload_n 2, 1) := by decide +kernel
theorem dX11_rule_8 : decode cX11_rule 8 = .ok (.ifCond .lt 15, 3) := by decide +kernel
theorem dX11_rule_11 : decode cX11_rule 11 = .ok (.iload_n 2, 1) := by decide +kernel
theorem dX11_rule_12 : decode cX11_rule 12 = .ok (.aload_n 0, 1) := by decide +kernel
theorem dX11_rule_13 : decode cX11_rule 13 = .ok (.getfield 19, 3) := by decide +kernel
theorem dX11_rule_16 : decode cX11_rule 16 = .ok (.iload_n 1, 1) := by decide +kernel
theorem dX11_rule_17 : decode cX11_rule 17 = .ok (.invokevirtual 128, 3) := by decide +kernel
theorem dX11_rule_20 : decode cX11_rule 20 = .ok (.if_icmp .lt 5, 3) := by decide +kernel
theorem dX11_rule_23 : decode cX11_rule 23 = .ok (.iconst (-1), 1) := by decide +kernel
theorem dX11_rule_24 : decode cX11_rule 24 = .ok (.ireturn, 1) := by decide +kernel
theorem dX11_rule_25 : decode cX11_rule 25 = .ok (.aload_n 0, 1) := by decide +kernel
theorem dX11_rule_26 : decode cX11_rule 26 = .ok (.getfield 19, 3) := by decide +kernel
theorem dX11_rule_29 : decode cX11_rule 29 = .ok (.iload_n 1, 1) := by decide +kernel
theorem dX11_rule_30 : decode cX11_rule 30 = .ok (.iload_n 2, 1) := by decide +kernel
theorem dX11_rule_31 : decode cX11_rule 31 = .ok (.invokevirtual 131, 3) := by decide +kernel
theorem dX11_rule_34 : decode cX11_rule 34 = .ok (.istore 4, 2) := by decide +kernel
theorem dX11_rule_36 : decode cX11_rule 36 = .ok (.aload_n 0, 1) := by decide +kernel
theorem dX11_rule_37 : decode cX11_rule 37 = .ok (.getfield 19, 3) := by decide +kernel
theorem dX11_rule_40 : decode cX11_rule 40 = .ok (.iload 4, 2) := by decide +kernel
theorem dX11_rule_42 : decode cX11_rule 42 = .ok (.invokevirtual 135, 3) := by decide +kernel
theorem dX11_rule_45 : decode cX11_rule 45 = .ok (.istore 5, 2) := by decide +kernel
theorem dX11_rule_47 : decode cX11_rule 47 = .ok (.iload_n 3, 1) := by decide +kernel
theorem dX11_rule_48 : decode cX11_rule 48 = .ok (.iconst (-1), 1) := by decide +kernel
theorem dX11_rule_49 : decode cX11_rule 49 = .ok (.if_icmp .ne 6, 3) := by decide +kernel
theorem dX11_rule_52 : decode cX11_rule 52 = .ok (.iload 5, 2) := by decide +kernel
theorem dX11_rule_54 : decode cX11_rule 54 = .ok (.ireturn, 1) := by decide +kernel
theorem dX11_rule_55 : decode cX11_rule 55 = .ok (.iload_n 3, 1) := by decide +kernel
theorem dX11_rule_56 : decode cX11_rule 56 = .ok (.ifCond .lt 25, 3) := by decide +kernel
theorem dX11_rule_59 : decode cX11_rule 59 = .ok (.iload_n 3, 1) := by decide +kernel
theorem dX11_rule_60 : decode cX11_rule 60 = .ok (.iload 5, 2) := by decide +kernel
theorem dX11_rule_62 : decode cX11_rule 62 = .ok (.if_icmp .ge 19, 3) := by decide +kernel
theorem dX11_rule_65 : decode cX11_rule 65 = .ok (.aload_n 0, 1) := by decide +kernel
theorem dX11_rule_66 : decode cX11_rule 66 = .ok (.getfield 19, 3) := by decide +kernel
theorem dX11_rule_69 : decode cX11_rule 69 = .ok (.iload 4, 2) := by decide +kernel
theorem dX11_rule_71 : decode cX11_rule 71 = .ok (.iload_n 3, 1) := by decide +kernel
theorem dX11_rule_72 : decode cX11_rule 72 = .ok (.invokevirtual 138, 3) := by decide +kernel
theorem dX11_rule_75 : decode cX11_rule 75 = .ok (.invokestatic 141, 3) := by decide +kernel
theorem dX11_rule_78 : decode cX11_rule 78 = .ok (.goto 5, 3) := by decide +kernel
theorem dX11_rule_81 : decode cX11_rule 81 = .ok (.bipush (-6), 2) := by decide +kernel
theorem dX11_rule_83 : decode cX11_rule 83 = .ok (.ireturn, 1) := by decide +kernel
set_option maxRecDepth 20000 in
theorem ggX11_least_X11_isName : GoodIn wsX11_least wsX11_isName := goodIn_r _ [4] (by decide +kernel) (by decide +kernel)
set_option maxRecDepth 20000 in
theorem gX11_least_X11_isName : GoodIn wsX11_least (va_wsS RX11 125 yX11_isName wsX11_isName) := goodIn_app (goodIn_of _ (by decide +kernel)) ggX11_least_X11_isName
set_option maxRecDepth 20000 in
theorem ggX11_least_X11_chartOfWord : GoodIn wsX11_least wsX11_chartOfWord := goodIn_r _ [8, 9, 10, 11, 12, 13, 14, 15, 16, 17, 18, 19, 20, 21, 22, 23, 24, 25, 26, 27, 28, 29, 30, 31, 32, 33, 34, 35, 36, 37, 38, 39, 2, 3, 4, 40, 41, 42, 43, 44, 45, 46, 47, 48, 49, 50, 51, 52, 53, 54, 55, 56, 57, 58, 59, 60, 61, 62, 63, 64, 65, 66, 67, 68, 69, 70, 71, 72, 73, 74, 75, 76, 77, 78, 79, 80, 81, 82, 83, 84, 85, 86, 87, 88, 89, 90, 91, 92, 93, 94, 95, 96, 97, 98, 99, 100, 101, 102, 103, 104, 105, 106, 107, 108, 109, 110, 111, 112, 113, 114, 115, 116, 117, 118, 119, 120, 121, 122, 123, 124, 125, 126, 127, 128, 129, 130, 131, 132, 133, 134, 135, 136, 137, 153, 154, 155, 156, 157, 158, 159, 160, 161, 162, 163, 164, 165, 166, 167, 168, 169, 170, 171, 172, 173, 174, 175, 176, 177, 178, 179, 180] (by decide +kernel) (by decide +kernel)
set_option maxRecDepth 20000 in
theorem gX11_least_X11_chartOfWord : GoodIn wsX11_least (wsV RX11 144 RX11 yX11_chartOfWord wsX11_chartOfWord) := goodIn_app (goodIn_of _ (by decide +kernel)) ggX11_least_X11_chartOfWord
set_option maxRecDepth 20000 in
theorem ggX11_least_X0_leastOf : GoodIn wsX11_least wsX0_leastOf := goodIn_r _ [141, 110, 111, 112, 15, 113, 114, 115, 116, 117, 97, 102, 166, 167, 168, 169, 170] (by decide +kernel) (by decide +kernel)
set_option maxRecDepth 20000 in
theorem gX11_least_X0_leastOf : GoodIn wsX11_least (wsV RX11 148 RX0 yX0_leastOf wsX0_leastOf) := goodIn_app (goodIn_of _ (by decide +kernel)) ggX11_least_X0_leastOf
set_option maxRecDepth 20000 in
theorem ggX11_least_X11_lettersOf : GoodIn wsX11_least wsX11_lettersOf := goodIn_r _ [144, 145, 146, 147, 90, 148, 134, 149, 150, 151, 152] (by decide +kernel) (by decide +kernel)
set_option maxRecDepth 20000 in
theorem gX11_least_X11_lettersOf : GoodIn wsX11_least (va_wsS RX11 152 yX11_lettersOf wsX11_lettersOf) := goodIn_app (goodIn_of _ (by decide +kernel)) ggX11_least_X11_lettersOf
theorem dX11_least_0 : decode cX11_least 0 = .ok (.iload_n 1, 1) := by decide +kernel
theorem dX11_least_1 : decode cX11_least 1 = .ok (.invokestatic 125, 3) := by decide +kernel
theorem dX11_least_4 : decode cX11_least 4 = .ok (.ifCond .ne 5, 3) := by decide +kernel
theorem dX11_least_7 : decode cX11_least 7 = .ok (.iconst (-1), 1) := by decide +kernel
theorem dX11_least_8 : decode cX11_least 8 = .ok (.ireturn, 1) := by decide +kernel
theorem dX11_least_9 : decode cX11_least 9 = .ok (.aload_n 0, 1) := by decide +kernel
theorem dX11_least_10 : decode cX11_least 10 = .ok (.invokevirtual 144, 3) := by decide +kernel
theorem dX11_least_13 : decode cX11_least 13 = .ok (.iload_n 1, 1) := by decide +kernel
theorem dX11_least_14 : decode cX11_least 14 = .ok (.invokevirtual 148, 3) := by decide +kernel
theorem dX11_least_17 : decode cX11_least 17 = .ok (.iload_n 2, 1) := by decide +kernel
theorem dX11_least_18 : decode cX11_least 18 = .ok (.invokestatic 152, 3) := by decide +kernel
theorem dX11_least_21 : decode cX11_least 21 = .ok (.ireturn, 1) := by decide +kernel
set_option maxRecDepth 20000 in
theorem ggX11_nothing_X11_chartOfWord : GoodIn wsX11_nothing wsX11_chartOfWord := goodIn_r _ [6, 7, 8, 9, 10, 11, 12, 13, 14, 15, 16, 17, 18, 19, 20, 21, 22, 23, 24, 25, 26, 27, 28, 29, 30, 31, 32, 33, 34, 35, 36, 37, 38, 5, 39, 40, 41, 42, 43, 44, 45, 46, 47, 48, 49, 50, 51, 52, 53, 54, 55, 56, 57, 58, 59, 60, 61, 62, 63, 64, 65, 66, 67, 68, 69, 70, 71, 72, 73, 74, 75, 76, 77, 78, 79, 80, 81, 82, 83, 84, 85, 86, 87, 88, 89, 90, 91, 92, 93, 94, 95, 96, 97, 98, 99, 100, 101, 102, 103, 104, 105, 106, 107, 108, 109, 110, 111, 112, 113, 114, 115, 116, 117, 118, 119, 120, 121, 122, 123, 124, 125, 126, 127, 128, 129, 130, 131, 132, 133, 134, 135, 136, 137, 142, 143, 144, 145, 146, 147, 148, 149, 150, 151, 152, 153, 154, 155, 156, 157, 158, 159, 160, 161, 162, 163, 164, 165, 166, 167, 168, 169] (by decide +kernel) (by decide +kernel)
set_option maxRecDepth 20000 in
theorem gX11_nothing_X11_chartOfWord : GoodIn wsX11_nothing (wsV RX11 144 RX11 yX11_chartOfWord wsX11_chartOfWord) := goodIn_app (goodIn_of _ (by decide +kernel)) ggX11_nothing_X11_chartOfWord
set_option maxRecDepth 20000 in
theorem ggX11_nothing_X0_leastOf : GoodIn wsX11_nothing wsX0_leastOf := goodIn_r _ [141, 110, 111, 112, 13, 113, 114, 115, 116, 117, 97, 102, 155, 156, 157, 158, 159] (by decide +kernel) (by decide +kernel)
set_option maxRecDepth 20000 in
theorem gX11_nothing_X0_leastOf : GoodIn wsX11_nothing (wsV RX11 148 RX0 yX0_leastOf wsX0_leastOf) := goodIn_app (goodIn_of _ (by decide +kernel)) ggX11_nothing_X0_leastOf
theorem dX11_nothing_0 : decode cX11_nothing 0 = .ok (.aload_n 0, 1) := by decide +kernel
theorem dX11_nothing_1 : decode cX11_nothing 1 = .ok (.invokevirtual 144, 3) := by decide +kernel
theorem dX11_nothing_4 : decode cX11_nothing 4 = .ok (.astore_n 1, 1) := by decide +kernel
theorem dX11_nothing_5 : decode cX11_nothing 5 = .ok (.iconst 0, 1) := by decide +kernel
theorem dX11_nothing_6 : decode cX11_nothing 6 = .ok (.istore_n 2, 1) := by decide +kernel
theorem dX11_nothing_7 : decode cX11_nothing 7 = .ok (.iconst 0, 1) := by decide +kernel
theorem dX11_nothing_8 : decode cX11_nothing 8 = .ok (.istore_n 3, 1) := by decide +kernel
theorem dX11_nothing_9 : decode cX11_nothing 9 = .ok (.iload_n 3, 1) := by decide +kernel
theorem dX11_nothing_10 : decode cX11_nothing 10 = .ok (.bipush 6, 2) := by decide +kernel
theorem dX11_nothing_12 : decode cX11_nothing 12 = .ok (.if_icmp .ge 27, 3) := by decide +kernel
theorem dX11_nothing_15 : decode cX11_nothing 15 = .ok (.aload_n 1, 1) := by decide +kernel
theorem dX11_nothing_16 : decode cX11_nothing 16 = .ok (.iload_n 3, 1) := by decide +kernel
theorem dX11_nothing_17 : decode cX11_nothing 17 = .ok (.invokevirtual 148, 3) := by decide +kernel
theorem dX11_nothing_20 : decode cX11_nothing 20 = .ok (.ldc2_w 158, 3) := by decide +kernel
theorem dX11_nothing_23 : decode cX11_nothing 23 = .ok (.lcmp, 1) := by decide +kernel
theorem dX11_nothing_24 : decode cX11_nothing 24 = .ok (.ifCond .ne 9, 3) := by decide +kernel
theorem dX11_nothing_27 : decode cX11_nothing 27 = .ok (.iload_n 2, 1) := by decide +kernel
theorem dX11_nothing_28 : decode cX11_nothing 28 = .ok (.iconst 1, 1) := by decide +kernel
theorem dX11_nothing_29 : decode cX11_nothing 29 = .ok (.iload_n 3, 1) := by decide +kernel
theorem dX11_nothing_30 : decode cX11_nothing 30 = .ok (.ishl, 1) := by decide +kernel
theorem dX11_nothing_31 : decode cX11_nothing 31 = .ok (.ior, 1) := by decide +kernel
theorem dX11_nothing_32 : decode cX11_nothing 32 = .ok (.istore_n 2, 1) := by decide +kernel
theorem dX11_nothing_33 : decode cX11_nothing 33 = .ok (.iinc 3 1, 3) := by decide +kernel
theorem dX11_nothing_36 : decode cX11_nothing 36 = .ok (.goto (-27), 3) := by decide +kernel
theorem dX11_nothing_39 : decode cX11_nothing 39 = .ok (.iload_n 2, 1) := by decide +kernel
theorem dX11_nothing_40 : decode cX11_nothing 40 = .ok (.ireturn, 1) := by decide +kernel
set_option maxRecDepth 20000 in
theorem ggX11_word_X5_isWord : GoodIn wsX11_word wsX5_isWord := goodIn_r _ [9, 10, 11, 12, 13, 8, 14, 15, 54, 55] (by decide +kernel) (by decide +kernel)
set_option maxRecDepth 20000 in
theorem gX11_word_X5_isWord : GoodIn wsX11_word (wsV RX11 160 RX5 yX5_isWord wsX5_isWord) := goodIn_app (goodIn_of _ (by decide +kernel)) ggX11_word_X5_isWord
set_option maxRecDepth 20000 in
theorem ggX11_word_X10_clear : GoodIn wsX11_word wsX10_clear := goodIn_r _ [20, 21, 56, 57] (by decide +kernel) (by decide +kernel)
set_option maxRecDepth 20000 in
theorem gX11_word_X10_clear : GoodIn wsX11_word (wsV RX11 164 RX10 yX10_clear wsX10_clear) := goodIn_app (goodIn_of _ (by decide +kernel)) ggX11_word_X10_clear
set_option maxRecDepth 20000 in
theorem ggX11_word_X5_signAt : GoodIn wsX11_word wsX5_signAt := goodIn_r _ [14, 10, 15, 54, 55] (by decide +kernel) (by decide +kernel)
set_option maxRecDepth 20000 in
theorem gX11_word_X5_signAt : GoodIn wsX11_word (wsV RX11 167 RX5 yX5_signAt wsX5_signAt) := goodIn_app (goodIn_of _ (by decide +kernel)) ggX11_word_X5_signAt
set_option maxRecDepth 20000 in
theorem ggX11_word_X10_add : GoodIn wsX11_word wsX10_add := goodIn_r _ [26, 21, 27, 56, 57] (by decide +kernel) (by decide +kernel)
set_option maxRecDepth 20000 in
theorem gX11_word_X10_add : GoodIn wsX11_word (wsV RX11 169 RX10 yX10_add wsX10_add) := goodIn_app (goodIn_of _ (by decide +kernel)) ggX11_word_X10_add
set_option maxRecDepth 20000 in
theorem ggX11_word_X11_forgetAnswers : GoodIn wsX11_word wsX11_forgetAnswers := goodIn_r _ [32, 33, 34, 35, 36, 37, 38, 39, 40, 41, 42, 43, 44, 45, 46, 47, 48, 49, 50, 51, 52, 53, 58, 59, 60, 61, 62, 63] (by decide +kernel) (by decide +kernel)
set_option maxRecDepth 20000 in
theorem gX11_word_X11_forgetAnswers : GoodIn wsX11_word (wsV RX11 113 RX11 yX11_forgetAnswers wsX11_forgetAnswers) := goodIn_app (goodIn_of _ (by decide +kernel)) ggX11_word_X11_forgetAnswers
theorem dX11_word_0 : decode cX11_word 0 = .ok (.aload_n 0, 1) := by decide +kernel
theorem dX11_word_1 : decode cX11_word 1 = .ok (.getfield 12, 3) := by decide +kernel
theorem dX11_word_4 : decode cX11_word 4 = .ok (.invokevirtual 160, 3) := by decide +kernel
theorem dX11_word_7 : decode cX11_word 7 = .ok (.ifCond .ne 6, 3) := by decide +kernel
theorem dX11_word_10 : decode cX11_word 10 = .ok (.bipush (-5), 2) := by decide +kernel
theorem dX11_word_12 : decode cX11_word 12 = .ok (.ireturn, 1) := by decide +kernel
theorem dX11_word_13 : decode cX11_word 13 = .ok (.aload_n 0, 1) := by decide +kernel
theorem dX11_word_14 : decode cX11_word 14 = .ok (.getfield 38, 3) := by decide +kernel
theorem dX11_word_17 : decode cX11_word 17 = .ok (.invokevirtual 164, 3) := by decide +kernel
theorem dX11_word_20 : decode cX11_word 20 = .ok (.iconst 0, 1) := by decide +kernel
theorem dX11_word_21 : decode cX11_word 21 = .ok (.istore_n 1, 1) := by decide +kernel
theorem dX11_word_22 : decode cX11_word 22 = .ok (.iload_n 1, 1) := by decide +kernel
theorem dX11_word_23 : decode cX11_word 23 = .ok (.aload_n 0, 1) := by decide +kernel
theorem dX11_word_24 : decode cX11_word 24 = .ok (.getfield 12, 3) := by decide +kernel
theorem dX11_word_27 : decode cX11_word 27 = .ok (.getfield 99, 3) := by decide +kernel
theorem dX11_word_30 : decode cX11_word 30 = .ok (.if_icmp .ge 27, 3) := by decide +kernel
theorem dX11_word_33 : decode cX11_word 33 = .ok (.aload_n 0, 1) := by decide +kernel
theorem dX11_word_34 : decode cX11_word 34 = .ok (.getfield 38, 3) := by decide +kernel
theorem dX11_word_37 : decode cX11_word 37 = .ok (.aload_n 0, 1) := by decide +kernel
theorem dX11_word_38 : decode cX11_word 38 = .ok (.getfield 12, 3) := by decide +kernel
theorem dX11_word_41 : decode cX11_word 41 = .ok (.iload_n 1, 1) := by decide +kernel
theorem dX11_word_42 : decode cX11_word 42 = .ok (.invokevirtual 167, 3) := by decide +kernel
theorem dX11_word_45 : decode cX11_word 45 = .ok (.bipush 97, 2) := by decide +kernel
theorem dX11_word_47 : decode cX11_word 47 = .ok (.isub, 1) := by decide +kernel
theorem dX11_word_48 : decode cX11_word 48 = .ok (.invokevirtual 169, 3) := by decide +kernel
theorem dX11_word_51 : decode cX11_word 51 = .ok (.iinc 1 1, 3) := by decide +kernel
theorem dX11_word_54 : decode cX11_word 54 = .ok (.goto (-32), 3) := by decide +kernel
theorem dX11_word_57 : decode cX11_word 57 = .ok (.aload_n 0, 1) := by decide +kernel
theorem dX11_word_58 : decode cX11_word 58 = .ok (.getfield 12, 3) := by decide +kernel
theorem dX11_word_61 : decode cX11_word 61 = .ok (.iconst 0, 1) := by decide +kernel
theorem dX11_word_62 : decode cX11_word 62 = .ok (.putfield 99, 3) := by decide +kernel
theorem dX11_word_65 : decode cX11_word 65 = .ok (.aload_n 0, 1) := by decide +kernel
theorem dX11_word_66 : decode cX11_word 66 = .ok (.invokevirtual 113, 3) := by decide +kernel
theorem dX11_word_69 : decode cX11_word 69 = .ok (.aload_n 0, 1) := by decide +kernel
theorem dX11_word_70 : decode cX11_word 70 = .ok (.getfield 38, 3) := by decide +kernel
theorem dX11_word_73 : decode cX11_word 73 = .ok (.getfield 171, 3) := by decide +kernel
theorem dX11_word_76 : decode cX11_word 76 = .ok (.ireturn, 1) := by decide +kernel
set_option maxRecDepth 20000 in
theorem ggX11_is_X11_isName : GoodIn wsX11_is wsX11_isName := goodIn_r _ [6] (by decide +kernel) (by decide +kernel)
set_option maxRecDepth 20000 in
theorem gX11_is_X11_isName : GoodIn wsX11_is (va_wsS RX11 125 yX11_isName wsX11_isName) := goodIn_app (goodIn_of _ (by decide +kernel)) ggX11_is_X11_isName
set_option maxRecDepth 20000 in
theorem ggX11_is_X11_chartOfWord : GoodIn wsX11_is wsX11_chartOfWord := goodIn_r _ [10, 11, 12, 1, 13, 14, 15, 16, 17, 18, 19, 20, 21, 22, 23, 24, 25, 26, 27, 28, 29, 30, 31, 32, 33, 34, 35, 36, 37, 38, 39, 40, 4, 5, 6, 41, 42, 43, 44, 45, 46, 47, 48, 49, 50, 51, 52, 53, 54, 55, 56, 57, 58, 59, 60, 61, 62, 63, 64, 65, 66, 67, 68, 69, 70, 71, 72, 73, 74, 75, 76, 77, 78, 79, 80, 81, 82, 83, 84, 85, 86, 87, 88, 89, 90, 91, 92, 93, 94, 95, 96, 97, 98, 99, 100, 101, 102, 103, 104, 105, 106, 107, 108, 109, 110, 111, 112, 113, 114, 115, 116, 117, 118, 119, 120, 121, 122, 123, 124, 125, 126, 127, 128, 129, 130, 131, 132, 133, 134, 135, 136, 137, 138, 146, 147, 148, 149, 150, 151, 152, 153, 154, 155, 156, 157, 158, 161, 162, 163, 164, 165, 159, 160, 166, 167, 168, 169, 170, 171, 172, 173] (by decide +kernel) (by decide +kernel)
set_option maxRecDepth 20000 in
theorem gX11_is_X11_chartOfWord : GoodIn wsX11_is (wsV RX11 144 RX11 yX11_chartOfWord wsX11_chartOfWord) := goodIn_app (goodIn_of _ (by decide +kernel)) ggX11_is_X11_chartOfWord
set_option maxRecDepth 20000 in
theorem ggX11_is_X0_fitsAsItIs : GoodIn wsX11_is wsX0_fitsAsItIs := goodIn_r _ [142, 103, 111, 112, 113, 16, 114, 115, 116, 117, 118, 98, 143, 144, 91, 145, 161, 162, 163, 164, 165] (by decide +kernel) (by decide +kernel)
set_option maxRecDepth 20000 in
theorem gX11_is_X0_fitsAsItIs : GoodIn wsX11_is (wsV RX11 174 RX0 yX0_fitsAsItIs wsX0_fitsAsItIs) := goodIn_app (goodIn_of _ (by decide +kernel)) ggX11_is_X0_fitsAsItIs
theorem dX11_is_0 : decode cX11_is 0 = .ok (.iload_n 1, 1) := by decide +kernel
theorem dX11_is_1 : decode cX11_is 1 = .ok (.invokestatic 125, 3) := by decide +kernel
theorem dX11_is_4 : decode cX11_is 4 = .ok (.ifCond .ne 5, 3) := by decide +kernel
theorem dX11_is_7 : decode cX11_is 7 = .ok (.iconst (-1), 1) := by decide +kernel
theorem dX11_is_8 : decode cX11_is 8 = .ok (.ireturn, 1) := by decide +kernel
theorem dX11_is_9 : decode cX11_is 9 = .ok (.aload_n 0, 1) := by decide +kernel
theorem dX11_is_10 : decode cX11_is 10 = .ok (.invokevirtual 144, 3) := by decide +kernel
theorem dX11_is_13 : decode cX11_is 13 = .ok (.iconst 4, 1) := by decide +kernel
theorem dX11_is_14 : decode cX11_is 14 = .ok (.iload_n 1, 1) := by decide +kernel
theorem dX11_is_15 : decode cX11_is 15 = .ok (.iadd, 1) := by decide +kernel
theorem dX11_is_16 : decode cX11_is 16 = .ok (.iconst 0, 1) := by decide +kernel
theorem dX11_is_17 : decode cX11_is 17 = .ok (.aload_n 0, 1) := by decide +kernel
theorem dX11_is_18 : decode cX11_is 18 = .ok (.getfield 38, 3) := by decide +kernel
theorem dX11_is_21 : decode cX11_is 21 = .ok (.getfield 171, 3) := by decide +kernel
theorem dX11_is_24 : decode cX11_is 24 = .ok (.invokevirtual 174, 3) := by decide +kernel
theorem dX11_is_27 : decode cX11_is 27 = .ok (.ifCond .eq 7, 3) := by decide +kernel
theorem dX11_is_30 : decode cX11_is 30 = .ok (.iconst 1, 1) := by decide +kernel
theorem dX11_is_31 : decode cX11_is 31 = .ok (.goto 4, 3) := by decide +kernel
theorem dX11_is_34 : decode cX11_is 34 = .ok (.iconst 0, 1) := by decide +kernel
theorem dX11_is_35 : decode cX11_is 35 = .ok (.ireturn, 1) := by decide +kernel
set_option maxRecDepth 20000 in
theorem ggX11_first_X11_isName : GoodIn wsX11_first wsX11_isName := goodIn_r _ [7] (by decide +kernel) (by decide +kernel)
set_option maxRecDepth 20000 in
theorem gX11_first_X11_isName : GoodIn wsX11_first (va_wsS RX11 125 yX11_isName wsX11_isName) := goodIn_app (goodIn_of _ (by decide +kernel)) ggX11_first_X11_isName
set_option maxRecDepth 20000 in
theorem ggX11_first_X11_chartOfWord : GoodIn wsX11_first wsX11_chartOfWord := goodIn_r _ [11, 12, 13, 2, 14, 15, 16, 17, 18, 19, 20, 21, 22, 23, 24, 25, 26, 27, 28, 29, 30, 31, 32, 33, 34, 35, 36, 37, 38, 39, 40, 41, 5, 6, 7, 42, 43, 44, 45, 46, 47, 48, 49, 50, 51, 52, 53, 54, 55, 56, 57, 58, 59, 60, 61, 62, 63, 64, 65, 66, 67, 68, 69, 70, 71, 72, 73, 74, 75, 76, 77, 78, 79, 80, 81, 82, 83, 84, 85, 86, 87, 88, 89, 90, 91, 92, 93, 94, 95, 96, 97, 98, 99, 100, 101, 102, 103, 104, 105, 106, 107, 108, 109, 110, 111, 112, 113, 114, 115, 116, 117, 118, 119, 120, 121, 122, 123, 124, 125, 126, 127, 128, 129, 130, 131, 132, 133, 134, 135, 136, 137, 138, 139, 195, 196, 197, 198, 199, 200, 201, 202, 203, 204, 205, 206, 207, 210, 211, 212, 213, 214, 208, 209, 215, 216, 217, 218, 219, 220, 221, 222] (by decide +kernel) (by decide +kernel)
set_option maxRecDepth 20000 in
theorem gX11_first_X11_chartOfWord : GoodIn wsX11_first (wsV RX11 144 RX11 yX11_chartOfWord wsX11_chartOfWord) := goodIn_app (goodIn_of _ (by decide +kernel)) ggX11_first_X11_chartOfWord
set_option maxRecDepth 20000 in
theorem ggX11_first_X6_farthest : GoodIn wsX11_first wsX6_farthest := goodIn_r _ [144, 145, 146, 147, 29, 30, 31, 148, 149, 150, 17, 151, 19, 22, 152, 153, 154, 143, 155, 156, 157, 37, 38, 26, 39, 40, 41, 5, 6, 7, 158, 43, 44, 45, 159, 160, 161, 162, 163, 164, 74, 165, 166, 167, 168, 169, 20, 104, 126, 47, 48, 49, 50, 130, 52, 53, 54, 55, 112, 113, 114, 115, 116, 117, 118, 119, 99, 170, 171, 172, 173, 174, 175, 176, 177, 178, 179, 180, 181, 182, 183, 60, 61, 62, 63, 64, 65, 66, 184, 185, 186, 187, 188, 189, 190, 191, 192, 193, 92, 194, 223, 224, 210, 211, 212, 213, 214, 208, 209, 215, 216, 217, 218, 219, 220, 221] (by decide +kernel) (by decide +kernel)
set_option maxRecDepth 20000 in
theorem gX11_first_X6_farthest : GoodIn wsX11_first (wsV RX11 178 RX6 yX6_farthest wsX6_farthest) := goodIn_app (goodIn_of _ (by decide +kernel)) ggX11_first_X6_farthest
theorem dX11_first_0 : decode cX11_first 0 = .ok (.iload_n 1, 1) := by decide +kernel
theorem dX11_first_1 : decode cX11_first 1 = .ok (.invokestatic 125, 3) := by decide +kernel
theorem dX11_first_4 : decode cX11_first 4 = .ok (.ifCond .ne 5, 3) := by decide +kernel
theorem dX11_first_7 : decode cX11_first 7 = .ok (.iconst (-1), 1) := by decide +kernel
theorem dX11_first_8 : decode cX11_first 8 = .ok (.ireturn, 1) := by decide +kernel
theorem dX11_first_9 : decode cX11_first 9 = .ok (.aload_n 0, 1) := by decide +kernel
theorem dX11_first_10 : decode cX11_first 10 = .ok (.invokevirtual 144, 3) := by decide +kernel
theorem dX11_first_13 : decode cX11_first 13 = .ok (.pop, 1) := by decide +kernel
theorem dX11_first_14 : decode cX11_first 14 = .ok (.aload_n 0, 1) := by decide +kernel
theorem dX11_first_15 : decode cX11_first 15 = .ok (.getfield 66, 3) := by decide +kernel
theorem dX11_first_18 : decode cX11_first 18 = .ok (.iload_n 1, 1) := by decide +kernel
theorem dX11_first_19 : decode cX11_first 19 = .ok (.invokevirtual 178, 3) := by decide +kernel
theorem dX11_first_22 : decode cX11_first 22 = .ok (.istore_n 2, 1) := by decide +kernel
theorem dX11_first_23 : decode cX11_first 23 = .ok (.iload_n 2, 1) := by decide +kernel
theorem dX11_first_24 : decode cX11_first 24 = .ok (.aload_n 0, 1) := by decide +kernel
theorem dX11_first_25 : decode cX11_first 25 = .ok (.getfield 38, 3) := by decide +kernel
theorem dX11_first_28 : decode cX11_first 28 = .ok (.getfield 171, 3) := by decide +kernel
theorem dX11_first_31 : decode cX11_first 31 = .ok (.if_icmp .ne 8, 3) := by decide +kernel
theorem dX11_first_34 : decode cX11_first 34 = .ok (.bipush (-6), 2) := by decide +kernel
theorem dX11_first_36 : decode cX11_first 36 = .ok (.goto 6, 3) := by decide +kernel
theorem dX11_first_39 : decode cX11_first 39 = .ok (.iload_n 2, 1) := by decide +kernel
theorem dX11_first_40 : decode cX11_first 40 = .ok (.iconst 1, 1) := by decide +kernel
theorem dX11_first_41 : decode cX11_first 41 = .ok (.iadd, 1) := by decide +kernel
theorem dX11_first_42 : decode cX11_first 42 = .ok (.ireturn, 1) := by decide +kernel
set_option maxRecDepth 20000 in
theorem ggX11_cost_X1_of : GoodIn wsX11_cost wsX1_of := goodIn_r _ [6, 7, 38] (by decide +kernel) (by decide +kernel)
set_option maxRecDepth 20000 in
theorem gX11_cost_X1_of : GoodIn wsX11_cost (wsV RX11 181 RX1 yX1_of wsX1_of) := goodIn_app (goodIn_of _ (by decide +kernel)) ggX11_cost_X1_of
set_option maxRecDepth 20000 in
theorem ggX11_cost_X1_set : GoodIn wsX11_cost wsX1_set := goodIn_r _ [11, 7, 38] (by decide +kernel) (by decide +kernel)
set_option maxRecDepth 20000 in
theorem gX11_cost_X1_set : GoodIn wsX11_cost (wsV RX11 184 RX1 yX1_set wsX1_set) := goodIn_app (goodIn_of _ (by decide +kernel)) ggX11_cost_X1_set
set_option maxRecDepth 20000 in
theorem ggX11_cost_X11_forgetAnswers : GoodIn wsX11_cost wsX11_forgetAnswers := goodIn_r _ [16, 17, 18, 19, 20, 21, 22, 23, 24, 25, 26, 27, 28, 29, 30, 31, 32, 33, 34, 35, 36, 37, 39, 40, 41, 42, 43, 44] (by decide +kernel) (by decide +kernel)
set_option maxRecDepth 20000 in
theorem gX11_cost_X11_forgetAnswers : GoodIn wsX11_cost (wsV RX11 113 RX11 yX11_forgetAnswers wsX11_forgetAnswers) := goodIn_app (goodIn_of _ (by decide +kernel)) ggX11_cost_X11_forgetAnswers
theorem dX11_cost_0 : decode cX11_cost 0 = .ok (.iload_n 1, 1) := by decide +kernel
theorem dX11_cost_1 : decode cX11_cost 1 = .ok (.ifCond .lt 19, 3) := by decide +kernel
theorem dX11_cost_4 : decode cX11_cost 4 = .ok (.iload_n 1, 1) := by decide +kernel
theorem dX11_cost_5 : decode cX11_cost 5 = .ok (.iconst 3, 1) := by decide +kernel
theorem dX11_cost_6 : decode cX11_cost 6 = .ok (.if_icmp .ge 14, 3) := by decide +kernel
theorem dX11_cost_9 : decode cX11_cost 9 = .ok (.iload_n 2, 1) := by decide +kernel
theorem dX11_cost_10 : decode cX11_cost 10 = .ok (.iconst 1, 1) := by decide +kernel
theorem dX11_cost_11 : decode cX11_cost 11 = .ok (.if_icmp .lt 9, 3) := by decide +kernel
theorem dX11_cost_14 : decode cX11_cost 14 = .ok (.iload_n 2, 1) := by decide +kernel
theorem dX11_cost_15 : decode cX11_cost 15 = .ok (.bipush 9, 2) := by decide +kernel
theorem dX11_cost_17 : decode cX11_cost 17 = .ok (.if_icmp .le 6, 3) := by decide +kernel
theorem dX11_cost_20 : decode cX11_cost 20 = .ok (.bipush (-2), 2) := by decide +kernel
theorem dX11_cost_22 : decode cX11_cost 22 = .ok (.ireturn, 1) := by decide +kernel
theorem dX11_cost_23 : decode cX11_cost 23 = .ok (.aload_n 0, 1) := by decide +kernel
theorem dX11_cost_24 : decode cX11_cost 24 = .ok (.getfield 29, 3) := by decide +kernel
theorem dX11_cost_27 : decode cX11_cost 27 = .ok (.iload_n 1, 1) := by decide +kernel
theorem dX11_cost_28 : decode cX11_cost 28 = .ok (.invokevirtual 181, 3) := by decide +kernel
theorem dX11_cost_31 : decode cX11_cost 31 = .ok (.istore_n 3, 1) := by decide +kernel
theorem dX11_cost_32 : decode cX11_cost 32 = .ok (.aload_n 0, 1) := by decide +kernel
theorem dX11_cost_33 : decode cX11_cost 33 = .ok (.getfield 29, 3) := by decide +kernel
theorem dX11_cost_36 : decode cX11_cost 36 = .ok (.iload_n 1, 1) := by decide +kernel
theorem dX11_cost_37 : decode cX11_cost 37 = .ok (.iload_n 2, 1) := by decide +kernel
theorem dX11_cost_38 : decode cX11_cost 38 = .ok (.invokevirtual 184, 3) := by decide +kernel
theorem dX11_cost_41 : decode cX11_cost 41 = .ok (.aload_n 0, 1) := by decide +kernel
theorem dX11_cost_42 : decode cX11_cost 42 = .ok (.invokevirtual 113, 3) := by decide +kernel
theorem dX11_cost_45 : decode cX11_cost 45 = .ok (.iload_n 3, 1) := by decide +kernel
theorem dX11_cost_46 : decode cX11_cost 46 = .ok (.ireturn, 1) := by decide +kernel
set_option maxRecDepth 20000 in
theorem ggX11_mend_X11_isName : GoodIn wsX11_mend wsX11_isName := goodIn_r _ [7] (by decide +kernel) (by decide +kernel)
set_option maxRecDepth 20000 in
theorem gX11_mend_X11_isName : GoodIn wsX11_mend (va_wsS RX11 125 yX11_isName wsX11_isName) := goodIn_app (goodIn_of _ (by decide +kernel)) ggX11_mend_X11_isName
set_option maxRecDepth 20000 in
theorem ggX11_mend_X11_chartOfWord : GoodIn wsX11_mend wsX11_chartOfWord := goodIn_r _ [11, 12, 13, 1, 14, 15, 16, 17, 18, 19, 20, 21, 22, 23, 24, 25, 26, 27, 28, 29, 30, 31, 32, 33, 34, 35, 36, 37, 38, 39, 40, 41, 5, 6, 7, 42, 43, 44, 45, 46, 47, 48, 49, 50, 51, 52, 53, 54, 55, 56, 57, 58, 59, 60, 61, 62, 63, 64, 65, 66, 67, 68, 69, 70, 71, 72, 73, 74, 75, 76, 77, 78, 79, 80, 81, 82, 83, 84, 85, 86, 87, 88, 89, 90, 91, 92, 93, 94, 95, 96, 97, 98, 99, 100, 101, 102, 103, 104, 105, 106, 107, 108, 109, 110, 111, 112, 113, 114, 115, 116, 117, 118, 119, 120, 121, 122, 123, 124, 125, 126, 127, 128, 129, 130, 131, 132, 133, 134, 135, 136, 137, 138, 139, 144, 145, 146, 147, 148, 149, 150, 151, 152, 153, 154, 155, 156, 159, 160, 161, 162, 163, 157, 158, 164, 165, 166, 167, 168, 169, 170, 171] (by decide +kernel) (by decide +kernel)
set_option maxRecDepth 20000 in
theorem gX11_mend_X11_chartOfWord : GoodIn wsX11_mend (wsV RX11 144 RX11 yX11_chartOfWord wsX11_chartOfWord) := goodIn_app (goodIn_of _ (by decide +kernel)) ggX11_mend_X11_chartOfWord
set_option maxRecDepth 20000 in
theorem ggX11_mend_X0_fitOf : GoodIn wsX11_mend wsX0_fitOf := goodIn_r _ [115, 116, 117, 118, 17, 119, 99, 104, 159, 160, 161, 162, 163] (by decide +kernel) (by decide +kernel)
set_option maxRecDepth 20000 in
theorem gX11_mend_X0_fitOf : GoodIn wsX11_mend (wsV RX11 188 RX0 yX0_fitOf wsX0_fitOf) := goodIn_app (goodIn_of _ (by decide +kernel)) ggX11_mend_X0_fitOf
set_option maxRecDepth 20000 in
theorem ggX11_mend_X3_costOf : GoodIn wsX11_mend wsX3_costOf := goodIn_r _ [143] (by decide +kernel) (by decide +kernel)
set_option maxRecDepth 20000 in
theorem gX11_mend_X3_costOf : GoodIn wsX11_mend (va_wsS RX11 192 yX3_costOf wsX3_costOf) := goodIn_app (goodIn_of _ (by decide +kernel)) ggX11_mend_X3_costOf
theorem dX11_mend_0 : decode cX11_mend 0 = .ok (.iload_n 1, 1) := by decide +kernel
theorem dX11_mend_1 : decode cX11_mend 1 = .ok (.invokestatic 125, 3) := by decide +kernel
theorem dX11_mend_4 : decode cX11_mend 4 = .ok (.ifCond .ne 5, 3) := by decide +kernel
theorem dX11_mend_7 : decode cX11_mend 7 = .ok (.iconst (-1), 1) := by decide +kernel
theorem dX11_mend_8 : decode cX11_mend 8 = .ok (.ireturn, 1) := by decide +kernel
theorem dX11_mend_9 : decode cX11_mend 9 = .ok (.iload_n 2, 1) := by decide +kernel
theorem dX11_mend_10 : decode cX11_mend 10 = .ok (.ifCond .lt 19, 3) := by decide +kernel
theorem dX11_mend_13 : decode cX11_mend 13 = .ok (.iload_n 2, 1) := by decide +kernel
theorem dX11_mend_14 : decode cX11_mend 14 = .ok (.iload_n 3, 1) := by decide +kernel
theorem dX11_mend_15 : decode cX11_mend 15 = .ok (.if_icmp .gt 14, 3) := by decide +kernel
theorem dX11_mend_18 : decode cX11_mend 18 = .ok (.iload_n 3, 1) := by decide +kernel
theorem dX11_mend_19 : decode cX11_mend 19 = .ok (.aload_n 0, 1) := by decide +kernel
theorem dX11_mend_20 : decode cX11_mend 20 = .ok (.getfield 38, 3) := by decide +kernel
theorem dX11_mend_23 : decode cX11_mend 23 = .ok (.getfield 171, 3) := by decide +kernel
theorem dX11_mend_26 : decode cX11_mend 26 = .ok (.if_icmp .le 6, 3) := by decide +kernel
theorem dX11_mend_29 : decode cX11_mend 29 = .ok (.bipush (-2), 2) := by decide +kernel
theorem dX11_mend_31 : decode cX11_mend 31 = .ok (.ireturn, 1) := by decide +kernel
theorem dX11_mend_32 : decode cX11_mend 32 = .ok (.aload_n 0, 1) := by decide +kernel
theorem dX11_mend_33 : decode cX11_mend 33 = .ok (.invokevirtual 144, 3) := by decide +kernel
theorem dX11_mend_36 : decode cX11_mend 36 = .ok (.iconst 4, 1) := by decide +kernel
theorem dX11_mend_37 : decode cX11_mend 37 = .ok (.iload_n 1, 1) := by decide +kernel
theorem dX11_mend_38 : decode cX11_mend 38 = .ok (.iadd, 1) := by decide +kernel
theorem dX11_mend_39 : decode cX11_mend 39 = .ok (.iload_n 2, 1) := by decide +kernel
theorem dX11_mend_40 : decode cX11_mend 40 = .ok (.iload_n 3, 1) := by decide +kernel
theorem dX11_mend_41 : decode cX11_mend 41 = .ok (.invokevirtual 188, 3) := by decide +kernel
theorem dX11_mend_44 : decode cX11_mend 44 = .ok (.lstore 4, 2) := by decide +kernel
theorem dX11_mend_46 : decode cX11_mend 46 = .ok (.lload 4, 2) := by decide +kernel
theorem dX11_mend_48 : decode cX11_mend 48 = .ok (.ldc2_w 158, 3) := by decide +kernel
theorem dX11_mend_51 : decode cX11_mend 51 = .ok (.lcmp, 1) := by decide +kernel
theorem dX11_mend_52 : decode cX11_mend 52 = .ok (.ifCond .ne 8, 3) := by decide +kernel
theorem dX11_mend_55 : decode cX11_mend 55 = .ok (.bipush (-5), 2) := by decide +kernel
theorem dX11_mend_57 : decode cX11_mend 57 = .ok (.goto 8, 3) := by decide +kernel
theorem dX11_mend_60 : decode cX11_mend 60 = .ok (.lload 4, 2) := by decide +kernel
theorem dX11_mend_62 : decode cX11_mend 62 = .ok (.invokestatic 192, 3) := by decide +kernel
theorem dX11_mend_65 : decode cX11_mend 65 = .ok (.ireturn, 1) := by decide +kernel
set_option maxRecDepth 20000 in
theorem ggX11_text_X11_textFit : GoodIn wsX11_text wsX11_textFit := goodIn_r _ [5, 6, 7, 8, 9, 10, 11, 12, 4, 13, 14, 15, 16, 17, 18, 19, 20, 21, 22, 23, 24, 25, 26, 27, 28, 29, 30, 31, 32, 33, 34, 35, 36, 37, 38, 39, 40, 41, 42, 43, 44, 45, 46, 47, 48, 49, 50, 51, 52, 53, 54, 55, 56, 57, 58, 59, 60, 61, 62, 63, 64, 65, 66, 67, 68, 69, 70, 71, 72, 73, 74, 75, 76, 77, 78, 79, 80, 81, 82, 83, 84, 85, 86, 87, 88, 89, 90, 91, 92, 93, 94, 95, 96, 97, 98, 99, 100, 101, 102, 103, 104, 105, 106, 107, 108, 109, 110, 111, 112, 113, 114, 115, 116, 117, 118, 119, 120, 121, 122, 123, 124, 125, 126, 127, 128, 129, 130, 131, 132, 133, 134, 135, 136, 137, 138, 139, 140, 141, 142, 143, 144, 159, 160, 161, 162, 163, 164, 165, 166, 167, 168, 169, 170, 171, 172, 173, 174, 175, 176, 177, 178, 179, 180, 181, 182, 183, 184, 185, 186] (by decide +kernel) (by decide +kernel)
set_option maxRecDepth 20000 in
theorem gX11_text_X11_textFit : GoodIn wsX11_text (wsV RX11 196 RX11 yX11_textFit wsX11_textFit) := goodIn_app (goodIn_of _ (by decide +kernel)) ggX11_text_X11_textFit
set_option maxRecDepth 20000 in
theorem ggX11_text_X11_refusalOf : GoodIn wsX11_text wsX11_refusalOf := goodIn_r _ [147, 148, 149, 150, 96, 151, 140] (by decide +kernel) (by decide +kernel)
set_option maxRecDepth 20000 in
theorem gX11_text_X11_refusalOf : GoodIn wsX11_text (va_wsS RX11 200 yX11_refusalOf wsX11_refusalOf) := goodIn_app (goodIn_of _ (by decide +kernel)) ggX11_text_X11_refusalOf
set_option maxRecDepth 20000 in
theorem ggX11_text_X11_lettersOf : GoodIn wsX11_text wsX11_lettersOf := goodIn_r _ [154, 148, 149, 150, 96, 151, 140, 155, 156, 157, 158] (by decide +kernel) (by decide +kernel)
set_option maxRecDepth 20000 in
theorem gX11_text_X11_lettersOf : GoodIn wsX11_text (va_wsS RX11 152 yX11_lettersOf wsX11_lettersOf) := goodIn_app (goodIn_of _ (by decide +kernel)) ggX11_text_X11_lettersOf
theorem dX11_text_0 : decode cX11_text 0 = .ok (.aload_n 0, 1) := by decide +kernel
theorem dX11_text_1 : decode cX11_text 1 = .ok (.invokevirtual 196, 3) := by decide +kernel
theorem dX11_text_4 : decode cX11_text 4 = .ok (.lstore_n 2, 1) := by decide +kernel
theorem dX11_text_5 : decode cX11_text 5 = .ok (.lload_n 2, 1) := by decide +kernel
theorem dX11_text_6 : decode cX11_text 6 = .ok (.invokestatic 200, 3) := by decide +kernel
theorem dX11_text_9 : decode cX11_text 9 = .ok (.istore 4, 2) := by decide +kernel
theorem dX11_text_11 : decode cX11_text 11 = .ok (.iload 4, 2) := by decide +kernel
theorem dX11_text_13 : decode cX11_text 13 = .ok (.ifCond .eq 8, 3) := by decide +kernel
theorem dX11_text_16 : decode cX11_text 16 = .ok (.iload 4, 2) := by decide +kernel
theorem dX11_text_18 : decode cX11_text 18 = .ok (.goto 8, 3) := by decide +kernel
theorem dX11_text_21 : decode cX11_text 21 = .ok (.lload_n 2, 1) := by decide +kernel
theorem dX11_text_22 : decode cX11_text 22 = .ok (.iload_n 1, 1) := by decide +kernel
theorem dX11_text_23 : decode cX11_text 23 = .ok (.invokestatic 152, 3) := by decide +kernel
theorem dX11_text_26 : decode cX11_text 26 = .ok (.ireturn, 1) := by decide +kernel
set_option maxRecDepth 20000 in
theorem ggX11_ways_X11_textFit : GoodIn wsX11_ways wsX11_textFit := goodIn_r _ [14, 15, 16, 2, 4, 17, 18, 19, 13, 20, 21, 22, 23, 24, 25, 26, 27, 28, 29, 30, 31, 32, 33, 34, 35, 36, 37, 38, 39, 40, 41, 42, 43, 44, 45, 46, 47, 48, 49, 50, 51, 52, 53, 54, 55, 56, 57, 58, 59, 60, 61, 62, 63, 64, 65, 66, 67, 68, 69, 70, 71, 72, 73, 74, 75, 76, 77, 78, 79, 80, 81, 82, 83, 7, 8, 9, 84, 85, 86, 87, 88, 89, 90, 91, 92, 93, 94, 95, 96, 97, 98, 99, 100, 101, 102, 103, 104, 105, 106, 107, 108, 109, 110, 111, 112, 113, 114, 115, 116, 117, 118, 119, 120, 121, 122, 123, 124, 125, 126, 127, 128, 129, 130, 131, 132, 133, 134, 135, 136, 137, 138, 139, 140, 141, 142, 143, 144, 145, 146, 147, 148, 201, 202, 203, 204, 205, 206, 207, 208, 209, 210, 211, 212, 213, 216, 217, 218, 219, 220, 221, 222, 214, 215, 223, 224, 225, 226, 227, 228] (by decide +kernel) (by decide +kernel)
set_option maxRecDepth 20000 in
theorem gX11_ways_X11_textFit : GoodIn wsX11_ways (wsV RX11 196 RX11 yX11_textFit wsX11_textFit) := goodIn_app (goodIn_of _ (by decide +kernel)) ggX11_ways_X11_textFit
set_option maxRecDepth 20000 in
theorem ggX11_ways_X11_refusalOf : GoodIn wsX11_ways wsX11_refusalOf := goodIn_r _ [151, 152, 153, 154, 100, 155, 144] (by decide +kernel) (by decide +kernel)
set_option maxRecDepth 20000 in
theorem gX11_ways_X11_refusalOf : GoodIn wsX11_ways (va_wsS RX11 200 yX11_refusalOf wsX11_refusalOf) := goodIn_app (goodIn_of _ (by decide +kernel)) ggX11_ways_X11_refusalOf
set_option maxRecDepth 20000 in
theorem ggX11_ways_X11_readText : GoodIn wsX11_ways wsX11_readText := goodIn_r _ [159, 3, 160, 161, 162, 74, 163, 76, 153, 154, 100, 155, 144, 164, 165, 166, 167, 168, 169, 170, 171, 77, 201, 202, 203, 204, 205, 206, 207, 208, 209, 210, 211, 212, 213, 214, 215] (by decide +kernel) (by decide +kernel)
set_option maxRecDepth 20000 in
theorem gX11_ways_X11_readText : GoodIn wsX11_ways (wsV RX11 203 RX11 yX11_readText wsX11_readText) := goodIn_app (goodIn_of _ (by decide +kernel)) ggX11_ways_X11_readText
set_option maxRecDepth 20000 in
theorem ggX11_ways_X7_fill : GoodIn wsX11_ways wsX7_fill := goodIn_r _ [176, 177, 178, 179, 180, 181, 175, 182, 183, 184, 185, 186, 85, 86, 87, 88, 89, 187, 188, 189, 190, 191, 95, 96, 97, 192, 193, 194, 195, 72, 73, 74, 75, 76, 77, 196, 91, 92, 93, 214, 215, 229, 230, 231, 228] (by decide +kernel) (by decide +kernel)
set_option maxRecDepth 20000 in
theorem gX11_ways_X7_fill : GoodIn wsX11_ways (wsV RX11 207 RX7 yX7_fill wsX7_fill) := goodIn_app (goodIn_of _ (by decide +kernel)) ggX11_ways_X7_fill
set_option maxRecDepth 20000 in
theorem ggX11_ways_X7_countAt : GoodIn wsX11_ways wsX7_countAt := goodIn_r _ [200, 184, 229, 230, 231] (by decide +kernel) (by decide +kernel)
set_option maxRecDepth 20000 in
theorem gX11_ways_X7_countAt : GoodIn wsX11_ways (wsV RX11 211 RX7 yX7_countAt wsX7_countAt) := goodIn_app (goodIn_of _ (by decide +kernel)) ggX11_ways_X7_countAt
theorem dX11_ways_0 : decode cX11_ways 0 = .ok (.aload_n 0, 1) := by decide +kernel
theorem dX11_ways_1 : decode cX11_ways 1 = .ok (.invokevirtual 196, 3) := by decide +kernel
theorem dX11_ways_4 : decode cX11_ways 4 = .ok (.lstore_n 1, 1) := by decide +kernel
theorem dX11_ways_5 : decode cX11_ways 5 = .ok (.lload_n 1, 1) := by decide +kernel
theorem dX11_ways_6 : decode cX11_ways 6 = .ok (.invokestatic 200, 3) := by decide +kernel
theorem dX11_ways_9 : decode cX11_ways 9 = .ok (.istore_n 3, 1) := by decide +kernel
theorem dX11_ways_10 : decode cX11_ways 10 = .ok (.iload_n 3, 1) := by decide +kernel
theorem dX11_ways_11 : decode cX11_ways 11 = .ok (.ifCond .eq 5, 3) := by decide +kernel
theorem dX11_ways_14 : decode cX11_ways 14 = .ok (.iload_n 3, 1) := by decide +kernel
theorem dX11_ways_15 : decode cX11_ways 15 = .ok (.ireturn, 1) := by decide +kernel
theorem dX11_ways_16 : decode cX11_ways 16 = .ok (.aload_n 0, 1) := by decide +kernel
theorem dX11_ways_17 : decode cX11_ways 17 = .ok (.lload_n 1, 1) := by decide +kernel
theorem dX11_ways_18 : decode cX11_ways 18 = .ok (.invokevirtual 203, 3) := by decide +kernel
theorem dX11_ways_21 : decode cX11_ways 21 = .ok (.aload_n 0, 1) := by decide +kernel
theorem dX11_ways_22 : decode cX11_ways 22 = .ok (.getfield 75, 3) := by decide +kernel
theorem dX11_ways_25 : decode cX11_ways 25 = .ok (.aload_n 0, 1) := by decide +kernel
theorem dX11_ways_26 : decode cX11_ways 26 = .ok (.getfield 38, 3) := by decide +kernel
theorem dX11_ways_29 : decode cX11_ways 29 = .ok (.aload_n 0, 1) := by decide +kernel
theorem dX11_ways_30 : decode cX11_ways 30 = .ok (.getfield 42, 3) := by decide +kernel
theorem dX11_ways_33 : decode cX11_ways 33 = .ok (.iconst 0, 1) := by decide +kernel
theorem dX11_ways_34 : decode cX11_ways 34 = .ok (.invokevirtual 207, 3) := by decide +kernel
theorem dX11_ways_37 : decode cX11_ways 37 = .ok (.aload_n 0, 1) := by decide +kernel
theorem dX11_ways_38 : decode cX11_ways 38 = .ok (.getfield 75, 3) := by decide +kernel
theorem dX11_ways_41 : decode cX11_ways 41 = .ok (.aload_n 0, 1) := by decide +kernel
theorem dX11_ways_42 : decode cX11_ways 42 = .ok (.getfield 38, 3) := by decide +kernel
theorem dX11_ways_45 : decode cX11_ways 45 = .ok (.getfield 171, 3) := by decide +kernel
theorem dX11_ways_48 : decode cX11_ways 48 = .ok (.aload_n 0, 1) := by decide +kernel
theorem dX11_ways_49 : decode cX11_ways 49 = .ok (.getfield 42, 3) := by decide +kernel
theorem dX11_ways_52 : decode cX11_ways 52 = .ok (.getfield 171, 3) := by decide +kernel
theorem dX11_ways_55 : decode cX11_ways 55 = .ok (.invokevirtual 211, 3) := by decide +kernel
theorem dX11_ways_58 : decode cX11_ways 58 = .ok (.ldc 214, 2) := by decide +kernel
theorem dX11_ways_60 : decode cX11_ways 60 = .ok (.invokestatic 215, 3) := by decide +kernel
theorem dX11_ways_63 : decode cX11_ways 63 = .ok (.ireturn, 1) := by decide +kernel
set_option maxRecDepth 20000 in
theorem ggX11_kept_X11_textFit : GoodIn wsX11_kept wsX11_textFit := goodIn_r _ [10, 11, 12, 1, 2, 13, 14, 15, 9, 16, 17, 18, 19, 20, 21, 22, 23, 24, 25, 26, 27, 28, 29, 30, 31, 32, 33, 34, 35, 36, 37, 38, 39, 40, 41, 42, 43, 44, 45, 46, 47, 48, 49, 50, 51, 52, 53, 54, 55, 56, 57, 58, 59, 60, 61, 62, 63, 64, 65, 66, 67, 68, 69, 70, 71, 72, 73, 74, 75, 76, 77, 78, 79, 80, 81, 82, 83, 84, 85, 86, 87, 88, 89, 90, 91, 92, 93, 94, 95, 96, 97, 98, 99, 100, 101, 102, 103, 104, 105, 106, 107, 108, 109, 110, 111, 112, 113, 114, 115, 116, 117, 118, 119, 120, 121, 122, 123, 124, 125, 126, 127, 128, 129, 130, 131, 132, 133, 134, 135, 136, 137, 138, 139, 140, 141, 142, 143, 144, 145, 146, 147, 209, 210, 211, 212, 213, 214, 215, 216, 217, 218, 219, 220, 221, 224, 225, 226, 227, 228, 229, 230, 222, 223, 231, 232, 233, 234, 235, 236] (by decide +kernel) (by decide +kernel)
set_option maxRecDepth 20000 in
theorem gX11_kept_X11_textFit : GoodIn wsX11_kept (wsV RX11 196 RX11 yX11_textFit wsX11_textFit) := goodIn_app (goodIn_of _ (by decide +kernel)) ggX11_kept_X11_textFit
set_option maxRecDepth 20000 in
theorem ggX11_kept_X11_refusalOf : GoodIn wsX11_kept wsX11_refusalOf := goodIn_r _ [150, 151, 152, 153, 99, 154, 143] (by decide +kernel) (by decide +kernel)
set_option maxRecDepth 20000 in
theorem gX11_kept_X11_refusalOf : GoodIn wsX11_kept (va_wsS RX11 200 yX11_refusalOf wsX11_refusalOf) := goodIn_app (goodIn_of _ (by decide +kernel)) ggX11_kept_X11_refusalOf
set_option maxRecDepth 20000 in
theorem ggX11_kept_X11_readText : GoodIn wsX11_kept wsX11_readText := goodIn_r _ [158, 4, 159, 160, 161, 70, 162, 72, 152, 153, 99, 154, 143, 163, 164, 165, 166, 167, 168, 169, 170, 73, 209, 210, 211, 212, 213, 214, 215, 216, 217, 218, 219, 220, 221, 222, 223] (by decide +kernel) (by decide +kernel)
set_option maxRecDepth 20000 in
theorem gX11_kept_X11_readText : GoodIn wsX11_kept (wsV RX11 203 RX11 yX11_readText wsX11_readText) := goodIn_app (goodIn_of _ (by decide +kernel)) ggX11_kept_X11_readText
set_option maxRecDepth 20000 in
theorem ggX11_kept_X7_fill : GoodIn wsX11_kept wsX7_fill := goodIn_r _ [175, 176, 177, 178, 179, 180, 174, 181, 182, 183, 184, 185, 84, 85, 86, 87, 88, 186, 187, 188, 189, 190, 94, 95, 96, 191, 192, 193, 194, 68, 69, 70, 71, 72, 73, 195, 90, 91, 92, 222, 223, 237, 238, 239, 236] (by decide +kernel) (by decide +kernel)
set_option maxRecDepth 20000 in
theorem gX11_kept_X7_fill : GoodIn wsX11_kept (wsV RX11 207 RX7 yX7_fill wsX7_fill) := goodIn_app (goodIn_of _ (by decide +kernel)) ggX11_kept_X7_fill
set_option maxRecDepth 20000 in
theorem ggX11_kept_X11_waysThatKeep : GoodIn wsX11_kept wsX11_waysThatKeep := goodIn_r _ [199, 1, 2, 3, 4, 5, 200, 201, 202, 174, 203, 182, 184, 204, 68, 69, 70, 71, 72, 73, 205, 206, 207, 208, 183, 209, 210, 211, 212, 213, 214, 215, 216, 217, 218, 219, 220, 221, 222, 223, 237, 238, 239] (by decide +kernel) (by decide +kernel)
set_option maxRecDepth 20000 in
theorem gX11_kept_X11_waysThatKeep : GoodIn wsX11_kept (wsV RX11 220 RX11 yX11_waysThatKeep wsX11_waysThatKeep) := goodIn_app (goodIn_of _ (by decide +kernel)) ggX11_kept_X11_waysThatKeep
set_option maxRecDepth 20000 in
theorem ggX11_kept_X7_countAt : GoodIn wsX11_kept wsX7_countAt := goodIn_r _ [208, 183, 237, 238, 239] (by decide +kernel) (by decide +kernel)
set_option maxRecDepth 20000 in
theorem gX11_kept_X7_countAt : GoodIn wsX11_kept (wsV RX11 211 RX7 yX7_countAt wsX7_countAt) := goodIn_app (goodIn_of _ (by decide +kernel)) ggX11_kept_X7_countAt
theorem dX11_kept_0 : decode cX11_kept 0 = .ok (.iload_n 1, 1) := by decide +kernel
theorem dX11_kept_1 : decode cX11_kept 1 = .ok (.ifCond .lt 14, 3) := by decide +kernel
theorem dX11_kept_4 : decode cX11_kept 4 = .ok (.iload_n 1, 1) := by decide +kernel
theorem dX11_kept_5 : decode cX11_kept 5 = .ok (.aload_n 0, 1) := by decide +kernel
theorem dX11_kept_6 : decode cX11_kept 6 = .ok (.getfield 38, 3) := by decide +kernel
theorem dX11_kept_9 : decode cX11_kept 9 = .ok (.getfield 171, 3) := by decide +kernel
theorem dX11_kept_12 : decode cX11_kept 12 = .ok (.if_icmp .lt 6, 3) := by decide +kernel
theorem dX11_kept_15 : decode cX11_kept 15 = .ok (.bipush (-2), 2) := by decide +kernel
theorem dX11_kept_17 : decode cX11_kept 17 = .ok (.ireturn, 1) := by decide +kernel
theorem dX11_kept_18 : decode cX11_kept 18 = .ok (.aload_n 0, 1) := by decide +kernel
theorem dX11_kept_19 : decode cX11_kept 19 = .ok (.invokevirtual 196, 3) := by decide +kernel
theorem dX11_kept_22 : decode cX11_kept 22 = .ok (.lstore_n 2, 1) := by decide +kernel
theorem dX11_kept_23 : decode cX11_kept 23 = .ok (.lload_n 2, 1) := by decide +kernel
theorem dX11_kept_24 : decode cX11_kept 24 = .ok (.invokestatic 200, 3) := by decide +kernel
theorem dX11_kept_27 : decode cX11_kept 27 = .ok (.istore 4, 2) := by decide +kernel
theorem dX11_kept_29 : decode cX11_kept 29 = .ok (.iload 4, 2) := by decide +kernel
theorem dX11_kept_31 : decode cX11_kept 31 = .ok (.ifCond .eq 6, 3) := by decide +kernel
theorem dX11_kept_34 : decode cX11_kept 34 = .ok (.iload 4, 2) := by decide +kernel
theorem dX11_kept_36 : decode cX11_kept 36 = .ok (.ireturn, 1) := by decide +kernel
theorem dX11_kept_37 : decode cX11_kept 37 = .ok (.aload_n 0, 1) := by decide +kernel
theorem dX11_kept_38 : decode cX11_kept 38 = .ok (.lload_n 2, 1) := by decide +kernel
theorem dX11_kept_39 : decode cX11_kept 39 = .ok (.invokevirtual 203, 3) := by decide +kernel
theorem dX11_kept_42 : decode cX11_kept 42 = .ok (.aload_n 0, 1) := by decide +kernel
theorem dX11_kept_43 : decode cX11_kept 43 = .ok (.getfield 75, 3) := by decide +kernel
theorem dX11_kept_46 : decode cX11_kept 46 = .ok (.aload_n 0, 1) := by decide +kernel
theorem dX11_kept_47 : decode cX11_kept 47 = .ok (.getfield 38, 3) := by decide +kernel
theorem dX11_kept_50 : decode cX11_kept 50 = .ok (.aload_n 0, 1) := by decide +kernel
theorem dX11_kept_51 : decode cX11_kept 51 = .ok (.getfield 42, 3) := by decide +kernel
theorem dX11_kept_54 : decode cX11_kept 54 = .ok (.iconst 0, 1) := by decide +kernel
theorem dX11_kept_55 : decode cX11_kept 55 = .ok (.invokevirtual 207, 3) := by decide +kernel
theorem dX11_kept_58 : decode cX11_kept 58 = .ok (.aload_n 0, 1) := by decide +kernel
theorem dX11_kept_59 : decode cX11_kept 59 = .ok (.getfield 79, 3) := by decide +kernel
theorem dX11_kept_62 : decode cX11_kept 62 = .ok (.aload_n 0, 1) := by decide +kernel
theorem dX11_kept_63 : decode cX11_kept 63 = .ok (.getfield 38, 3) := by decide +kernel
theorem dX11_kept_66 : decode cX11_kept 66 = .ok (.aload_n 0, 1) := by decide +kernel
theorem dX11_kept_67 : decode cX11_kept 67 = .ok (.getfield 42, 3) := by decide +kernel
theorem dX11_kept_70 : decode cX11_kept 70 = .ok (.iconst 1, 1) := by decide +kernel
theorem dX11_kept_71 : decode cX11_kept 71 = .ok (.invokevirtual 207, 3) := by decide +kernel
theorem dX11_kept_74 : decode cX11_kept 74 = .ok (.aload_n 0, 1) := by decide +kernel
theorem dX11_kept_75 : decode cX11_kept 75 = .ok (.iload_n 1, 1) := by decide +kernel
theorem dX11_kept_76 : decode cX11_kept 76 = .ok (.invokevirtual 220, 3) := by decide +kernel
theorem dX11_kept_79 : decode cX11_kept 79 = .ok (.istore 5, 2) := by decide +kernel
theorem dX11_kept_81 : decode cX11_kept 81 = .ok (.iload 5, 2) := by decide +kernel
theorem dX11_kept_83 : decode cX11_kept 83 = .ok (.ifCond .ne 5, 3) := by decide +kernel
theorem dX11_kept_86 : decode cX11_kept 86 = .ok (.iconst 0, 1) := by decide +kernel
theorem dX11_kept_87 : decode cX11_kept 87 = .ok (.ireturn, 1) := by decide +kernel
theorem dX11_kept_88 : decode cX11_kept 88 = .ok (.iload 5, 2) := by decide +kernel
theorem dX11_kept_90 : decode cX11_kept 90 = .ok (.aload_n 0, 1) := by decide +kernel
theorem dX11_kept_91 : decode cX11_kept 91 = .ok (.getfield 75, 3) := by decide +kernel
theorem dX11_kept_94 : decode cX11_kept 94 = .ok (.aload_n 0, 1) := by decide +kernel
theorem dX11_kept_95 : decode cX11_kept 95 = .ok (.getfield 38, 3) := by decide +kernel
theorem dX11_kept_98 : decode cX11_kept 98 = .ok (.getfield 171, 3) := by decide +kernel
theorem dX11_kept_101 : decode cX11_kept 101 = .ok (.aload_n 0, 1) := by decide +kernel
theorem dX11_kept_102 : decode cX11_kept 102 = .ok (.getfield 42, 3) := by decide +kernel
theorem dX11_kept_105 : decode cX11_kept 105 = .ok (.getfield 171, 3) := by decide +kernel
theorem dX11_kept_108 : decode cX11_kept 108 = .ok (.invokevirtual 211, 3) := by decide +kernel
theorem dX11_kept_111 : decode cX11_kept 111 = .ok (.if_icmp .ne 7, 3) := by decide +kernel
theorem dX11_kept_114 : decode cX11_kept 114 = .ok (.iconst 2, 1) := by decide +kernel
theorem dX11_kept_115 : decode cX11_kept 115 = .ok (.goto 4, 3) := by decide +kernel
theorem dX11_kept_118 : decode cX11_kept 118 = .ok (.iconst 1, 1) := by decide +kernel
theorem dX11_kept_119 : decode cX11_kept 119 = .ok (.ireturn, 1) := by decide +kernel
set_option maxRecDepth 20000 in
theorem ggX11_example_X2_add : GoodIn wsX11_example wsX2_add := goodIn_r _ [9, 10, 11, 12, 13, 8, 14, 15, 16, 17, 18, 19, 20, 21, 22, 23, 24, 25, 26, 27, 28, 29, 30, 31, 32, 33, 34, 35, 36, 37, 38, 39, 59, 60, 61, 62, 63] (by decide +kernel) (by decide +kernel)
set_option maxRecDepth 20000 in
theorem gX11_example_X2_add : GoodIn wsX11_example (wsV RX11 223 RX2 yX2_add wsX2_add) := goodIn_app (goodIn_of _ (by decide +kernel)) ggX11_example_X2_add
set_option maxRecDepth 20000 in
theorem ggX11_example_X9_forgetBest : GoodIn wsX11_example wsX9_forgetBest := goodIn_r _ [44, 45, 64, 65, 66, 67, 68, 69] (by decide +kernel) (by decide +kernel)
set_option maxRecDepth 20000 in
theorem gX11_example_X9_forgetBest : GoodIn wsX11_example (wsV RX11 226 RX9 yX9_forgetBest wsX9_forgetBest) := goodIn_app (goodIn_of _ (by decide +kernel)) ggX11_example_X9_forgetBest
theorem dX11_example_0 : decode cX11_example 0 = .ok (.aload_n 0, 1) := by decide +kernel
theorem dX11_example_1 : decode cX11_example 1 = .ok (.getfield 48, 3) := by decide +kernel
theorem dX11_example_4 : decode cX11_example 4 = .ok (.aload_n 0, 1) := by decide +kernel
theorem dX11_example_5 : decode cX11_example 5 = .ok (.getfield 38, 3) := by decide +kernel
theorem dX11_example_8 : decode cX11_example 8 = .ok (.invokevirtual 223, 3) := by decide +kernel
theorem dX11_example_11 : decode cX11_example 11 = .ok (.ifCond .ne 6, 3) := by decide +kernel
theorem dX11_example_14 : decode cX11_example 14 = .ok (.bipush (-4), 2) := by decide +kernel
theorem dX11_example_16 : decode cX11_example 16 = .ok (.ireturn, 1) := by decide +kernel
theorem dX11_example_17 : decode cX11_example 17 = .ok (.aload_n 0, 1) := by decide +kernel
theorem dX11_example_18 : decode cX11_example 18 = .ok (.getfield 87, 3) := by decide +kernel
theorem dX11_example_21 : decode cX11_example 21 = .ok (.invokevirtual 226, 3) := by decide +kernel
theorem dX11_example_24 : decode cX11_example 24 = .ok (.aload_n 0, 1) := by decide +kernel
theorem dX11_example_25 : decode cX11_example 25 = .ok (.getfield 48, 3) := by decide +kernel
theorem dX11_example_28 : decode cX11_example 28 = .ok (.getfield 229, 3) := by decide +kernel
theorem dX11_example_31 : decode cX11_example 31 = .ok (.iconst 1, 1) := by decide +kernel
theorem dX11_example_32 : decode cX11_example 32 = .ok (.isub, 1) := by decide +kernel
theorem dX11_example_33 : decode cX11_example 33 = .ok (.ireturn, 1) := by decide +kernel
set_option maxRecDepth 20000 in
theorem ggX11_forget_X9_forgetBest : GoodIn wsX11_forget wsX9_forgetBest := goodIn_r _ [8, 9, 26, 27, 28, 29, 30, 31] (by decide +kernel) (by decide +kernel)
set_option maxRecDepth 20000 in
theorem gX11_forget_X9_forgetBest : GoodIn wsX11_forget (wsV RX11 226 RX9 yX9_forgetBest wsX9_forgetBest) := goodIn_app (goodIn_of _ (by decide +kernel)) ggX11_forget_X9_forgetBest
theorem dX11_forget_0 : decode cX11_forget 0 = .ok (.aload_n 0, 1) := by decide +kernel
theorem dX11_forget_1 : decode cX11_forget 1 = .ok (.getfield 48, 3) := by decide +kernel
theorem dX11_forget_4 : decode cX11_forget 4 = .ok (.getfield 229, 3) := by decide +kernel
theorem dX11_forget_7 : decode cX11_forget 7 = .ok (.istore_n 1, 1) := by decide +kernel
theorem dX11_forget_8 : decode cX11_forget 8 = .ok (.aload_n 0, 1) := by decide +kernel
theorem dX11_forget_9 : decode cX11_forget 9 = .ok (.getfield 48, 3) := by decide +kernel
theorem dX11_forget_12 : decode cX11_forget 12 = .ok (.iconst 0, 1) := by decide +kernel
theorem dX11_forget_13 : decode cX11_forget 13 = .ok (.putfield 229, 3) := by decide +kernel
theorem dX11_forget_16 : decode cX11_forget 16 = .ok (.aload_n 0, 1) := by decide +kernel
theorem dX11_forget_17 : decode cX11_forget 17 = .ok (.getfield 87, 3) := by decide +kernel
theorem dX11_forget_20 : decode cX11_forget 20 = .ok (.invokevirtual 226, 3) := by decide +kernel
theorem dX11_forget_23 : decode cX11_forget 23 = .ok (.iload_n 1, 1) := by decide +kernel
theorem dX11_forget_24 : decode cX11_forget 24 = .ok (.ireturn, 1) := by decide +kernel
set_option maxRecDepth 20000 in
theorem ggX11_near_X2_has : GoodIn wsX11_near wsX2_has := goodIn_r _ [8, 9, 78, 79, 80] (by decide +kernel) (by decide +kernel)
set_option maxRecDepth 20000 in
theorem gX11_near_X2_has : GoodIn wsX11_near (wsV RX11 230 RX2 yX2_has wsX2_has) := goodIn_app (goodIn_of _ (by decide +kernel)) ggX11_near_X2_has
set_option maxRecDepth 20000 in
theorem ggX11_near_X2_at : GoodIn wsX11_near wsX2_at := goodIn_r _ [13, 14, 15, 16, 5, 6, 7, 8, 9, 78, 79, 80] (by decide +kernel) (by decide +kernel)
set_option maxRecDepth 20000 in
theorem gX11_near_X2_at : GoodIn wsX11_near (wsV RX11 233 RX2 yX2_at wsX2_at) := goodIn_app (goodIn_of _ (by decide +kernel)) ggX11_near_X2_at
set_option maxRecDepth 20000 in
theorem ggX11_near_X7_fill : GoodIn wsX11_near wsX7_fill := goodIn_r _ [21, 22, 23, 24, 25, 26, 20, 27, 28, 29, 30, 31, 32, 33, 34, 35, 36, 37, 38, 39, 40, 41, 42, 43, 44, 45, 46, 47, 48, 49, 50, 51, 52, 53, 54, 55, 56, 57, 58, 76, 77, 81, 82, 83, 84] (by decide +kernel) (by decide +kernel)
set_option maxRecDepth 20000 in
theorem gX11_near_X7_fill : GoodIn wsX11_near (wsV RX11 207 RX7 yX7_fill wsX7_fill) := goodIn_app (goodIn_of _ (by decide +kernel)) ggX11_near_X7_fill
set_option maxRecDepth 20000 in
theorem ggX11_near_X7_leastAt : GoodIn wsX11_near wsX7_leastAt := goodIn_r _ [62, 28, 30, 81, 82, 83] (by decide +kernel) (by decide +kernel)
set_option maxRecDepth 20000 in
theorem gX11_near_X7_leastAt : GoodIn wsX11_near (wsV RX11 237 RX7 yX7_leastAt wsX7_leastAt) := goodIn_app (goodIn_of _ (by decide +kernel)) ggX11_near_X7_leastAt
theorem dX11_near_0 : decode cX11_near 0 = .ok (.aload_n 0, 1) := by decide +kernel
theorem dX11_near_1 : decode cX11_near 1 = .ok (.getfield 48, 3) := by decide +kernel
theorem dX11_near_4 : decode cX11_near 4 = .ok (.iload_n 1, 1) := by decide +kernel
theorem dX11_near_5 : decode cX11_near 5 = .ok (.invokevirtual 230, 3) := by decide +kernel
theorem dX11_near_8 : decode cX11_near 8 = .ok (.ifCond .eq 14, 3) := by decide +kernel
theorem dX11_near_11 : decode cX11_near 11 = .ok (.aload_n 0, 1) := by decide +kernel
theorem dX11_near_12 : decode cX11_near 12 = .ok (.getfield 48, 3) := by decide +kernel
theorem dX11_near_15 : decode cX11_near 15 = .ok (.iload_n 2, 1) := by decide +kernel
theorem dX11_near_16 : decode cX11_near 16 = .ok (.invokevirtual 230, 3) := by decide +kernel
theorem dX11_near_19 : decode cX11_near 19 = .ok (.ifCond .ne 5, 3) := by decide +kernel
theorem dX11_near_22 : decode cX11_near 22 = .ok (.iconst (-1), 1) := by decide +kernel
theorem dX11_near_23 : decode cX11_near 23 = .ok (.ireturn, 1) := by decide +kernel
theorem dX11_near_24 : decode cX11_near 24 = .ok (.aload_n 0, 1) := by decide +kernel
theorem dX11_near_25 : decode cX11_near 25 = .ok (.getfield 48, 3) := by decide +kernel
theorem dX11_near_28 : decode cX11_near 28 = .ok (.iload_n 1, 1) := by decide +kernel
theorem dX11_near_29 : decode cX11_near 29 = .ok (.invokevirtual 233, 3) := by decide +kernel
theorem dX11_near_32 : decode cX11_near 32 = .ok (.astore_n 3, 1) := by decide +kernel
theorem dX11_near_33 : decode cX11_near 33 = .ok (.aload_n 0, 1) := by decide +kernel
theorem dX11_near_34 : decode cX11_near 34 = .ok (.getfield 48, 3) := by decide +kernel
theorem dX11_near_37 : decode cX11_near 37 = .ok (.iload_n 2, 1) := by decide +kernel
theorem dX11_near_38 : decode cX11_near 38 = .ok (.invokevirtual 233, 3) := by decide +kernel
theorem dX11_near_41 : decode cX11_near 41 = .ok (.astore 4, 2) := by decide +kernel
theorem dX11_near_43 : decode cX11_near 43 = .ok (.aload_n 0, 1) := by decide +kernel
theorem dX11_near_44 : decode cX11_near 44 = .ok (.getfield 75, 3) := by decide +kernel
theorem dX11_near_47 : decode cX11_near 47 = .ok (.aload_n 3, 1) := by decide +kernel
theorem dX11_near_48 : decode cX11_near 48 = .ok (.aload 4, 2) := by decide +kernel
theorem dX11_near_50 : decode cX11_near 50 = .ok (.iconst 0, 1) := by decide +kernel
theorem dX11_near_51 : decode cX11_near 51 = .ok (.invokevirtual 207, 3) := by decide +kernel
theorem dX11_near_54 : decode cX11_near 54 = .ok (.aload_n 0, 1) := by decide +kernel
theorem dX11_near_55 : decode cX11_near 55 = .ok (.getfield 75, 3) := by decide +kernel
theorem dX11_near_58 : decode cX11_near 58 = .ok (.aload_n 3, 1) := by decide +kernel
theorem dX11_near_59 : decode cX11_near 59 = .ok (.getfield 171, 3) := by decide +kernel
theorem dX11_near_62 : decode cX11_near 62 = .ok (.aload 4, 2) := by decide +kernel
theorem dX11_near_64 : decode cX11_near 64 = .ok (.getfield 171, 3) := by decide +kernel
theorem dX11_near_67 : decode cX11_near 67 = .ok (.invokevirtual 237, 3) := by decide +kernel
theorem dX11_near_70 : decode cX11_near 70 = .ok (.ireturn, 1) := by decide +kernel
set_option maxRecDepth 20000 in
theorem ggX11_total_X9_totalBelow : GoodIn wsX11_total wsX9_totalBelow := goodIn_r _ [8, 9, 10, 11, 12, 13, 14, 15, 16, 17, 18, 19, 20, 21, 22, 23, 24, 25, 26, 27, 28, 29, 30, 31, 32, 33, 34, 35, 36, 37, 38, 39, 40, 41, 42, 43, 44, 45, 46, 47, 48, 49, 50, 51, 52, 53, 54, 55, 56, 57, 58, 59, 60, 61, 62, 63, 64, 65, 66, 67, 68, 69, 70, 71, 72, 73, 74, 75, 76, 77, 78, 79, 80, 81, 82, 83, 84, 85, 86, 87, 88, 89, 90, 91, 92, 93, 94, 95, 96, 97, 98, 99, 100, 101, 102, 103, 104, 105, 106, 107, 108, 109, 110, 111, 112, 113, 114, 115, 116, 117, 118, 119, 120, 121, 122, 123, 124, 125, 126, 127, 128, 129, 130, 131, 132, 133, 134, 135, 136, 137, 138, 139, 140, 141, 142, 143, 144, 145, 146, 147, 148, 149, 150, 151, 152, 153, 154, 155, 156, 157, 158, 159, 160, 161, 175, 176, 177, 178, 179, 180, 181, 182, 183, 184, 185, 186, 187, 188, 189, 190, 191, 192, 193, 194, 195, 196, 197, 198] (by decide +kernel) (by decide +kernel)
set_option maxRecDepth 20000 in
theorem gX11_total_X9_totalBelow : GoodIn wsX11_total (wsV RX11 241 RX9 yX9_totalBelow wsX9_totalBelow) := goodIn_app (goodIn_of _ (by decide +kernel)) ggX11_total_X9_totalBelow
theorem dX11_total_0 : decode cX11_total 0 = .ok (.aload_n 0, 1) := by decide +kernel
theorem dX11_total_1 : decode cX11_total 1 = .ok (.iconst 0, 1) := by decide +kernel
theorem dX11_total_2 : decode cX11_total 2 = .ok (.putfield 91, 3) := by decide +kernel
theorem dX11_total_5 : decode cX11_total 5 = .ok (.aload_n 0, 1) := by decide +kernel
theorem dX11_total_6 : decode cX11_total 6 = .ok (.getfield 87, 3) := by decide +kernel
theorem dX11_total_9 : decode cX11_total 9 = .ok (.ldc 240, 2) := by decide +kernel
theorem dX11_total_11 : decode cX11_total 11 = .ok (.invokevirtual 241, 3) := by decide +kernel
theorem dX11_total_14 : decode cX11_total 14 = .ok (.istore_n 1, 1) := by decide +kernel
theorem dX11_total_15 : decode cX11_total 15 = .ok (.iload_n 1, 1) := by decide +kernel
theorem dX11_total_16 : decode cX11_total 16 = .ok (.ldc 240, 2) := by decide +kernel
theorem dX11_total_18 : decode cX11_total 18 = .ok (.if_icmp .ne 8, 3) := by decide +kernel
theorem dX11_total_21 : decode cX11_total 21 = .ok (.bipush (-5), 2) := by decide +kernel
theorem dX11_total_23 : decode cX11_total 23 = .ok (.goto 4, 3) := by decide +kernel
theorem dX11_total_26 : decode cX11_total 26 = .ok (.iload_n 1, 1) := by decide +kernel
theorem dX11_total_27 : decode cX11_total 27 = .ok (.ireturn, 1) := by decide +kernel
set_option maxRecDepth 20000 in
theorem ggX11_more_X11_isName : GoodIn wsX11_more wsX11_isName := goodIn_r _ [11] (by decide +kernel) (by decide +kernel)
set_option maxRecDepth 20000 in
theorem gX11_more_X11_isName : GoodIn wsX11_more (va_wsS RX11 125 yX11_isName wsX11_isName) := goodIn_app (goodIn_of _ (by decide +kernel)) ggX11_more_X11_isName
set_option maxRecDepth 20000 in
theorem ggX11_more_X9_hasSought : GoodIn wsX11_more wsX9_hasSought := goodIn_r _ [16, 17, 224, 225, 226, 227, 228, 229] (by decide +kernel) (by decide +kernel)
set_option maxRecDepth 20000 in
theorem gX11_more_X9_hasSought : GoodIn wsX11_more (wsV RX11 244 RX9 yX9_hasSought wsX9_hasSought) := goodIn_app (goodIn_of _ (by decide +kernel)) ggX11_more_X9_hasSought
set_option maxRecDepth 20000 in
theorem ggX11_more_X9_seek : GoodIn wsX11_more wsX9_seek := goodIn_r _ [21, 22, 23, 24, 25, 17, 26, 27, 28, 29, 30, 31, 32, 33, 34, 35, 36, 37, 38, 39, 40, 41, 9, 10, 11, 42, 43, 44, 45, 46, 47, 48, 49, 50, 51, 52, 53, 54, 55, 56, 57, 58, 59, 60, 61, 62, 63, 64, 65, 66, 67, 68, 69, 70, 71, 72, 73, 15, 74, 75, 76, 77, 78, 79, 80, 81, 82, 83, 84, 85, 86, 87, 88, 89, 90, 91, 92, 93, 94, 95, 96, 97, 98, 99, 100, 101, 102, 103, 104, 105, 106, 107, 108, 109, 110, 111, 112, 113, 114, 115, 116, 117, 118, 119, 120, 121, 122, 123, 124, 125, 126, 127, 128, 129, 130, 131, 132, 133, 134, 135, 136, 137, 138, 139, 140, 141, 142, 143, 144, 145, 146, 147, 148, 149, 150, 151, 152, 153, 154, 155, 156, 157, 158, 159, 160, 161, 162, 163, 164, 165, 166, 167, 168, 169, 170, 171, 172, 173, 174, 175, 176, 177, 178, 179, 180, 181, 182, 183, 184, 185, 186, 187, 188, 189, 190, 191, 192, 193, 194, 195, 196, 197, 198, 199, 200, 201, 202, 224, 225, 226, 227, 228, 229, 230, 231, 232, 233, 234, 235, 236, 221, 222, 223, 237, 238, 239, 240, 241, 242, 243, 244] (by decide +kernel) (by decide +kernel)
set_option maxRecDepth 20000 in
theorem gX11_more_X9_seek : GoodIn wsX11_more (wsV RX11 247 RX9 yX9_seek wsX9_seek) := goodIn_app (goodIn_of _ (by decide +kernel)) ggX11_more_X9_seek
set_option maxRecDepth 20000 in
theorem ggX11_more_X4_lengthOf : GoodIn wsX11_more wsX4_lengthOf := goodIn_r _ [49, 50, 230, 231, 232, 233, 234, 235, 236] (by decide +kernel) (by decide +kernel)
set_option maxRecDepth 20000 in
theorem gX11_more_X4_lengthOf : GoodIn wsX11_more (wsV RX11 135 RX4 yX4_lengthOf wsX4_lengthOf) := goodIn_app (goodIn_of _ (by decide +kernel)) ggX11_more_X4_lengthOf
set_option maxRecDepth 20000 in
theorem ggX11_more_X4_signAt : GoodIn wsX11_more wsX4_signAt := goodIn_r _ [54, 55, 230, 231, 232, 233, 234, 235, 236] (by decide +kernel) (by decide +kernel)
set_option maxRecDepth 20000 in
theorem gX11_more_X4_signAt : GoodIn wsX11_more (wsV RX11 138 RX4 yX4_signAt wsX4_signAt) := goodIn_app (goodIn_of _ (by decide +kernel)) ggX11_more_X4_signAt
set_option maxRecDepth 20000 in
theorem ggX11_more_X11_codeOf : GoodIn wsX11_more wsX11_codeOf := goodIn_r _ [207] (by decide +kernel) (by decide +kernel)
set_option maxRecDepth 20000 in
theorem gX11_more_X11_codeOf : GoodIn wsX11_more (va_wsS RX11 141 yX11_codeOf wsX11_codeOf) := goodIn_app (goodIn_of _ (by decide +kernel)) ggX11_more_X11_codeOf
theorem dX11_more_0 : decode cX11_more 0 = .ok (.iload_n 1, 1) := by decide +kernel
theorem dX11_more_1 : decode cX11_more 1 = .ok (.invokestatic 125, 3) := by decide +kernel
theorem dX11_more_4 : decode cX11_more 4 = .ok (.ifCond .ne 5, 3) := by decide +kernel
theorem dX11_more_7 : decode cX11_more 7 = .ok (.iconst (-1), 1) := by decide +kernel
theorem dX11_more_8 : decode cX11_more 8 = .ok (.ireturn, 1) := by decide +kernel
theorem dX11_more_9 : decode cX11_more 9 = .ok (.iload_n 2, 1) := by decide +kernel
theorem dX11_more_10 : decode cX11_more 10 = .ok (.ifCond .lt 8, 3) := by decide +kernel
theorem dX11_more_13 : decode cX11_more 13 = .ok (.iload_n 2, 1) := by decide +kernel
theorem dX11_more_14 : decode cX11_more 14 = .ok (.iconst 3, 1) := by decide +kernel
theorem dX11_more_15 : decode cX11_more 15 = .ok (.if_icmp .le 6, 3) := by decide +kernel
theorem dX11_more_18 : decode cX11_more 18 = .ok (.bipush (-2), 2) := by decide +kernel
theorem dX11_more_20 : decode cX11_more 20 = .ok (.ireturn, 1) := by decide +kernel
theorem dX11_more_21 : decode cX11_more 21 = .ok (.aload_n 0, 1) := by decide +kernel
theorem dX11_more_22 : decode cX11_more 22 = .ok (.getfield 48, 3) := by decide +kernel
theorem dX11_more_25 : decode cX11_more 25 = .ok (.getfield 229, 3) := by decide +kernel
theorem dX11_more_28 : decode cX11_more 28 = .ok (.ifCond .ne 6, 3) := by decide +kernel
theorem dX11_more_31 : decode cX11_more 31 = .ok (.bipush (-3), 2) := by decide +kernel
theorem dX11_more_33 : decode cX11_more 33 = .ok (.ireturn, 1) := by decide +kernel
theorem dX11_more_34 : decode cX11_more 34 = .ok (.aload_n 0, 1) := by decide +kernel
theorem dX11_more_35 : decode cX11_more 35 = .ok (.getfield 87, 3) := by decide +kernel
theorem dX11_more_38 : decode cX11_more 38 = .ok (.iload_n 1, 1) := by decide +kernel
theorem dX11_more_39 : decode cX11_more 39 = .ok (.invokevirtual 244, 3) := by decide +kernel
theorem dX11_more_42 : decode cX11_more 42 = .ok (.ifCond .ne 16, 3) := by decide +kernel
theorem dX11_more_45 : decode cX11_more 45 = .ok (.aload_n 0, 1) := by decide +kernel
theorem dX11_more_46 : decode cX11_more 46 = .ok (.iconst 0, 1) := by decide +kernel
theorem dX11_more_47 : decode cX11_more 47 = .ok (.putfield 91, 3) := by decide +kernel
theorem dX11_more_50 : decode cX11_more 50 = .ok (.aload_n 0, 1) := by decide +kernel
theorem dX11_more_51 : decode cX11_more 51 = .ok (.getfield 87, 3) := by decide +kernel
theorem dX11_more_54 : decode cX11_more 54 = .ok (.iload_n 1, 1) := by decide +kernel
theorem dX11_more_55 : decode cX11_more 55 = .ok (.invokevirtual 247, 3) := by decide +kernel
theorem dX11_more_58 : decode cX11_more 58 = .ok (.aload_n 0, 1) := by decide +kernel
theorem dX11_more_59 : decode cX11_more 59 = .ok (.getfield 87, 3) := by decide +kernel
theorem dX11_more_62 : decode cX11_more 62 = .ok (.getfield 250, 3) := by decide +kernel
theorem dX11_more_65 : decode cX11_more 65 = .ok (.ldc 240, 2) := by decide +kernel
theorem dX11_more_67 : decode cX11_more 67 = .ok (.if_icmp .ne 6, 3) := by decide +kernel
theorem dX11_more_70 : decode cX11_more 70 = .ok (.bipush (-5), 2) := by decide +kernel
theorem dX11_more_72 : decode cX11_more 72 = .ok (.ireturn, 1) := by decide +kernel
theorem dX11_more_73 : decode cX11_more 73 = .ok (.iload_n 2, 1) := by decide +kernel
theorem dX11_more_74 : decode cX11_more 74 = .ok (.ifCond .ne 11, 3) := by decide +kernel
theorem dX11_more_77 : decode cX11_more 77 = .ok (.aload_n 0, 1) := by decide +kernel
theorem dX11_more_78 : decode cX11_more 78 = .ok (.getfield 87, 3) := by decide +kernel
theorem dX11_more_81 : decode cX11_more 81 = .ok (.getfield 250, 3) := by decide +kernel
theorem dX11_more_84 : decode cX11_more 84 = .ok (.ireturn, 1) := by decide +kernel
theorem dX11_more_85 : decode cX11_more 85 = .ok (.aload_n 0, 1) := by decide +kernel
theorem dX11_more_86 : decode cX11_more 86 = .ok (.getfield 19, 3) := by decide +kernel
theorem dX11_more_89 : decode cX11_more 89 = .ok (.bipush 24, 2) := by decide +kernel
theorem dX11_more_91 : decode cX11_more 91 = .ok (.invokevirtual 135, 3) := by decide +kernel
theorem dX11_more_94 : decode cX11_more 94 = .ok (.istore_n 3, 1) := by decide +kernel
theorem dX11_more_95 : decode cX11_more 95 = .ok (.iload_n 2, 1) := by decide +kernel
theorem dX11_more_96 : decode cX11_more 96 = .ok (.iconst 1, 1) := by decide +kernel
theorem dX11_more_97 : decode cX11_more 97 = .ok (.if_icmp .ne 5, 3) := by decide +kernel
theorem dX11_more_100 : decode cX11_more 100 = .ok (.iload_n 3, 1) := by decide +kernel
theorem dX11_more_101 : decode cX11_more 101 = .ok (.ireturn, 1) := by decide +kernel
theorem dX11_more_102 : decode cX11_more 102 = .ok (.iload_n 2, 1) := by decide +kernel
theorem dX11_more_103 : decode cX11_more 103 = .ok (.iconst 2, 1) := by decide +kernel
theorem dX11_more_104 : decode cX11_more 104 = .ok (.isub, 1) := by decide +kernel
theorem dX11_more_105 : decode cX11_more 105 = .ok (.iload_n 3, 1) := by decide +kernel
theorem dX11_more_106 : decode cX11_more 106 = .ok (.if_icmp .ge 21, 3) := by decide +kernel
theorem dX11_more_109 : decode cX11_more 109 = .ok (.aload_n 0, 1) := by decide +kernel
theorem dX11_more_110 : decode cX11_more 110 = .ok (.getfield 19, 3) := by decide +kernel
theorem dX11_more_113 : decode cX11_more 113 = .ok (.bipush 24, 2) := by decide +kernel
theorem dX11_more_115 : decode cX11_more 115 = .ok (.iload_n 2, 1) := by decide +kernel
theorem dX11_more_116 : decode cX11_more 116 = .ok (.iconst 2, 1) := by decide +kernel
theorem dX11_more_117 : decode cX11_more 117 = .ok (.isub, 1) := by decide +kernel
theorem dX11_more_118 : decode cX11_more 118 = .ok (.invokevirtual 138, 3) := by decide +kernel
theorem dX11_more_121 : decode cX11_more 121 = .ok (.invokestatic 141, 3) := by decide +kernel
theorem dX11_more_124 : decode cX11_more 124 = .ok (.goto 5, 3) := by decide +kernel
theorem dX11_more_127 : decode cX11_more 127 = .ok (.bipush (-6), 2) := by decide +kernel
theorem dX11_more_129 : decode cX11_more 129 = .ok (.ireturn, 1) := by decide +kernel
set_option maxRecDepth 20000 in
theorem ggX11_told_X1_of : GoodIn wsX11_told wsX1_of := goodIn_r _ [15, 16, 54] (by decide +kernel) (by decide +kernel)
set_option maxRecDepth 20000 in
theorem gX11_told_X1_of : GoodIn wsX11_told (wsV RX11 181 RX1 yX1_of wsX1_of) := goodIn_app (goodIn_of _ (by decide +kernel)) ggX11_told_X1_of
set_option maxRecDepth 20000 in
theorem ggX11_told_X4_countOf : GoodIn wsX11_told wsX4_countOf := goodIn_r _ [21, 22, 23, 24, 25, 26, 42, 43, 44, 45, 46, 47, 48] (by decide +kernel) (by decide +kernel)
set_option maxRecDepth 20000 in
theorem gX11_told_X4_countOf : GoodIn wsX11_told (wsV RX11 128 RX4 yX4_countOf wsX4_countOf) := goodIn_app (goodIn_of _ (by decide +kernel)) ggX11_told_X4_countOf
theorem dX11_told_0 : decode cX11_told 0 = .ok (.iload_n 1, 1) := by decide +kernel
theorem dX11_told_1 : decode cX11_told 1 = .ok (.iconst 5, 1) := by decide +kernel
theorem dX11_told_2 : decode cX11_told 2 = .ok (.if_icmp .lt 20, 3) := by decide +kernel
theorem dX11_told_5 : decode cX11_told 5 = .ok (.iload_n 1, 1) := by decide +kernel
theorem dX11_told_6 : decode cX11_told 6 = .ok (.bipush 8, 2) := by decide +kernel
theorem dX11_told_8 : decode cX11_told 8 = .ok (.if_icmp .ge 14, 3) := by decide +kernel
theorem dX11_told_11 : decode cX11_told 11 = .ok (.aload_n 0, 1) := by decide +kernel
theorem dX11_told_12 : decode cX11_told 12 = .ok (.getfield 29, 3) := by decide +kernel
theorem dX11_told_15 : decode cX11_told 15 = .ok (.iload_n 1, 1) := by decide +kernel
theorem dX11_told_16 : decode cX11_told 16 = .ok (.iconst 5, 1) := by decide +kernel
theorem dX11_told_17 : decode cX11_told 17 = .ok (.isub, 1) := by decide +kernel
theorem dX11_told_18 : decode cX11_told 18 = .ok (.invokevirtual 181, 3) := by decide +kernel
theorem dX11_told_21 : decode cX11_told 21 = .ok (.ireturn, 1) := by decide +kernel
theorem dX11_told_22 : decode cX11_told 22 = .ok (.iload_n 1, 1) := by decide +kernel
theorem dX11_told_23 : decode cX11_told 23 = .ok (.bipush 10, 2) := by decide +kernel
theorem dX11_told_25 : decode cX11_told 25 = .ok (.if_icmp .lt 21, 3) := by decide +kernel
theorem dX11_told_28 : decode cX11_told 28 = .ok (.iload_n 1, 1) := by decide +kernel
theorem dX11_told_29 : decode cX11_told 29 = .ok (.bipush 16, 2) := by decide +kernel
theorem dX11_told_31 : decode cX11_told 31 = .ok (.if_icmp .ge 15, 3) := by decide +kernel
theorem dX11_told_34 : decode cX11_told 34 = .ok (.aload_n 0, 1) := by decide +kernel
theorem dX11_told_35 : decode cX11_told 35 = .ok (.getfield 19, 3) := by decide +kernel
theorem dX11_told_38 : decode cX11_told 38 = .ok (.iload_n 1, 1) := by decide +kernel
theorem dX11_told_39 : decode cX11_told 39 = .ok (.bipush 10, 2) := by decide +kernel
theorem dX11_told_41 : decode cX11_told 41 = .ok (.isub, 1) := by decide +kernel
theorem dX11_told_42 : decode cX11_told 42 = .ok (.invokevirtual 128, 3) := by decide +kernel
theorem dX11_told_45 : decode cX11_told 45 = .ok (.ireturn, 1) := by decide +kernel
theorem dX11_told_46 : decode cX11_told 46 = .ok (.iload_n 1, 1) := by decide +kernel
theorem dX11_told_47 : decode cX11_told 47 = .ok (.tableswitch 73 0 4 #[33, 41, 49, 57, 65], 33) := by decide +kernel
theorem dX11_told_80 : decode cX11_told 80 = .ok (.aload_n 0, 1) := by decide +kernel
theorem dX11_told_81 : decode cX11_told 81 = .ok (.getfield 12, 3) := by decide +kernel
theorem dX11_told_84 : decode cX11_told 84 = .ok (.getfield 99, 3) := by decide +kernel
theorem dX11_told_87 : decode cX11_told 87 = .ok (.ireturn, 1) := by decide +kernel
theorem dX11_told_88 : decode cX11_told 88 = .ok (.aload_n 0, 1) := by decide +kernel
theorem dX11_told_89 : decode cX11_told 89 = .ok (.getfield 19, 3) := by decide +kernel
theorem dX11_told_92 : decode cX11_told 92 = .ok (.getfield 116, 3) := by decide +kernel
theorem dX11_told_95 : decode cX11_told 95 = .ok (.ireturn, 1) := by decide +kernel
theorem dX11_told_96 : decode cX11_told 96 = .ok (.aload_n 0, 1) := by decide +kernel
theorem dX11_told_97 : decode cX11_told 97 = .ok (.getfield 19, 3) := by decide +kernel
theorem dX11_told_100 : decode cX11_told 100 = .ok (.getfield 253, 3) := by decide +kernel
theorem dX11_told_103 : decode cX11_told 103 = .ok (.ireturn, 1) := by decide +kernel
theorem dX11_told_104 : decode cX11_told 104 = .ok (.aload_n 0, 1) := by decide +kernel
theorem dX11_told_105 : decode cX11_told 105 = .ok (.getfield 38, 3) := by decide +kernel
theorem dX11_told_108 : decode cX11_told 108 = .ok (.getfield 171, 3) := by decide +kernel
theorem dX11_told_111 : decode cX11_told 111 = .ok (.ireturn, 1) := by decide +kernel
theorem dX11_told_112 : decode cX11_told 112 = .ok (.aload_n 0, 1) := by decide +kernel
theorem dX11_told_113 : decode cX11_told 113 = .ok (.getfield 48, 3) := by decide +kernel
theorem dX11_told_116 : decode cX11_told 116 = .ok (.getfield 229, 3) := by decide +kernel
theorem dX11_told_119 : decode cX11_told 119 = .ok (.ireturn, 1) := by decide +kernel
theorem dX11_told_120 : decode cX11_told 120 = .ok (.bipush (-2), 2) := by decide +kernel
theorem dX11_told_122 : decode cX11_told 122 = .ok (.ireturn, 1) := by decide +kernel
theorem dX11_isName_0 : decode cX11_isName 0 = .ok (.iload_n 0, 1) := by decide +kernel
theorem dX11_isName_1 : decode cX11_isName 1 = .ok (.ifCond .lt 13, 3) := by decide +kernel
theorem dX11_isName_4 : decode cX11_isName 4 = .ok (.iload_n 0, 1) := by decide +kernel
theorem dX11_isName_5 : decode cX11_isName 5 = .ok (.bipush 6, 2) := by decide +kernel
theorem dX11_isName_7 : decode cX11_isName 7 = .ok (.if_icmp .ge 7, 3) := by decide +kernel
theorem dX11_isName_10 : decode cX11_isName 10 = .ok (.iconst 1, 1) := by decide +kernel
theorem dX11_isName_11 : decode cX11_isName 11 = .ok (.goto 4, 3) := by decide +kernel
theorem dX11_isName_14 : decode cX11_isName 14 = .ok (.iconst 0, 1) := by decide +kernel
theorem dX11_isName_15 : decode cX11_isName 15 = .ok (.ireturn, 1) := by decide +kernel
theorem dX11_codeOf_0 : decode cX11_codeOf 0 = .ok (.iload_n 0, 1) := by decide +kernel
theorem dX11_codeOf_1 : decode cX11_codeOf 1 = .ok (.iconst 4, 1) := by decide +kernel
theorem dX11_codeOf_2 : decode cX11_codeOf 2 = .ok (.if_icmp .ge 7, 3) := by decide +kernel
theorem dX11_codeOf_5 : decode cX11_codeOf 5 = .ok (.iload_n 0, 1) := by decide +kernel
theorem dX11_codeOf_6 : decode cX11_codeOf 6 = .ok (.goto 9, 3) := by decide +kernel
theorem dX11_codeOf_9 : decode cX11_codeOf 9 = .ok (.bipush 10, 2) := by decide +kernel
theorem dX11_codeOf_11 : decode cX11_codeOf 11 = .ok (.iload_n 0, 1) := by decide +kernel
theorem dX11_codeOf_12 : decode cX11_codeOf 12 = .ok (.iadd, 1) := by decide +kernel
theorem dX11_codeOf_13 : decode cX11_codeOf 13 = .ok (.iconst 4, 1) := by decide +kernel
theorem dX11_codeOf_14 : decode cX11_codeOf 14 = .ok (.isub, 1) := by decide +kernel
theorem dX11_codeOf_15 : decode cX11_codeOf 15 = .ok (.ireturn, 1) := by decide +kernel
set_option maxRecDepth 20000 in
theorem ggX11_lettersOf_X3_lengthOf : GoodIn wsX11_lettersOf wsX3_lengthOf := goodIn_r _ [5, 6] (by decide +kernel) (by decide +kernel)
set_option maxRecDepth 20000 in
theorem gX11_lettersOf_X3_lengthOf : GoodIn wsX11_lettersOf (va_wsS RX11 256 yX3_lengthOf wsX3_lengthOf) := goodIn_app (goodIn_of _ (by decide +kernel)) ggX11_lettersOf_X3_lengthOf
set_option maxRecDepth 20000 in
theorem ggX11_lettersOf_X3_letterAt : GoodIn wsX11_lettersOf wsX3_letterAt := goodIn_r _ [9, 10, 3, 4, 5, 6] (by decide +kernel) (by decide +kernel)
set_option maxRecDepth 20000 in
theorem gX11_lettersOf_X3_letterAt : GoodIn wsX11_lettersOf (va_wsS RX11 258 yX3_letterAt wsX3_letterAt) := goodIn_app (goodIn_of _ (by decide +kernel)) ggX11_lettersOf_X3_letterAt
theorem dX11_lettersOf_0 : decode cX11_lettersOf 0 = .ok (.lload_n 0, 1) := by decide +kernel
theorem dX11_lettersOf_1 : decode cX11_lettersOf 1 = .ok (.ldc2_w 158, 3) := by decide +kernel
theorem dX11_lettersOf_4 : decode cX11_lettersOf 4 = .ok (.lcmp, 1) := by decide +kernel
theorem dX11_lettersOf_5 : decode cX11_lettersOf 5 = .ok (.ifCond .eq 12, 3) := by decide +kernel
theorem dX11_lettersOf_8 : decode cX11_lettersOf 8 = .ok (.lload_n 0, 1) := by decide +kernel
theorem dX11_lettersOf_9 : decode cX11_lettersOf 9 = .ok (.invokestatic 256, 3) := by decide +kernel
theorem dX11_lettersOf_12 : decode cX11_lettersOf 12 = .ok (.bipush 12, 2) := by decide +kernel
theorem dX11_lettersOf_14 : decode cX11_lettersOf 14 = .ok (.if_icmp .le 6, 3) := by decide +kernel
theorem dX11_lettersOf_17 : decode cX11_lettersOf 17 = .ok (.bipush (-6), 2) := by decide +kernel
theorem dX11_lettersOf_19 : decode cX11_lettersOf 19 = .ok (.ireturn, 1) := by decide +kernel
theorem dX11_lettersOf_20 : decode cX11_lettersOf 20 = .ok (.lload_n 0, 1) := by decide +kernel
theorem dX11_lettersOf_21 : decode cX11_lettersOf 21 = .ok (.invokestatic 256, 3) := by decide +kernel
theorem dX11_lettersOf_24 : decode cX11_lettersOf 24 = .ok (.istore_n 3, 1) := by decide +kernel
theorem dX11_lettersOf_25 : decode cX11_lettersOf 25 = .ok (.iload_n 2, 1) := by decide +kernel
theorem dX11_lettersOf_26 : decode cX11_lettersOf 26 = .ok (.iconst (-1), 1) := by decide +kernel
theorem dX11_lettersOf_27 : decode cX11_lettersOf 27 = .ok (.if_icmp .ne 5, 3) := by decide +kernel
theorem dX11_lettersOf_30 : decode cX11_lettersOf 30 = .ok (.iload_n 3, 1) := by decide +kernel
theorem dX11_lettersOf_31 : decode cX11_lettersOf 31 = .ok (.ireturn, 1) := by decide +kernel
theorem dX11_lettersOf_32 : decode cX11_lettersOf 32 = .ok (.iload_n 2, 1) := by decide +kernel
theorem dX11_lettersOf_33 : decode cX11_lettersOf 33 = .ok (.ifCond .lt 16, 3) := by decide +kernel
theorem dX11_lettersOf_36 : decode cX11_lettersOf 36 = .ok (.iload_n 2, 1) := by decide +kernel
theorem dX11_lettersOf_37 : decode cX11_lettersOf 37 = .ok (.iload_n 3, 1) := by decide +kernel
theorem dX11_lettersOf_38 : decode cX11_lettersOf 38 = .ok (.if_icmp .ge 11, 3) := by decide +kernel
theorem dX11_lettersOf_41 : decode cX11_lettersOf 41 = .ok (.lload_n 0, 1) := by decide +kernel
theorem dX11_lettersOf_42 : decode cX11_lettersOf 42 = .ok (.iload_n 2, 1) := by decide +kernel
theorem dX11_lettersOf_43 : decode cX11_lettersOf 43 = .ok (.invokestatic 258, 3) := by decide +kernel
theorem dX11_lettersOf_46 : decode cX11_lettersOf 46 = .ok (.goto 5, 3) := by decide +kernel
theorem dX11_lettersOf_49 : decode cX11_lettersOf 49 = .ok (.bipush (-6), 2) := by decide +kernel
theorem dX11_lettersOf_51 : decode cX11_lettersOf 51 = .ok (.ireturn, 1) := by decide +kernel
set_option maxRecDepth 20000 in
theorem ggX11_forgetAnswers_X9_forgetBest : GoodIn wsX11_forgetAnswers wsX9_forgetBest := goodIn_r _ [7, 8, 22, 23, 24, 25, 26, 27] (by decide +kernel) (by decide +kernel)
set_option maxRecDepth 20000 in
theorem gX11_forgetAnswers_X9_forgetBest : GoodIn wsX11_forgetAnswers (wsV RX11 226 RX9 yX9_forgetBest wsX9_forgetBest) := goodIn_app (goodIn_of _ (by decide +kernel)) ggX11_forgetAnswers_X9_forgetBest
theorem dX11_forgetAnswers_0 : decode cX11_forgetAnswers 0 = .ok (.aload_n 0, 1) := by decide +kernel
theorem dX11_forgetAnswers_1 : decode cX11_forgetAnswers 1 = .ok (.iconst 0, 1) := by decide +kernel
theorem dX11_forgetAnswers_2 : decode cX11_forgetAnswers 2 = .ok (.putfield 91, 3) := by decide +kernel
theorem dX11_forgetAnswers_5 : decode cX11_forgetAnswers 5 = .ok (.aload_n 0, 1) := by decide +kernel
theorem dX11_forgetAnswers_6 : decode cX11_forgetAnswers 6 = .ok (.getfield 87, 3) := by decide +kernel
theorem dX11_forgetAnswers_9 : decode cX11_forgetAnswers 9 = .ok (.invokevirtual 226, 3) := by decide +kernel
theorem dX11_forgetAnswers_12 : decode cX11_forgetAnswers 12 = .ok (.return_, 1) := by decide +kernel
set_option maxRecDepth 20000 in
theorem ggX11_chartOfWord_X0_fill : GoodIn wsX11_chartOfWord wsX0_fill := goodIn_r _ [8, 9, 10, 11, 12, 13, 14, 15, 16, 17, 18, 19, 20, 21, 22, 23, 24, 25, 26, 27, 28, 29, 30, 31, 32, 33, 34, 35, 36, 37, 38, 39, 40, 41, 42, 43, 44, 45, 46, 47, 48, 49, 50, 51, 7, 52, 53, 54, 55, 56, 57, 58, 59, 60, 61, 62, 63, 64, 65, 66, 67, 68, 69, 70, 71, 72, 73, 74, 75, 76, 77, 78, 79, 80, 81, 82, 83, 84, 85, 86, 87, 88, 89, 90, 91, 92, 93, 94, 95, 96, 97, 98, 99, 100, 101, 102, 103, 104, 105, 106, 107, 108, 109, 110, 111, 112, 113, 114, 115, 116, 117, 118, 119, 120, 121, 122, 123, 124, 125, 126, 127, 128, 129, 130, 131, 132, 146, 147, 148, 149, 150, 151, 152, 153, 154, 155, 156, 157, 158, 159, 160] (by decide +kernel) (by decide +kernel)
set_option maxRecDepth 20000 in
theorem gX11_chartOfWord_X0_fill : GoodIn wsX11_chartOfWord (wsV RX11 261 RX0 yX0_fill wsX0_fill) := goodIn_app (goodIn_of _ (by decide +kernel)) ggX11_chartOfWord_X0_fill
theorem dX11_chartOfWord_0 : decode cX11_chartOfWord 0 = .ok (.aload_n 0, 1) := by decide +kernel
theorem dX11_chartOfWord_1 : decode cX11_chartOfWord 1 = .ok (.getfield 91, 3) := by decide +kernel
theorem dX11_chartOfWord_4 : decode cX11_chartOfWord 4 = .ok (.ifCond .ne 19, 3) := by decide +kernel
theorem dX11_chartOfWord_7 : decode cX11_chartOfWord 7 = .ok (.aload_n 0, 1) := by decide +kernel
theorem dX11_chartOfWord_8 : decode cX11_chartOfWord 8 = .ok (.getfield 57, 3) := by decide +kernel
theorem dX11_chartOfWord_11 : decode cX11_chartOfWord 11 = .ok (.aload_n 0, 1) := by decide +kernel
theorem dX11_chartOfWord_12 : decode cX11_chartOfWord 12 = .ok (.getfield 38, 3) := by decide +kernel
theorem dX11_chartOfWord_15 : decode cX11_chartOfWord 15 = .ok (.invokevirtual 261, 3) := by decide +kernel
theorem dX11_chartOfWord_18 : decode cX11_chartOfWord 18 = .ok (.aload_n 0, 1) := by decide +kernel
theorem dX11_chartOfWord_19 : decode cX11_chartOfWord 19 = .ok (.iconst 1, 1) := by decide +kernel
theorem dX11_chartOfWord_20 : decode cX11_chartOfWord 20 = .ok (.putfield 91, 3) := by decide +kernel
theorem dX11_chartOfWord_23 : decode cX11_chartOfWord 23 = .ok (.aload_n 0, 1) := by decide +kernel
theorem dX11_chartOfWord_24 : decode cX11_chartOfWord 24 = .ok (.getfield 57, 3) := by decide +kernel
theorem dX11_chartOfWord_27 : decode cX11_chartOfWord 27 = .ok (.areturn, 1) := by decide +kernel
set_option maxRecDepth 20000 in
theorem ggX11_textFit_X11_chartOfWord : GoodIn wsX11_textFit wsX11_chartOfWord := goodIn_r _ [9, 10, 11, 3, 12, 13, 14, 15, 16, 17, 18, 19, 20, 21, 22, 23, 24, 25, 26, 27, 28, 29, 30, 31, 32, 33, 34, 35, 36, 37, 38, 39, 40, 8, 41, 42, 43, 44, 45, 46, 47, 48, 49, 50, 51, 52, 53, 54, 55, 56, 57, 58, 59, 60, 61, 62, 63, 64, 65, 66, 67, 68, 69, 70, 71, 72, 73, 74, 75, 76, 77, 78, 79, 80, 81, 82, 83, 84, 85, 86, 87, 88, 89, 90, 91, 92, 93, 94, 95, 96, 97, 98, 99, 100, 101, 102, 103, 104, 105, 106, 107, 108, 109, 110, 111, 112, 113, 114, 115, 116, 117, 118, 119, 120, 121, 122, 123, 124, 125, 126, 127, 128, 129, 130, 131, 132, 133, 134, 135, 136, 137, 138, 139, 141, 142, 143, 144, 145, 146, 147, 148, 149, 150, 151, 152, 153, 163, 164, 165, 166, 167, 161, 162, 154, 155, 156, 157, 158, 159, 160, 168] (by decide +kernel) (by decide +kernel)
set_option maxRecDepth 20000 in
theorem gX11_textFit_X11_chartOfWord : GoodIn wsX11_textFit (wsV RX11 144 RX11 yX11_chartOfWord wsX11_chartOfWord) := goodIn_app (goodIn_of _ (by decide +kernel)) ggX11_textFit_X11_chartOfWord
set_option maxRecDepth 20000 in
theorem ggX11_textFit_X0_fitOf : GoodIn wsX11_textFit wsX0_fitOf := goodIn_r _ [115, 116, 117, 118, 15, 119, 99, 104, 163, 164, 165, 166, 167] (by decide +kernel) (by decide +kernel)
set_option maxRecDepth 20000 in
theorem gX11_textFit_X0_fitOf : GoodIn wsX11_textFit (wsV RX11 188 RX0 yX0_fitOf wsX0_fitOf) := goodIn_app (goodIn_of _ (by decide +kernel)) ggX11_textFit_X0_fitOf
theorem dX11_textFit_0 : decode cX11_textFit 0 = .ok (.aload_n 0, 1) := by decide +kernel
theorem dX11_textFit_1 : decode cX11_textFit 1 = .ok (.invokevirtual 144, 3) := by decide +kernel
theorem dX11_textFit_4 : decode cX11_textFit 4 = .ok (.iconst 4, 1) := by decide +kernel
theorem dX11_textFit_5 : decode cX11_textFit 5 = .ok (.aload_n 0, 1) := by decide +kernel
theorem dX11_textFit_6 : decode cX11_textFit 6 = .ok (.getfield 19, 3) := by decide +kernel
theorem dX11_textFit_9 : decode cX11_textFit 9 = .ok (.getfield 253, 3) := by decide +kernel
theorem dX11_textFit_12 : decode cX11_textFit 12 = .ok (.iadd, 1) := by decide +kernel
theorem dX11_textFit_13 : decode cX11_textFit 13 = .ok (.iconst 0, 1) := by decide +kernel
theorem dX11_textFit_14 : decode cX11_textFit 14 = .ok (.aload_n 0, 1) := by decide +kernel
theorem dX11_textFit_15 : decode cX11_textFit 15 = .ok (.getfield 38, 3) := by decide +kernel
theorem dX11_textFit_18 : decode cX11_textFit 18 = .ok (.getfield 171, 3) := by decide +kernel
theorem dX11_textFit_21 : decode cX11_textFit 21 = .ok (.invokevirtual 188, 3) := by decide +kernel
theorem dX11_textFit_24 : decode cX11_textFit 24 = .ok (.lreturn, 1) := by decide +kernel
set_option maxRecDepth 20000 in
theorem ggX11_refusalOf_X3_lengthOf : GoodIn wsX11_refusalOf wsX3_lengthOf := goodIn_r _ [5, 6] (by decide +kernel) (by decide +kernel)
set_option maxRecDepth 20000 in
theorem gX11_refusalOf_X3_lengthOf : GoodIn wsX11_refusalOf (va_wsS RX11 256 yX3_lengthOf wsX3_lengthOf) := goodIn_app (goodIn_of _ (by decide +kernel)) ggX11_refusalOf_X3_lengthOf
theorem dX11_refusalOf_0 : decode cX11_refusalOf 0 = .ok (.lload_n 0, 1) := by decide +kernel
theorem dX11_refusalOf_1 : decode cX11_refusalOf 1 = .ok (.ldc2_w 158, 3) := by decide +kernel
theorem dX11_refusalOf_4 : decode cX11_refusalOf 4 = .ok (.lcmp, 1) := by decide +kernel
theorem dX11_refusalOf_5 : decode cX11_refusalOf 5 = .ok (.ifCond .ne 6, 3) := by decide +kernel
theorem dX11_refusalOf_8 : decode cX11_refusalOf 8 = .ok (.bipush (-5), 2) := by decide +kernel
theorem dX11_refusalOf_10 : decode cX11_refusalOf 10 = .ok (.ireturn, 1) := by decide +kernel
theorem dX11_refusalOf_11 : decode cX11_refusalOf 11 = .ok (.lload_n 0, 1) := by decide +kernel
theorem dX11_refusalOf_12 : decode cX11_refusalOf 12 = .ok (.invokestatic 256, 3) := by decide +kernel
theorem dX11_refusalOf_15 : decode cX11_refusalOf 15 = .ok (.bipush 12, 2) := by decide +kernel
theorem dX11_refusalOf_17 : decode cX11_refusalOf 17 = .ok (.if_icmp .le 8, 3) := by decide +kernel
theorem dX11_refusalOf_20 : decode cX11_refusalOf 20 = .ok (.bipush (-3), 2) := by decide +kernel
theorem dX11_refusalOf_22 : decode cX11_refusalOf 22 = .ok (.goto 4, 3) := by decide +kernel
theorem dX11_refusalOf_25 : decode cX11_refusalOf 25 = .ok (.iconst 0, 1) := by decide +kernel
theorem dX11_refusalOf_26 : decode cX11_refusalOf 26 = .ok (.ireturn, 1) := by decide +kernel
set_option maxRecDepth 20000 in
theorem ggX11_readText_X10_clear : GoodIn wsX11_readText wsX10_clear := goodIn_r _ [6, 7, 35, 36] (by decide +kernel) (by decide +kernel)
set_option maxRecDepth 20000 in
theorem gX11_readText_X10_clear : GoodIn wsX11_readText (wsV RX11 164 RX10 yX10_clear wsX10_clear) := goodIn_app (goodIn_of _ (by decide +kernel)) ggX11_readText_X10_clear
set_option maxRecDepth 20000 in
theorem ggX11_readText_X3_lengthOf : GoodIn wsX11_readText wsX3_lengthOf := goodIn_r _ [11, 12] (by decide +kernel) (by decide +kernel)
set_option maxRecDepth 20000 in
theorem gX11_readText_X3_lengthOf : GoodIn wsX11_readText (va_wsS RX11 256 yX3_lengthOf wsX3_lengthOf) := goodIn_app (goodIn_of _ (by decide +kernel)) ggX11_readText_X3_lengthOf
set_option maxRecDepth 20000 in
theorem ggX11_readText_X3_letterAt : GoodIn wsX11_readText wsX3_letterAt := goodIn_r _ [15, 16, 9, 10, 11, 12] (by decide +kernel) (by decide +kernel)
set_option maxRecDepth 20000 in
theorem gX11_readText_X3_letterAt : GoodIn wsX11_readText (va_wsS RX11 258 yX3_letterAt wsX3_letterAt) := goodIn_app (goodIn_of _ (by decide +kernel)) ggX11_readText_X3_letterAt
set_option maxRecDepth 20000 in
theorem ggX11_readText_X10_add : GoodIn wsX11_readText wsX10_add := goodIn_r _ [20, 7, 21, 35, 36] (by decide +kernel) (by decide +kernel)
set_option maxRecDepth 20000 in
theorem gX11_readText_X10_add : GoodIn wsX11_readText (wsV RX11 169 RX10 yX10_add wsX10_add) := goodIn_app (goodIn_of _ (by decide +kernel)) ggX11_readText_X10_add
theorem dX11_readText_0 : decode cX11_readText 0 = .ok (.aload_n 0, 1) := by decide +kernel
theorem dX11_readText_1 : decode cX11_readText 1 = .ok (.getfield 42, 3) := by decide +kernel
theorem dX11_readText_4 : decode cX11_readText 4 = .ok (.invokevirtual 164, 3) := by decide +kernel
theorem dX11_readText_7 : decode cX11_readText 7 = .ok (.iconst 0, 1) := by decide +kernel
theorem dX11_readText_8 : decode cX11_readText 8 = .ok (.istore_n 3, 1) := by decide +kernel
theorem dX11_readText_9 : decode cX11_readText 9 = .ok (.iload_n 3, 1) := by decide +kernel
theorem dX11_readText_10 : decode cX11_readText 10 = .ok (.bipush 12, 2) := by decide +kernel
theorem dX11_readText_12 : decode cX11_readText 12 = .ok (.if_icmp .ge 29, 3) := by decide +kernel
theorem dX11_readText_15 : decode cX11_readText 15 = .ok (.iload_n 3, 1) := by decide +kernel
theorem dX11_readText_16 : decode cX11_readText 16 = .ok (.lload_n 1, 1) := by decide +kernel
theorem dX11_readText_17 : decode cX11_readText 17 = .ok (.invokestatic 256, 3) := by decide +kernel
theorem dX11_readText_20 : decode cX11_readText 20 = .ok (.if_icmp .ge 21, 3) := by decide +kernel
theorem dX11_readText_23 : decode cX11_readText 23 = .ok (.aload_n 0, 1) := by decide +kernel
theorem dX11_readText_24 : decode cX11_readText 24 = .ok (.getfield 42, 3) := by decide +kernel
theorem dX11_readText_27 : decode cX11_readText 27 = .ok (.lload_n 1, 1) := by decide +kernel
theorem dX11_readText_28 : decode cX11_readText 28 = .ok (.iload_n 3, 1) := by decide +kernel
theorem dX11_readText_29 : decode cX11_readText 29 = .ok (.invokestatic 258, 3) := by decide +kernel
theorem dX11_readText_32 : decode cX11_readText 32 = .ok (.invokevirtual 169, 3) := by decide +kernel
theorem dX11_readText_35 : decode cX11_readText 35 = .ok (.iinc 3 1, 3) := by decide +kernel
theorem dX11_readText_38 : decode cX11_readText 38 = .ok (.goto (-29), 3) := by decide +kernel
theorem dX11_readText_41 : decode cX11_readText 41 = .ok (.return_, 1) := by decide +kernel
set_option maxRecDepth 20000 in
theorem ggX11_waysThatKeep_X7_leastAt : GoodIn wsX11_waysThatKeep wsX7_leastAt := goodIn_r _ [10, 11, 12, 40, 41, 42] (by decide +kernel) (by decide +kernel)
set_option maxRecDepth 20000 in
theorem gX11_waysThatKeep_X7_leastAt : GoodIn wsX11_waysThatKeep (wsV RX11 237 RX7 yX7_leastAt wsX7_leastAt) := goodIn_app (goodIn_of _ (by decide +kernel)) ggX11_waysThatKeep_X7_leastAt
set_option maxRecDepth 20000 in
theorem ggX11_waysThatKeep_X10_letterAt : GoodIn wsX11_waysThatKeep wsX10_letterAt := goodIn_r _ [17, 18, 19, 38, 39] (by decide +kernel) (by decide +kernel)
set_option maxRecDepth 20000 in
theorem gX11_waysThatKeep_X10_letterAt : GoodIn wsX11_waysThatKeep (wsV RX11 264 RX10 yX10_letterAt wsX10_letterAt) := goodIn_app (goodIn_of _ (by decide +kernel)) ggX11_waysThatKeep_X10_letterAt
set_option maxRecDepth 20000 in
theorem ggX11_waysThatKeep_X7_countAt : GoodIn wsX11_waysThatKeep wsX7_countAt := goodIn_r _ [23, 24, 40, 41, 42] (by decide +kernel) (by decide +kernel)
set_option maxRecDepth 20000 in
theorem gX11_waysThatKeep_X7_countAt : GoodIn wsX11_waysThatKeep (wsV RX11 211 RX7 yX7_countAt wsX7_countAt) := goodIn_app (goodIn_of _ (by decide +kernel)) ggX11_waysThatKeep_X7_countAt
theorem dX11_waysThatKeep_0 : decode cX11_waysThatKeep 0 = .ok (.aload_n 0, 1) := by decide +kernel
theorem dX11_waysThatKeep_1 : decode cX11_waysThatKeep 1 = .ok (.getfield 38, 3) := by decide +kernel
theorem dX11_waysThatKeep_4 : decode cX11_waysThatKeep 4 = .ok (.getfield 171, 3) := by decide +kernel
theorem dX11_waysThatKeep_7 : decode cX11_waysThatKeep 7 = .ok (.iload_n 1, 1) := by decide +kernel
theorem dX11_waysThatKeep_8 : decode cX11_waysThatKeep 8 = .ok (.isub, 1) := by decide +kernel
theorem dX11_waysThatKeep_9 : decode cX11_waysThatKeep 9 = .ok (.iconst 1, 1) := by decide +kernel
theorem dX11_waysThatKeep_10 : decode cX11_waysThatKeep 10 = .ok (.isub, 1) := by decide +kernel
theorem dX11_waysThatKeep_11 : decode cX11_waysThatKeep 11 = .ok (.istore_n 2, 1) := by decide +kernel
theorem dX11_waysThatKeep_12 : decode cX11_waysThatKeep 12 = .ok (.aload_n 0, 1) := by decide +kernel
theorem dX11_waysThatKeep_13 : decode cX11_waysThatKeep 13 = .ok (.getfield 75, 3) := by decide +kernel
theorem dX11_waysThatKeep_16 : decode cX11_waysThatKeep 16 = .ok (.aload_n 0, 1) := by decide +kernel
theorem dX11_waysThatKeep_17 : decode cX11_waysThatKeep 17 = .ok (.getfield 38, 3) := by decide +kernel
theorem dX11_waysThatKeep_20 : decode cX11_waysThatKeep 20 = .ok (.getfield 171, 3) := by decide +kernel
theorem dX11_waysThatKeep_23 : decode cX11_waysThatKeep 23 = .ok (.aload_n 0, 1) := by decide +kernel
theorem dX11_waysThatKeep_24 : decode cX11_waysThatKeep 24 = .ok (.getfield 42, 3) := by decide +kernel
theorem dX11_waysThatKeep_27 : decode cX11_waysThatKeep 27 = .ok (.getfield 171, 3) := by decide +kernel
theorem dX11_waysThatKeep_30 : decode cX11_waysThatKeep 30 = .ok (.invokevirtual 237, 3) := by decide +kernel
theorem dX11_waysThatKeep_33 : decode cX11_waysThatKeep 33 = .ok (.istore_n 3, 1) := by decide +kernel
theorem dX11_waysThatKeep_34 : decode cX11_waysThatKeep 34 = .ok (.iconst 0, 1) := by decide +kernel
theorem dX11_waysThatKeep_35 : decode cX11_waysThatKeep 35 = .ok (.istore 4, 2) := by decide +kernel
theorem dX11_waysThatKeep_37 : decode cX11_waysThatKeep 37 = .ok (.iconst 0, 1) := by decide +kernel
theorem dX11_waysThatKeep_38 : decode cX11_waysThatKeep 38 = .ok (.istore 5, 2) := by decide +kernel
theorem dX11_waysThatKeep_40 : decode cX11_waysThatKeep 40 = .ok (.iload 5, 2) := by decide +kernel
theorem dX11_waysThatKeep_42 : decode cX11_waysThatKeep 42 = .ok (.aload_n 0, 1) := by decide +kernel
theorem dX11_waysThatKeep_43 : decode cX11_waysThatKeep 43 = .ok (.getfield 42, 3) := by decide +kernel
theorem dX11_waysThatKeep_46 : decode cX11_waysThatKeep 46 = .ok (.getfield 171, 3) := by decide +kernel
theorem dX11_waysThatKeep_49 : decode cX11_waysThatKeep 49 = .ok (.if_icmp .ge 94, 3) := by decide +kernel
theorem dX11_waysThatKeep_52 : decode cX11_waysThatKeep 52 = .ok (.aload_n 0, 1) := by decide +kernel
theorem dX11_waysThatKeep_53 : decode cX11_waysThatKeep 53 = .ok (.getfield 42, 3) := by decide +kernel
theorem dX11_waysThatKeep_56 : decode cX11_waysThatKeep 56 = .ok (.getfield 171, 3) := by decide +kernel
theorem dX11_waysThatKeep_59 : decode cX11_waysThatKeep 59 = .ok (.iload 5, 2) := by decide +kernel
theorem dX11_waysThatKeep_61 : decode cX11_waysThatKeep 61 = .ok (.isub, 1) := by decide +kernel
theorem dX11_waysThatKeep_62 : decode cX11_waysThatKeep 62 = .ok (.iconst 1, 1) := by decide +kernel
theorem dX11_waysThatKeep_63 : decode cX11_waysThatKeep 63 = .ok (.isub, 1) := by decide +kernel
theorem dX11_waysThatKeep_64 : decode cX11_waysThatKeep 64 = .ok (.istore 6, 2) := by decide +kernel
theorem dX11_waysThatKeep_66 : decode cX11_waysThatKeep 66 = .ok (.aload_n 0, 1) := by decide +kernel
theorem dX11_waysThatKeep_67 : decode cX11_waysThatKeep 67 = .ok (.getfield 38, 3) := by decide +kernel
theorem dX11_waysThatKeep_70 : decode cX11_waysThatKeep 70 = .ok (.iload_n 1, 1) := by decide +kernel
theorem dX11_waysThatKeep_71 : decode cX11_waysThatKeep 71 = .ok (.invokevirtual 264, 3) := by decide +kernel
theorem dX11_waysThatKeep_74 : decode cX11_waysThatKeep 74 = .ok (.aload_n 0, 1) := by decide +kernel
theorem dX11_waysThatKeep_75 : decode cX11_waysThatKeep 75 = .ok (.getfield 42, 3) := by decide +kernel
theorem dX11_waysThatKeep_78 : decode cX11_waysThatKeep 78 = .ok (.iload 5, 2) := by decide +kernel
theorem dX11_waysThatKeep_80 : decode cX11_waysThatKeep 80 = .ok (.invokevirtual 264, 3) := by decide +kernel
theorem dX11_waysThatKeep_83 : decode cX11_waysThatKeep 83 = .ok (.if_icmp .ne 54, 3) := by decide +kernel
theorem dX11_waysThatKeep_86 : decode cX11_waysThatKeep 86 = .ok (.aload_n 0, 1) := by decide +kernel
theorem dX11_waysThatKeep_87 : decode cX11_waysThatKeep 87 = .ok (.getfield 75, 3) := by decide +kernel
theorem dX11_waysThatKeep_90 : decode cX11_waysThatKeep 90 = .ok (.iload_n 1, 1) := by decide +kernel
theorem dX11_waysThatKeep_91 : decode cX11_waysThatKeep 91 = .ok (.iload 5, 2) := by decide +kernel
theorem dX11_waysThatKeep_93 : decode cX11_waysThatKeep 93 = .ok (.invokevirtual 237, 3) := by decide +kernel
theorem dX11_waysThatKeep_96 : decode cX11_waysThatKeep 96 = .ok (.aload_n 0, 1) := by decide +kernel
theorem dX11_waysThatKeep_97 : decode cX11_waysThatKeep 97 = .ok (.getfield 79, 3) := by decide +kernel
theorem dX11_waysThatKeep_100 : decode cX11_waysThatKeep 100 = .ok (.iload_n 2, 1) := by decide +kernel
theorem dX11_waysThatKeep_101 : decode cX11_waysThatKeep 101 = .ok (.iload 6, 2) := by decide +kernel
theorem dX11_waysThatKeep_103 : decode cX11_waysThatKeep 103 = .ok (.invokevirtual 237, 3) := by decide +kernel
theorem dX11_waysThatKeep_106 : decode cX11_waysThatKeep 106 = .ok (.iadd, 1) := by decide +kernel
theorem dX11_waysThatKeep_107 : decode cX11_waysThatKeep 107 = .ok (.iload_n 3, 1) := by decide +kernel
theorem dX11_waysThatKeep_108 : decode cX11_waysThatKeep 108 = .ok (.if_icmp .ne 29, 3) := by decide +kernel
theorem dX11_waysThatKeep_111 : decode cX11_waysThatKeep 111 = .ok (.iload 4, 2) := by decide +kernel
theorem dX11_waysThatKeep_113 : decode cX11_waysThatKeep 113 = .ok (.aload_n 0, 1) := by decide +kernel
theorem dX11_waysThatKeep_114 : decode cX11_waysThatKeep 114 = .ok (.getfield 75, 3) := by decide +kernel
theorem dX11_waysThatKeep_117 : decode cX11_waysThatKeep 117 = .ok (.iload_n 1, 1) := by decide +kernel
theorem dX11_waysThatKeep_118 : decode cX11_waysThatKeep 118 = .ok (.iload 5, 2) := by decide +kernel
theorem dX11_waysThatKeep_120 : decode cX11_waysThatKeep 120 = .ok (.invokevirtual 211, 3) := by decide +kernel
theorem dX11_waysThatKeep_123 : decode cX11_waysThatKeep 123 = .ok (.aload_n 0, 1) := by decide +kernel
theorem dX11_waysThatKeep_124 : decode cX11_waysThatKeep 124 = .ok (.getfield 79, 3) := by decide +kernel
theorem dX11_waysThatKeep_127 : decode cX11_waysThatKeep 127 = .ok (.iload_n 2, 1) := by decide +kernel
theorem dX11_waysThatKeep_128 : decode cX11_waysThatKeep 128 = .ok (.iload 6, 2) := by decide +kernel
theorem dX11_waysThatKeep_130 : decode cX11_waysThatKeep 130 = .ok (.invokevirtual 211, 3) := by decide +kernel
theorem dX11_waysThatKeep_133 : decode cX11_waysThatKeep 133 = .ok (.imul, 1) := by decide +kernel
theorem dX11_waysThatKeep_134 : decode cX11_waysThatKeep 134 = .ok (.iadd, 1) := by decide +kernel
theorem dX11_waysThatKeep_135 : decode cX11_waysThatKeep 135 = .ok (.istore 4, 2) := by decide +kernel
theorem dX11_waysThatKeep_137 : decode cX11_waysThatKeep 137 = .ok (.iinc 5 1, 3) := by decide +kernel
theorem dX11_waysThatKeep_140 : decode cX11_waysThatKeep 140 = .ok (.goto (-100), 3) := by decide +kernel
theorem dX11_waysThatKeep_143 : decode cX11_waysThatKeep 143 = .ok (.iload 4, 2) := by decide +kernel
theorem dX11_waysThatKeep_145 : decode cX11_waysThatKeep 145 = .ok (.ireturn, 1) := by decide +kernel
